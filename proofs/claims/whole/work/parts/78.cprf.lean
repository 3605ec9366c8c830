/-! 78.cprf: the developers' own: perform; a state is copied -/
def pF (M0 : xm) (N : Int) (M : xm) : Prop := (∀ l j, old M0 l → ¬ l % 274877906944 = 83777028102 → ¬ l = aBlok → ¬ l = aMarks → mA M l j = mA M0 l j) ∧ (∀ l j, old M0 l → ¬ l % 274877906944 = 83777028102 → mB M l j = mB M0 l j) ∧ (∀ l j, old M0 l → ¬ (l % 274877906944 = 83777028102 ∧ j = 0) → (∀ o : Nat, ¬ l = fedA (10 * o)) → mR M l j = mR M0 l j) ∧ (∀ k, mC M0 k ≤ mC M k ∧ (¬ k % 64 = 5 → ¬ k % 64 = 33 → mC M k = mC M0 k)) ∧ ((mK M : Int) ≤ mK M0 + 2 * N ∧ mK M0 ≤ mK M ∧ (mS M : Int) ≤ mS M0 + 20 * N ∧ mS M0 ≤ mS M) ∧ inR M
theorem pF_of {M0 M1 M2 M3 : xm} {k N : Int} (h : pG M1 k M2) (hk : k ≤ N) (e1 : ∀ l j, ¬ l = aBlok → mA M1 l j = mA M0 l j) (e2 : mB M1 = mB M0 ∧ mR M1 = mR M0 ∧ mC M1 = mC M0 ∧ mK M1 = mK M0 ∧ mS M1 = mS M0) (g : clG M2 M3) : pF M0 N M3 := by
  obtain ⟨a1, a2, a3, a4, a5, a6⟩ := h
  obtain ⟨g1, g2, g3, g4, g5, g6⟩ := g
  obtain ⟨b1, b2, b3, b4, b5⟩ := e2
  have ol : ∀ l, old M0 l → old M1 l := fun l o => by
    rcases o with o | o
    · exact Or.inl (by unfold alv at o ⊢; rw [b3]; exact o)
    · exact Or.inr o
  refine ⟨fun l j o u v w => ?_, fun l j o u => ?_, fun l j o u v => ?_, fun c => ?_, ?_, g6⟩
  · rw [g1 l j (fun q => v q.1) w, a1 l j (ol l o) u (fun q => v q.1) w, e1 l j v]
  · rw [g2, a2 l j (ol l o) u, b1]
  · rw [g3, a3 l j (ol l o) u, b2]
  · rw [g4, ← b3]
    exact a4 c
  · rw [g5.1, g5.2, ← b4, ← b5]
    omega
theorem pF.f {M0 M M' : xm} {N : Int} (h : pF M0 N M) (g : fnG M M') : pF M0 N M' := by
  obtain ⟨a1, a2, a3, a4, a5, a6⟩ := h
  obtain ⟨g1, g2, g3, g4, g5, g6⟩ := g
  refine ⟨fun l j o u v w => ?_, fun l j o u => ?_, fun l j o u v => ?_, fun c => ?_, ?_, g6⟩
  · rw [g1 l j (fun q => u q.1), a1 l j o u v w]
  · rw [g2, a2 l j o u]
  · rw [g3 l j v, a3 l j o u v]
  · rw [g4]
    exact a4 c
  · rw [g5.1, g5.2]
    exact a5
theorem c_perform {M : xm} {N n t : Int} {A : Int → SS} {rk : Int → Nat} (hC : cS M N) (hT : cTb M) (hA : cA M N t A) (hok : ∀ o, 0 ≤ o → o ≤ 23 → okS t (A o)) (hn : 1 ≤ n ∧ n ≤ 16) (hrk : noLp (mA M) N rk) (hline : ∀ i : Nat, (i : Int) < N → mA M aLine i = ofn (mA M) N i) (ht : t ≤ 49900) (Q : Option xv → xm → Prop)
    (hf : ∀ f m j c M', bkF (mA M) n (ofn (mA M) N) N.toNat 0 A = .inl (f, m, j, c) → pF M N M' → (1 ≤ c ∧ c ≤ N) → mA M' aBlok 6 = 2 * c → (∀ i : Nat, (i : Int) < 2 * c → mA M' aMarks i = trF (ofn (mA M) N) c i) → mA M' aBlok 0 = f → (1 ≤ f ∧ f ≤ 5) → mA M' aBlok 1 = m → mA M' aBlok 2 = j → Q (some (vI f)) M')
    (hg : ∀ A' M', bkF (mA M) n (ofn (mA M) N) N.toNat 0 A = .inr A' → pF M N M' → mA M' aBlok 6 = 2 * N → (∀ i : Nat, (i : Int) < 2 * N → mA M' aMarks i = trF (ofn (mA M) N) N i) → mA M' aBlok 0 = 0 → (∀ o, 0 ≤ o → o < N → cS1 M' (nowA o.toNat) (fedA (10 * o).toNat) (bfA (mA M) N (fdA (mA M) N A') o)) → (∀ o, 0 ≤ o → o ≤ 23 → okS (t + N) (bfA (mA M) N (fdA (mA M) N A') o)) → Q (some (vI 0)) M') : Wp qX0_perform 0 [vR aBlok, vI n, vX, vX] [] M Q := by
  have hN := hC.2.2.1.2.2
  have hR := hC.2.1.2.1
  have e1 : ∀ l j, ¬ l = aBlok → mA (wA (wA (wA M aBlok 7 n) aBlok 0 0) aBlok 6 0) l j = mA M l j := fun l j h => by rw [wA_o _ _ (fun q => h q.1), wA_o _ _ (fun q => h q.1), wA_o _ _ (fun q => h q.1)]
  have e7 : mA (wA (wA (wA M aBlok 7 n) aBlok 0 0) aBlok 6 0) aBlok 7 = n := by rw [wA_o _ _ (by decide), wA_o _ _ (by decide), wA_e]
  have e0 : mA (wA (wA (wA M aBlok 7 n) aBlok 0 0) aBlok 6 0) aBlok 0 = 0 := by rw [wA_o _ _ (by decide), wA_e]
  have e6 : mA (wA (wA (wA M aBlok 7 n) aBlok 0 0) aBlok 6 0) aBlok 6 = 0 := wA_e _ _ _ _
  have hR1 : inR (wA (wA (wA M aBlok 7 n) aBlok 0 0) aBlok 6 0) := ((hR.wA _ _ (wr_id (by omega) (by omega))).wA _ _ (by decide)).wA _ _ (by decide)
  have e2 : mB (wA (wA (wA M aBlok 7 n) aBlok 0 0) aBlok 6 0) = mB M ∧ mR (wA (wA (wA M aBlok 7 n) aBlok 0 0) aBlok 6 0) = mR M ∧ mC (wA (wA (wA M aBlok 7 n) aBlok 0 0) aBlok 6 0) = mC M ∧ mK (wA (wA (wA M aBlok 7 n) aBlok 0 0) aBlok 6 0) = mK M ∧ mS (wA (wA (wA M aBlok 7 n) aBlok 0 0) aBlok 6 0) = mS M := ⟨rfl, rfl, rfl, rfl, rfl⟩
  have hr1 : rowG M (wA (wA (wA M aBlok 7 n) aBlok 0 0) aBlok 6 0) := ⟨fun _ => Nat.le_refl _, fun l j _ t => ⟨e1 l j (fun q => absurd t (by rw [q]; decide)), rfl⟩, fun _ _ _ _ _ => rfl⟩
  generalize hM1 : wA (wA (wA M aBlok 7 n) aBlok 0 0) aBlok 6 0 = M1 at *
  have na1 : ∀ l j, ¬ nonS l → mA M1 l j = mA M l j := fun l j q => e1 l j (fun z => q (by rw [z]; exact Or.inr (Or.inr (Or.inr (Or.inl (by decide))))))
  have hC1 : cS M1 N := cS_c hC hR1 (fun l j _ _ _ _ => by rw [e2.2.1]) na1
  have hT1 : cTb M1 := cTb_c hT na1
  have hA1 := cA_same hA hr1 (fun i j => e1 _ _ (now_b _)) (fun i j => by rw [e2.1]) e2.2.1
  have cE : cEq M M1 := fun j => by
    refine ⟨?_, ?_, ?_, ?_, ?_, ?_⟩ <;> exact e1 _ _ (by decide)
  have eO : ordL (mA M1) N = ordL (mA M) N := ordL_c (fun j => (cE j).2.2.2.1) (fun j => (cE j).1) N
  have eF : ofn (mA M1) N = ofn (mA M) N := by unfold ofn; rw [eO]
  have hrk1 : noLp (mA M1) N rk := fun m i a b c d => by
    have := hrk m i a b c d
    rw [(cE _).2.2.2.1, (cE _).1, (cE _).1]
    exact this
  have bke : bkF (mA M1) n (ofn (mA M1) N) N.toNat 0 A = bkF (mA M) n (ofn (mA M) N) N.toNat 0 A := bkF_c (N := N) (fun A m => actF_c cE n A m) (fun i _ => by rw [eF]) N.toNat 0 A (by omega) (by omega)
  have hor : ∀ i : Nat, (i : Int) < N → 0 ≤ ofn (mA M) N i ∧ ofn (mA M) N i ≤ 23 := fun i hi => by
    have := ordL_at hrk (by omega) i hi
    unfold ofn
    omega
  simp (disch := first | omega | (simp only [DT, DS, ne_eq, Nat.reduceEqDiff, not_false_eq_true]; done)) only [RX0_perform, hM1, BW, wr_id, OM, OE, PL, ↓reduceIte, TGs, bi_T, bi_F, bi_ff, Nat.reduceLeDiff, Nat.reduceLT, Nat.reduceAdd]
  refine p_loop (M0 := M1) (N := N) (n := n) (t := t) (A0 := A) hC1 hT1 hn e7 hrk1 (fun i hi => by rw [e1 _ _ (by decide), eF]; exact hline i hi) ht Q (fun f m j c M2 x3 he p2 hc f6 fmk f0 fb f1 f2 => ?_) (fun A' M2 x3 he p2 f0 f6 fmk hA2 hok2 => ?_) N.toNat 0 A M1 vX (by omega) (by omega) (pG.refl hR1) e0 e6 (fun i hi => by omega) (by rw [show t + 0 = t by omega]; exact hA1) (fun o a b => by rw [show t + 0 = t by omega]; exact hok o a b) rfl
  · rw [bke] at he
    rw [eF] at fmk
    have hC2 := p2.s hC1
    have hR2 := hC2.r
    simp (disch := first | omega | (simp only [DT, DS, ne_eq, Nat.reduceEqDiff, not_false_eq_true]; done)) only [RX0_perform, BW, wr_id, OM, OE, PL, ↓reduceIte, TGs, bi_T, bi_F, bi_ff, Nat.reduceLeDiff, Nat.reduceLT, Nat.reduceAdd]
    refine c_close hC2 (by omega) (fun i hi => hor i (by omega)) f6 fmk _ (fun M3 g3 g6 gmk => ?_)
    have hC3 := g3.s hC2
    have hR3 := hC3.r
    have h0 : mA M3 aBlok 0 = f := by rw [g3.1 _ _ (by decide) (by decide)]; exact f0
    have fin := hf f m j c M3 he (pF_of p2 hc.2 e1 e2 g3) hc g6 gmk h0 fb (by rw [g3.1 _ _ (by decide) (by decide)]; exact f1) (by rw [g3.1 _ _ (by decide) (by decide)]; exact f2)
    simp (disch := first | omega | (simp only [DT, DS, ne_eq, Nat.reduceEqDiff, not_false_eq_true]; done)) only [RX0_perform, h0, BW, wr_id, OM, OE, PL, ↓reduceIte, TGs, bi_T, bi_F, bi_ff, Nat.reduceLeDiff, Nat.reduceLT, Nat.reduceAdd]
    exact fin
  · rw [bke] at he
    rw [eF] at fmk
    have hC2 := p2.s hC1
    have hR2 := hC2.r
    simp (disch := first | omega | (simp only [DT, DS, ne_eq, Nat.reduceEqDiff, not_false_eq_true]; done)) only [RX0_perform, BW, wr_id, OM, OE, PL, ↓reduceIte, TGs, bi_T, bi_F, bi_ff, Nat.reduceLeDiff, Nat.reduceLT, Nat.reduceAdd]
    refine c_close hC2 (by omega) (fun i hi => hor i hi) f6 fmk _ (fun M3 g3 g6 gmk => ?_)
    have hC3 := g3.s hC2
    have hR3 := hC3.r
    have h0 : mA M3 aBlok 0 = 0 := by rw [g3.1 _ _ (by decide) (by decide)]; exact f0
    have hA3 : cA M3 N (t + N) A' := cA_same hA2 ⟨fun k => by rw [g3.2.2.2.1]; exact Nat.le_refl _, fun l j _ t => ⟨g3.1 l j (fun q => absurd t (by rw [q.1]; decide)) (fun q => absurd t (by rw [q]; decide)), by rw [g3.2.2.1]⟩, fun v j n _ _ => by rw [g3.2.1]⟩ (fun i j => g3.1 _ _ (fun q => now_b _ q.1) (mk_b _)) (fun i j => by rw [g3.2.1]) g3.2.2.1
    have p3 := pF_of p2 (Int.le_refl N) e1 e2 g3
    have cE3 : ∀ j, mA M3 amKd j = mA M amKd j ∧ mA M3 amCo j = mA M amCo j ∧ mA M3 amKn j = mA M amKn j := fun j => by
      refine ⟨?_, ?_, ?_⟩ <;> exact p3.1 _ _ (old_t (by decide) (by decide)) (by decide) (by decide) (by decide)
    have ebf : bfA (mA M3) N (fdA (mA M3) N A') = bfA (mA M) N (fdA (mA M) N A') := by
      funext o
      have e : fdA (mA M3) N A' o = fdA (mA M) N A' o := by
        unfold fdA
        rw [(cE3 _).1, (cE3 _).2.1]
      unfold bfA
      rw [(cE3 _).2.2, e]
    have g := l_fin hC3 hA3 (cont qX0_perform 106 [vR aBlok, vI n, vI N, x3] [] Q) (fun M4 f4 s4 => by
      rw [ebf] at s4
      have h04 : mA M4 aBlok 0 = 0 := by rw [f4.1 _ _ (fun q => absurd q.1 (by decide))]; exact h0
      have fin := hg A' M4 he (p3.f f4) (by rw [f4.1 _ _ (fun q => absurd q.1 (by decide))]; exact g6) (fun i hi => by rw [f4.1 _ _ (fun q => absurd q.1 (by decide))]; exact gmk i hi) h04 s4 (okF hN hC.2.1.2.2.1 hC.2.1.2.2.2.2.2.1 hok2)
      simp (disch := first | omega | (simp only [DT, DS, ne_eq, Nat.reduceEqDiff, not_false_eq_true]; done)) only [RX0_perform, h04, BW, wr_id, OM, OE, PL, ↓reduceIte, TGs, bi_T, bi_F, bi_ff, Nat.reduceLeDiff, Nat.reduceLT, Nat.reduceAdd]
      exact fin) N.toNat 0 M3 vX (by omega) (by omega) (fnG.refl hC3.2.1.2.1) (fun o a b => by rw [if_neg (by omega)]; exact (hA3 o a b).1)
    simp (disch := first | omega | (simp only [DT, DS, ne_eq, Nat.reduceEqDiff, not_false_eq_true]; done)) only [RX0_perform, RX0_finish, h0, BW, wr_id, OM, OE, PL, ↓reduceIte, TGs, bi_T, bi_F, bi_ff, Nat.reduceLeDiff, Nat.reduceLT, Nat.reduceAdd]
    exact g
/-- S is as T was -/
def copG (M M' : xm) (S T FS FT : Nat) : Prop := (∀ l j, mA M' l j = if l = S ∧ (j = 1 ∨ j = 4 ∨ j = 5 ∨ j = 6) then mA M T j else mA M l j) ∧ (∀ l j, mB M' l j = if l = S ∧ (j = 2 ∨ j = 3) then mB M T j else mB M l j) ∧ (∀ l j, mR M' l j = if l = S ∧ j = 0 then mR M T 0 else if l = FS ∧ j < 4 then mR M FT j else mR M l j) ∧ mC M' = mC M ∧ (mK M' = mK M ∧ mS M' = mS M) ∧ inR M'
theorem c_copyFrom {M : xm} {S T FS FT : Nat} (hR : inR M) (tS : tg S = 6) (tT : tg T = 6) (eS : mR M S 7 = FS) (eT : mR M T 7 = FT) (tfs : tg FS = 35 ∧ ln FS = 4) (tft : tg FT = 35 ∧ ln FT = 4) (hST : ¬ T = S) (hF : ¬ FT = FS) (h0 : mR M FT 0 = 0 ∨ tg (mR M FT 0) = 5) (h1 : mR M FT 1 = 0 ∨ tg (mR M FT 1) = 5) (h2 : mR M FT 2 = 0 ∨ tg (mR M FT 2) = 5) (h3 : mR M FT 3 = 0 ∨ tg (mR M FT 3) = 5) (Q : Option xv → xm → Prop) (hg : ∀ M', copG M M' S T FS FT → Q none M') : Wp qX5_copyFrom 0 [vR S, vR T, vX] [] M Q := by
  have hR' : ∀ L k, wr (mA M L k) = mA M L k := hR
  have nS : ¬ FT = S := tg_d tft.1 tS (by decide)
  have nS2 : ¬ FS = S := tg_d tfs.1 tS (by decide)
  have key : copG M (wR (wR (wR (wR (wA (wA (wA (wB (wB (wA (wR M S 0 (mR M T 0)) S 1 (mA M T 1)) S 2 (mB M T 2)) S 3 (mB M T 3)) S 4 (mA M T 4)) S 5 (mA M T 5)) S 6 (mA M T 6)) FS 0 (mR M FT 0)) FS 1 (mR M FT 1)) FS 2 (mR M FT 2)) FS 3 (mR M FT 3)) S T FS FT := by
    refine ⟨fun l j => ?_, fun l j => ?_, fun l j => ?_, rfl, ⟨rfl, rfl⟩, ((((hR.wA S 1 (hR' T 1)).wA S 4 (hR' T 4)).wA S 5 (hR' T 5)).wA S 6 (hR' T 6))⟩
    · simp only [MM]
      by_cases e : l = S
      · rcases (show j = 1 ∨ j = 4 ∨ j = 5 ∨ j = 6 ∨ (¬ j = 1 ∧ ¬ j = 4 ∧ ¬ j = 5 ∧ ¬ j = 6) by omega) with c | c | c | c | c <;> simp [e, c]
      · simp [e]
    · simp only [MM]
      by_cases e : l = S
      · rcases (show j = 2 ∨ j = 3 ∨ (¬ j = 2 ∧ ¬ j = 3) by omega) with c | c | c <;> simp [e, c]
      · simp [e]
    · simp only [MM]
      by_cases e : l = FS
      · have e' : ¬ l = S := by rw [e]; exact nS2
        rcases (show j = 0 ∨ j = 1 ∨ j = 2 ∨ j = 3 ∨ (4 ≤ j) by omega) with c | c | c | c | c
        · simp [e, nS2, c]
        · simp [e, nS2, c]
        · simp [e, nS2, c]
        · simp [e, nS2, c]
        · rw [if_neg (by omega), if_neg (by omega), if_neg (by omega), if_neg (by omega), if_neg (fun q => e' q.1), if_neg (fun q => e' q.1), if_neg (by omega)]
      · simp [e]
  have g := hg _ key
  simp (disch := first | omega | (simp only [DT, DS, ne_eq, Nat.reduceEqDiff, not_false_eq_true]; done)) only [RX5_copyFrom, tS, tT, hR', MM, hST, Nat.reduceEqDiff, BW, wr_id, OM, OE, PL, ↓reduceIte, TGs, bi_T, bi_F, bi_ff, Nat.reduceLeDiff, Nat.reduceLT, Nat.reduceAdd]
  rw [HX5_copyFrom_58]
  simp (disch := first | omega | (simp only [DT, DS, ne_eq, Nat.reduceEqDiff, not_false_eq_true]; done)) only [RX5_copyFrom, tS, tT, eS, eT, tfs.1, tfs.2, tft.1, tft.2, xel5, eq_true h0, MM, hST, hF, nS, Nat.reduceEqDiff, Int.reduceAdd, Int.reduceToNat, BW, wr_id, OM, OE, PL, ↓reduceIte, TGs, bi_T, bi_F, bi_ff, Nat.reduceLeDiff, Nat.reduceLT, Nat.reduceAdd]
  rw [HX5_copyFrom_58]
  simp (disch := first | omega | (simp only [DT, DS, ne_eq, Nat.reduceEqDiff, not_false_eq_true]; done)) only [RX5_copyFrom, tS, tT, eS, eT, tfs.1, tfs.2, tft.1, tft.2, xel5, eq_true h1, MM, hST, hF, nS, Nat.reduceEqDiff, Int.reduceAdd, Int.reduceToNat, BW, wr_id, OM, OE, PL, ↓reduceIte, TGs, bi_T, bi_F, bi_ff, Nat.reduceLeDiff, Nat.reduceLT, Nat.reduceAdd]
  rw [HX5_copyFrom_58]
  simp (disch := first | omega | (simp only [DT, DS, ne_eq, Nat.reduceEqDiff, not_false_eq_true]; done)) only [RX5_copyFrom, tS, tT, eS, eT, tfs.1, tfs.2, tft.1, tft.2, xel5, eq_true h2, MM, hST, hF, nS, Nat.reduceEqDiff, Int.reduceAdd, Int.reduceToNat, BW, wr_id, OM, OE, PL, ↓reduceIte, TGs, bi_T, bi_F, bi_ff, Nat.reduceLeDiff, Nat.reduceLT, Nat.reduceAdd]
  rw [HX5_copyFrom_58]
  simp (disch := first | omega | (simp only [DT, DS, ne_eq, Nat.reduceEqDiff, not_false_eq_true]; done)) only [RX5_copyFrom, tS, tT, eS, eT, tfs.1, tfs.2, tft.1, tft.2, xel5, eq_true h3, MM, hST, hF, nS, Nat.reduceEqDiff, Int.reduceAdd, Int.reduceToNat, BW, wr_id, OM, OE, PL, ↓reduceIte, TGs, bi_T, bi_F, bi_ff, Nat.reduceLeDiff, Nat.reduceLT, Nat.reduceAdd]
  rw [HX5_copyFrom_58]
  simp (disch := first | omega | (simp only [DT, DS, ne_eq, Nat.reduceEqDiff, not_false_eq_true]; done)) only [RX5_copyFrom, BW, wr_id, OM, OE, PL, ↓reduceIte, TGs, bi_T, bi_F, bi_ff, Nat.reduceLeDiff, Nat.reduceLT, Nat.reduceAdd]
  exact g
theorem copG.row {M M' : xm} {S T FS FT : Nat} (h : copG M M' S T FS FT) (tS : tg S = 6) (tf : tg FS = 35) : rowG M M' := ⟨fun k => by rw [h.2.2.2.1]; exact Nat.le_refl _, fun l j _ t => by
  have n1 : ¬ l = S := tg_d t tS (by decide)
  have n2 : ¬ l = FS := tg_d t tf (by decide)
  rw [h.1, h.2.2.1, if_neg (fun q => n1 q.1), if_neg (fun q => n1 q.1), if_neg (fun q => n2 q.1)]
  exact ⟨rfl, rfl⟩, fun v j n _ b => by
  rw [h.2.1, if_neg (fun q => by
    have := q.1
    unfold isV at b
    unfold tg at tS
    omega)]⟩
theorem copG.to {M M' : xm} {S T FS FT : Nat} {s : SS} (h : copG M M' S T FS FT) (tS : tg S = 6) (tf : tg FS = 35) (g : cS1 M T FT s) : cS1 M' S FS s := by
  have hr := h.row tS tf
  have n2 : ¬ FS = S := tg_d tf tS (by decide)
  obtain ⟨g1, ⟨g2, g3, g4, g5, g6, g7⟩, g8⟩ := g
  refine ⟨?_, ⟨?_, ?_, ?_, ?_, ?_, ?_⟩, fun j a b => ?_⟩
  · rw [h.2.2.1, if_pos ⟨rfl, rfl⟩]; exact cRw_f hr g1
  · rw [h.1, if_pos ⟨rfl, by omega⟩]; exact g2
  · rw [h.2.1, if_pos ⟨rfl, by omega⟩]; exact g3
  · rw [h.2.1, if_pos ⟨rfl, by omega⟩]; exact g4
  · rw [h.1, if_pos ⟨rfl, by omega⟩]; exact g5
  · rw [h.1, if_pos ⟨rfl, by omega⟩]; exact g6
  · rw [h.1, if_pos ⟨rfl, by omega⟩]; exact g7
  · rw [h.2.2.1, if_neg (fun q => n2 q.1), if_pos ⟨rfl, by omega⟩]; exact cRw_f hr (g8 j a b)
theorem copG.ot {M M' : xm} {S T FS FT S' F' : Nat} {s : SS} (h : copG M M' S T FS FT) (tS : tg S = 6) (tf : tg FS = 35) (g : cS1 M S' F' s) (h1 : ¬ S' = S) (h2 : ¬ F' = FS) (h3 : ¬ S' = FS) (h4 : ¬ F' = S) : cS1 M' S' F' s :=
  cS1_f (h.row tS tf) g (fun j => by rw [h.1, if_neg (fun q => h1 q.1)]) (fun j => by rw [h.2.1, if_neg (fun q => h1 q.1)]) (by rw [h.2.2.1, if_neg (fun q => h1 q.1), if_neg (fun q => h3 q.1)]) (fun j => by rw [h.2.2.1, if_neg (fun q => h4 q.1), if_neg (fun q => h2 q.1)])
