/-! 86.tblk: both answer alike: block, back -/
def bF (M M' : xm) : Prop := (∀ l j, old M l → ¬ tg l = 6 → ¬ l = aBlok → ¬ l = aMarks → ¬ l = aHist → ¬ l = amIn → ¬ l = amOr → ¬ l = amTr → ¬ (l = aM ∧ (j = 10 ∨ j = 11 ∨ j = 12 ∨ j = 15 ∨ j = 16 ∨ j = 17 ∨ j = 18 ∨ j = 19 ∨ j = 28)) → mA M' l j = mA M l j) ∧ (∀ l j, old M l → ¬ tg l = 6 → ¬ l = amDb → ¬ l = amFr → mB M' l j = mB M l j) ∧ (∀ l j, old M l → ¬ (tg l = 6 ∧ j = 0) → (∀ i, ¬ l = fedA i) → mR M' l j = mR M l j) ∧ (∀ k, mC M k ≤ mC M' k ∧ (¬ k % 64 = 5 → ¬ k % 64 = 33 → mC M' k = mC M k)) ∧ inR M'
theorem bF.ol {M M' : xm} (h : bF M M') {l : Nat} (o : old M l) : old M' l := by
  rcases o with o | o
  · exact Or.inl (alv_m (fun k => (h.2.2.2.1 k).1) o)
  · exact Or.inr o
theorem bF.trans {M M1 M2 : xm} (h : bF M M1) (g : bF M1 M2) : bF M M2 := by
  have ol := fun l o => h.ol (l := l) o
  obtain ⟨a1, a2, a3, a4, a5⟩ := h
  obtain ⟨b1, b2, b3, b4, b5⟩ := g
  exact ⟨fun l j o p q r s t u v w => (b1 l j (ol l o) p q r s t u v w).trans (a1 l j o p q r s t u v w), fun l j o p q r => (b2 l j (ol l o) p q r).trans (a2 l j o p q r), fun l j o p q => (b3 l j (ol l o) p q).trans (a3 l j o p q), fun k => ⟨Nat.le_trans (a4 k).1 (b4 k).1, fun x y => ((b4 k).2 x y).trans ((a4 k).2 x y)⟩, b5⟩
theorem cpG.bf {M M' : xm} {D F : Nat → Prop} (h : cpG M D F M') (hD : ∀ l, D l → tg l = 6) (hF : ∀ l, F l → ∃ i, l = fedA i) : bF M M' := ⟨fun l j _ p _ _ _ _ _ _ _ => h.1 l j (fun q => p (hD l q)), fun l j _ p _ _ => h.2.1 l j (fun q => p (hD l q)), fun l j _ p q => h.2.2.1 l j (fun z => p ⟨hD l z.1, z.2⟩) (fun z => by obtain ⟨i, e⟩ := hF l z; exact q i e), fun k => by rw [h.2.2.2.1]; exact ⟨Nat.le_refl _, fun _ _ => rfl⟩, h.2.2.2.2.2⟩
theorem pF.bf {M M' : xm} {N : Int} (h : pF M N M') : bF M M' := ⟨fun l j o p q r _ _ _ _ _ => h.1 l j o (fun z => p (nw_t z)) q r, fun l j o p _ _ => h.2.1 l j o (fun z => p (nw_t z)), fun l j o p q => h.2.2.1 l j o (fun z => p ⟨nw_t z.1, z.2⟩) (fun i => q _), h.2.2.2.1, h.2.2.2.2.2⟩
theorem kG.bf {M M' : xm} (h : kG M M') : bF M M' := ⟨fun l j _ _ _ _ _ a b d e => h.1 l j a b d e, fun l j _ _ a b => h.2.1 l j a b, fun l j _ _ _ => by rw [h.2.2.1], fun k => by rw [h.2.2.2.1]; exact ⟨Nat.le_refl _, fun _ _ => rfl⟩, h.2.2.2.2.2⟩
theorem bF.row {M M' : xm} (h : bF M M') : rowG M M' := ⟨fun k => (h.2.2.2.1 k).1, fun l j a t => ⟨h.1 l j (Or.inl a) (by rw [t]; decide) (fun q => absurd t (by rw [q]; decide)) (fun q => absurd t (by rw [q]; decide)) (fun q => absurd t (by rw [q]; decide)) (fun q => absurd t (by rw [q]; decide)) (fun q => absurd t (by rw [q]; decide)) (fun q => absurd t (by rw [q]; decide)) (fun q => absurd t (by rw [q.1]; decide)), h.2.2.1 l j (Or.inl a) (fun q => absurd q.1 (by rw [t]; decide)) (fun i q => absurd t (by rw [q, fe_t]; decide))⟩, fun v j n a b => h.2.1 v j (Or.inl a) (fun q => by unfold isV at b; unfold tg at q; omega) (fun q => db_nv n (by rw [← q]; exact b)) (fun q => fr_nv n (by rw [← q]; exact b))⟩
theorem bF.x {M M' : xm} (h : bF M M') (l j : Nat) (q : ¬ nonX l) (q3 : l = aM → j = 3) : mA M' l j = mA M l j := h.1 l j (old_t (fun z => q (Or.inl z)) (fun z => q (Or.inr (Or.inr (Or.inl z))))) (fun z => q (Or.inr (Or.inl z))) (fun z => q (by rw [z]; unfold nonX; decide)) (fun z => q (by rw [z]; unfold nonX; decide)) (fun z => q (by rw [z]; unfold nonX; decide)) (fun z => q (by rw [z]; unfold nonX; decide)) (fun z => q (by rw [z]; unfold nonX; decide)) (fun z => q (by rw [z]; unfold nonX; decide)) (fun z => by have := q3 z.1; omega)
theorem bF_rest {M M' : xm} {N T : Int} {TK : Int → Rw} {rk : Int → Nat} (h : bF M M') (r1 : R1 M N rk) (r4 : R4 M T TK) (r5 : R5 M N) (r7 : R7 M N) : R1 M' N rk ∧ R4 M' T TK ∧ R5 M' N ∧ R7 M' N := by
  have fx : ∀ l j, ¬ tg l = 5 → ¬ tg l = 33 → ¬ tg l = 6 → ¬ (l = aBlok ∨ l = aMarks ∨ l = aHist ∨ l = amIn ∨ l = amOr ∨ l = amTr ∨ l = aM) → mA M' l j = mA M l j := fun l j a b d e => h.1 l j (old_t a b) d (fun q => e (by simp [q])) (fun q => e (by simp [q])) (fun q => e (by simp [q])) (fun q => e (by simp [q])) (fun q => e (by simp [q])) (fun q => e (by simp [q])) (fun q => e (by simp [q.1]))
  have fr : ∀ l j, ¬ tg l = 5 → ¬ tg l = 33 → ¬ tg l = 6 → ¬ l % 274877906944 = 65510834467 → mR M' l j = mR M l j := fun l j a b d e => h.2.2.1 l j (old_t a b) (fun q => d q.1) (fun i q => e (by rw [q]; unfold fedA; omega))
  refine ⟨R1_c r1 h.2.2.2.2 (fun l j a b d e => h.2.2.1 l j (old_t a b) d (fun i q => e (by rw [q]; exact fe_t i))) (fun l j q q3 => h.x l j q q3) (fun j => fx _ _ (by decide) (by decide) (by decide) (by decide)), R4_c r4 h.row ⟨h.1 _ _ (old_t (by decide) (by decide)) (by decide) (by decide) (by decide) (by decide) (by decide) (by decide) (by decide) (by decide), h.1 _ _ (old_t (by decide) (by decide)) (by decide) (by decide) (by decide) (by decide) (by decide) (by decide) (by decide) (by decide), fx _ _ (by decide) (by decide) (by decide) (by decide)⟩ (fun l j q => by rcases q with q | q | q | q <;> rw [q] <;> exact fx _ _ (by decide) (by decide) (by decide) (by decide)) (fun j => ?_) (fun j => fr _ _ (by decide) (by decide) (by decide) (by decide)), R5_c r5 (fun l j q => by rcases q with q | q | q <;> rw [q] <;> exact fx _ _ (by decide) (by decide) (by decide) (by decide)) (fun i j => ?_), R7_c r7 h.2.2.2.1 (fun i => fr _ _ (by rw [TGf.1]; decide) (by rw [TGf.1]; decide) (by rw [TGf.1]; decide) (by have := DS.2.1 i; omega))⟩
  · exact h.2.1 _ _ (Or.inr ⟨by decide, fun n q => ts_nv n q⟩) (by decide) (by decide) (by decide)
  · have e := pk_k i
    have t : tg (pkA i) = 32 := by unfold tg; omega
    refine fx _ _ (by rw [t]; decide) (by rw [t]; decide) (by rw [t]; decide) (fun q => ?_)
    rcases q with q | q | q | q | q | q | q <;> (rw [q] at e; exact absurd e (by decide))
theorem bk_o {C : Nat → Nat → Int} {n N : Int} {ord : Nat → Int} (ho : ∀ i : Nat, (i : Int) < N → ord i < N) : ∀ (d : Nat) (k : Int) (A A' : Int → SS), k + d = N → 0 ≤ k → bkF C n ord d k A = .inr A' → ∀ o, N ≤ o → A' o = A o
  | 0, _, A, A', _, _, e, o, _ => by
    obtain rfl := Sum.inr.inj (show Sum.inr A = Sum.inr A' from e)
    rfl
  | d + 1, k, A, A', hd, h0, e, o, hN => by
    rw [bkF] at e
    cases a : actF C n A (ord k.toNat) with
    | inl x => rw [a] at e; exact absurd e (by obtain ⟨f, j⟩ := x; simp)
    | inr s =>
      rw [a] at e
      rw [bk_o ho d (k + 1) _ A' (by omega) (by omega) e o hN]
      unfold upS
      rw [if_neg (fun q => by have := ho k.toNat (by omega); omega)]
theorem psl_f {s : Int} : ∀ l, pfL s l → ∃ i, l = fedA i := fun l h => by obtain ⟨o, _, e⟩ := h; exact ⟨_, e⟩
theorem nfl_f : ∀ l, nfL l → ∃ i, l = fedA i := fun l h => by obtain ⟨o, _, e⟩ := h; exact ⟨_, e⟩
theorem t_block {M : xm} {c : Int} (h : Rel M c) (hc : 0 ≤ c ∧ c ≤ 600) (n : Int) (hn : -2147483648 ≤ n ∧ n ≤ 2147483647) : Wp qX9_block 0 [vR aX, vI n, vX] [] M (Two c qX10_block [vR aM, vI n, vX, vX]) := by
  have hm' := Rel_m h (show c ≤ c + 1 by omega)
  obtain ⟨N, A, H, T, TK, rk, r1, r3, r4, r5, r6, r7, r8⟩ := id h
  have hC := r1.1
  have eN := hC.2.2.1
  have hN := eN.2.2
  have hR' := hC.r
  by_cases c1 : n < 1
  · simp (disch := first | omega | (simp only [DT, DS, ne_eq, Nat.reduceEqDiff, not_false_eq_true]; done)) only [RX9_block, BW, wr_id, OM, OE, PL, ↓reduceIte, TGs, bi_T, bi_F, bi_ff, Nat.reduceLeDiff, Nat.reduceLT, Nat.reduceAdd]
    exact ⟨_, rfl, s_blockx n (by omega) hn _ ⟨rfl, hm'⟩⟩
  · by_cases c2 : 16 < n
    · simp (disch := first | omega | (simp only [DT, DS, ne_eq, Nat.reduceEqDiff, not_false_eq_true]; done)) only [RX9_block, BW, wr_id, OM, OE, PL, ↓reduceIte, TGs, bi_T, bi_F, bi_ff, Nat.reduceLeDiff, Nat.reduceLT, Nat.reduceAdd]
      exact ⟨_, rfl, s_blockx n (by omega) hn _ ⟨rfl, hm'⟩⟩
    · obtain ⟨⟨a1, a2, a3, a4⟩, ⟨b1, b2, b3, b4⟩, ⟨p1, p2, p3, p4⟩, hh⟩ := id r3
      generalize hs : mA M aM 11 % 9 = s at *
      have hs9 : 0 ≤ s ∧ s < 9 := by omega
      have ho : ∀ i : Nat, (i : Int) < N → 0 ≤ ofn (mA M) N i ∧ ofn (mA M) N i < N := fun i hi => ordL_at r1.2.2.1 (by omega) i hi
      simp (disch := first | omega | (simp only [DT, DS, ne_eq, Nat.reduceEqDiff, not_false_eq_true]; done)) only [RX9_block, cP.e hC.1, BW, wr_id, OM, OE, PL, ↓reduceIte, TGs, bi_T, bi_F, bi_ff, Nat.reduceLeDiff, Nat.reduceLT, Nat.reduceAdd]
      refine c_remember hC b4 hs9 (fun m x y => (a2 m x y).1) _ (fun M1 g1 s1 => ?_)
      have bf1 := g1.bf psL.t psl_f
      have hC1 := g1.s psL.t pfL.t hC
      have hrow1 := g1.row psL.t pfL.t
      have x1 : ∀ l j, ¬ tg l = 6 → mA M1 l j = mA M l j := fun l j q => g1.1 l j (fun z => q (psL.t l z))
      have hT1 : cTb M1 := cTb_c r1.2.1 (fun l j q => x1 l j (fun z => q (Or.inr (Or.inl z))))
      have hA1 : cA M1 N (24 * c) A := fun o x y => ⟨cS1_f hrow1 (a2 o x y).1 (fun j => g1.1 _ _ (fun ⟨q, _, e⟩ => ps_no e.symm)) (fun j => g1.2.1 _ _ (fun ⟨q, _, e⟩ => ps_no e.symm)) (g1.2.2.1 _ _ (fun ⟨⟨q, _, e⟩, _⟩ => ps_no e.symm) (fun ⟨q, _, e⟩ => fe_no e.symm)) (fun j => g1.2.2.1 _ _ (fun ⟨⟨q, _, e⟩, _⟩ => fe_ps e) (fun ⟨q, q0, e⟩ => by have := fed_e.mp e; omega)), (a2 o x y).2⟩
      have cE1 : cEq M M1 := fun j => by
        refine ⟨?_, ?_, ?_, ?_, ?_, ?_⟩ <;> exact x1 _ _ (by decide)
      have eO1 : ofn (mA M1) N = ofn (mA M) N := by
        unfold ofn
        rw [ordL_c (fun j => (cE1 j).2.2.2.1) (fun j => (cE1 j).1)]
      have hrk1 : noLp (mA M1) N rk := fun m i x y z w => by
        rw [(cE1 _).2.2.2.1, (cE1 _).1, (cE1 _).1]
        exact r1.2.2.1 m i x y z w
      have bk1 : bkF (mA M1) n (ofn (mA M1) N) N.toNat 0 A = bkF (mA M) n (ofn (mA M) N) N.toNat 0 A := bkF_c (N := N) (fun A m => actF_c cE1 n A m) (fun i _ => by rw [eO1]) N.toNat 0 A (by omega) (by omega)
      have ebf1 : ∀ A', bfA (mA M1) N (fdA (mA M1) N A') = bfA (mA M) N (fdA (mA M) N A') := fun A' => by
        funext o
        have e : fdA (mA M1) N A' o = fdA (mA M) N A' o := by
          unfold fdA
          rw [(cE1 _).1, (cE1 _).2.2.2.1]
        unfold bfA
        rw [(cE1 _).2.2.1, e]
      have pst : ∀ M2, pF M1 N M2 → ∀ (m q : Int) (S : SS), 0 ≤ m → 0 ≤ q → q < 9 → cS1 M1 (psA (9 * m + q).toNat) (fedA (10 * m + 1 + q).toNat) S → cS1 M2 (psA (9 * m + q).toNat) (fedA (10 * m + 1 + q).toNat) S := fun M2 p m q S m0 q0 q9 hS => cS1_f p.bf.row hS (fun j => p.1 _ _ (old_t (by rw [ps_t]; decide) (by rw [ps_t]; decide)) (by unfold psA; omega) (tg_d (ps_t _) (show tg aBlok = 1 by decide) (by decide)) (tg_d (ps_t _) (show tg aMarks = 32 by decide) (by decide))) (fun j => p.2.1 _ _ (old_t (by rw [ps_t]; decide) (by rw [ps_t]; decide)) (by unfold psA; omega)) (p.2.2.1 _ _ (old_t (by rw [ps_t]; decide) (by rw [ps_t]; decide)) (by unfold psA; omega) (fun o => fun z => fe_ps z.symm)) (fun j => p.2.2.1 _ _ (fed_o _ _) (by unfold fedA; omega) (fun o => fun z => by have := fed_e.mp z; omega))
      have ps1 : ∀ j, 1 ≤ j → j ≤ mA M aM 12 → ∀ m, 0 ≤ m → m < N → cS1 M1 (psA (9 * m + (mA M aM 11 - j) % 9).toNat) (fedA (10 * m + 1 + (mA M aM 11 - j) % 9).toNat) (H j m) := fun j x y m m0 m1 => cS1_f hrow1 ((hh j x y).2.1 m m0 m1) (fun i => g1.1 _ _ (fun ⟨q, q0, e⟩ => by have := ps_e.mp e; omega)) (fun i => g1.2.1 _ _ (fun ⟨q, q0, e⟩ => by have := ps_e.mp e; omega)) (g1.2.2.1 _ _ (fun ⟨⟨q, q0, e⟩, _⟩ => by have := ps_e.mp e; omega) (fun ⟨q, _, e⟩ => fe_ps e.symm)) (fun i => g1.2.2.1 _ _ (fun ⟨⟨q, _, e⟩, _⟩ => fe_ps e) (fun ⟨q, q0, e⟩ => by have := fed_e.mp e; omega))
      simp (disch := first | omega | (simp only [DT, DS, ne_eq, Nat.reduceEqDiff, not_false_eq_true]; done)) only [RX9_block, cP.e hC1.1, BW, wr_id, OM, OE, PL, ↓reduceIte, TGs, bi_T, bi_F, bi_ff, Nat.reduceLeDiff, Nat.reduceLT, Nat.reduceAdd]
      refine c_perform (rk := rk) hC1 hT1 hA1 a3 (show 1 ≤ n ∧ n ≤ 16 by omega) hrk1 (fun i hi => by rw [x1 _ _ (by decide), eO1]; exact r1.2.2.2.2 i hi) (by omega) _ (fun f m j cc M2 he p2 hcc m6 mmk m0 fb m1 m2 => ?_) (fun A' M2 he p2 m6 mmk m0 s2 ok2 => ?_)
      · rw [bk1] at he
        rw [eO1] at mmk
        have bf2 := p2.bf
        have hC2 : cS M2 N := (bF_rest bf2 ⟨hC1, hT1, hrk1, fun j x => by rw [(cE1 j).2.2.2.1, (cE1 j).2.2.1]; exact r1.2.2.2.1 j x, fun i hi => by rw [x1 _ _ (by decide), eO1]; exact r1.2.2.2.2 i hi⟩ (bF_rest bf1 r1 r4 r5 r7).2.1 (bF_rest bf1 r1 r4 r5 r7).2.2.1 (bF_rest bf1 r1 r4 r5 r7).2.2.2).1.1
        have h2 : ∀ j, mA M2 aHist j = mA M aHist j := fun j => by rw [p2.1 _ _ (old_t (by decide) (by decide)) (by decide) (by decide) (by decide), x1 _ _ (by decide)]
        simp (disch := first | omega | (simp only [DT, DS, ne_eq, Nat.reduceEqDiff, not_false_eq_true]; done)) only [RX9_block, cP.e hC2.1, BW, wr_id, OM, OE, PL, ↓reduceIte, TGs, bi_T, bi_F, bi_ff, Nat.reduceLeDiff, Nat.reduceLT, Nat.reduceAdd]
        refine c_undo hC2 (by rw [h2]; exact b4) hs9 (A := A) (fun m x y => pst M2 p2 m s (A m) x hs9.1 hs9.2 (s1 m x y)) _ (fun M3 g3 s3 => ?_)
        have bf3 := g3.bf nwL.t nfl_f
        have bf13 := (bf1.trans bf2).trans bf3
        obtain ⟨R1', R4', R5', R7'⟩ := bF_rest bf13 r1 r4 r5 r7
        have x3 : ∀ l j, ¬ tg l = 6 → mA M3 l j = mA M2 l j := fun l j q => g3.1 l j (fun z => q (nwL.t l z))
        have y3 : ∀ l j, ¬ tg l = 5 → ¬ tg l = 33 → ¬ tg l = 6 → ¬ l = aBlok → ¬ l = aMarks → mA M3 l j = mA M l j := fun l j u v w y z => by rw [x3 l j w, p2.1 l j (old_t u v) (fun q => w (nw_t q)) y z, x1 l j w]
        have yd : ∀ j, mB M3 amDb j = mB M amDb j := fun j => by rw [g3.2.1 _ _ (fun z => absurd (nwL.t _ z) (by decide)), p2.2.1 _ _ (Or.inr ⟨by decide, db_nv⟩) (by decide), g1.2.1 _ _ (fun z => absurd (psL.t _ z) (by decide))]
        have yi : ∀ j, mA M3 amIn j = mA M amIn j := fun j => y3 _ _ (by decide) (by decide) (by decide) (by decide) (by decide)
        have yM : ∀ j, mA M3 aM j = mA M aM j := fun j => y3 _ _ (by decide) (by decide) (by decide) (by decide) (by decide)
        have yb : ∀ j, mA M3 aBlok j = mA M2 aBlok j := fun j => x3 _ _ (by decide)
        have ym : ∀ j, mA M3 aMarks j = mA M2 aMarks j := fun j => x3 _ _ (by decide)
        have cE3 : cEq M M3 := fun j => by
          refine ⟨?_, ?_, ?_, ?_, ?_, ?_⟩ <;> exact y3 _ _ (by decide) (by decide) (by decide) (by decide) (by decide)
        have eO3 : ofn (mA M3) N = ofn (mA M) N := by
          unfold ofn
          rw [ordL_c (fun j => (cE3 j).2.2.2.1) (fun j => (cE3 j).1)]
        have bk3 : bkF (mA M3) n (ofn (mA M3) N) N.toNat 0 A = bkF (mA M) n (ofn (mA M) N) N.toNat 0 A := bkF_c (N := N) (fun A m => actF_c cE3 n A m) (fun i _ => by rw [eO3]) N.toNat 0 A (by omega) (by omega)
        simp (disch := first | omega | (simp only [DT, DS, ne_eq, Nat.reduceEqDiff, not_false_eq_true]; done)) only [RX9_block, BW, wr_id, OM, OE, PL, ↓reduceIte, TGs, bi_T, bi_F, bi_ff, Nat.reduceLeDiff, Nat.reduceLT, Nat.reduceAdd]
        refine ⟨f, rfl, ?_⟩
        refine s_block (rk := rk) (t := 24 * c) (N := N) (A := A) R1'.1.2.1 R1'.1.2.2.1.2.1 hN R1'.2.2.1 (fun m x y => (R1'.2.2.2.1 (3 * m).toNat (by omega)).1) (mSl_e a1 (by omega) yi yd) a3 (by omega) (show 1 ≤ n ∧ n ≤ 16 by omega) (by rw [yM]; omega) (by rw [yM]; omega) (by rw [yM]; omega) _ (fun f' m' j' c' M4 he' k4 hc' t15 ttr t16 t17 t18 t10 t11 t12 sl0 slb => ?_) (fun A' M4 he' => ?_)
        · rw [bk3, he] at he'
          rw [eO3] at ttr
          obtain ⟨rfl, rfl, rfl, rfl⟩ : f = f' ∧ m = m' ∧ j = j' ∧ cc = c' := by
            have := Sum.inl.inj he'
            simp only [Prod.mk.injEq] at this
            exact this
          obtain ⟨R1q, R4q, R5q, R7q⟩ := bF_rest (bf13.trans k4.bf) r1 r4 r5 r7
          have kr4 := k4.bf.row
          have t6 : ∀ l i, tg l = 6 → mA M4 l i = mA M3 l i ∧ mB M4 l i = mB M3 l i ∧ mR M4 l i = mR M3 l i := fun l i t => ⟨k4.1 l i (fun q => absurd t (by rw [q]; decide)) (fun q => absurd t (by rw [q]; decide)) (fun q => absurd t (by rw [q]; decide)) (fun q => absurd t (by rw [q.1]; decide)), k4.2.1 l i (fun q => absurd t (by rw [q]; decide)) (fun q => absurd t (by rw [q]; decide)), by rw [k4.2.2.1]⟩
          have kc : ∀ S F x, tg S = 6 → cS1 M3 S F x → cS1 M4 S F x := fun S F x t g => cS1_f kr4 g (fun i => (t6 S i t).1) (fun i => (t6 S i t).2.1) (t6 S 0 t).2.2 (fun i => by rw [k4.2.2.1])
          have kb : ∀ j, mA M4 aBlok j = mA M3 aBlok j := fun j => k4.1 _ _ (by decide) (by decide) (by decide) (fun q => absurd q.1 (by decide))
          have kh : ∀ j, mA M4 aHist j = mA M aHist j := fun j => by rw [k4.1 _ _ (by decide) (by decide) (by decide) (fun q => absurd q.1 (by decide)), x3 _ _ (by decide), h2]
          have kk : ∀ j, mA M4 aMarks j = mA M2 aMarks j := fun j => by rw [k4.1 _ _ (by decide) (by decide) (by decide) (fun q => absurd q.1 (by decide)), ym]
          rw [yM] at t10 t11 t12
          refine ⟨rfl, N, A, H, T, TK, rk, R1q, ⟨⟨sl0, fun o x y => ⟨kc _ _ _ (no_t _) (s3 o x y), okS_t (a3 o x (by omega)) (by omega)⟩, fun o x y => okS_t (a3 o x y) (by omega), a4⟩, ?_, ?_, ?_⟩, R4q, R5q, ⟨?_, fun _ => ?_, ?_, ?_, fun i hi => ?_⟩, R7q, ?_⟩
          · rw [kh, kh, kh, t10, t11, t12, hs]
            exact ⟨b1, b2, b3, b4⟩
          · rw [t11, t12]; omega
          · rw [t11, t12]
            intro j x y
            obtain ⟨u1, u2, u3, u4⟩ := hh j x y
            refine ⟨slb _ _ (by omega) (by omega) (mSl_e u1 (by omega) yi yd), fun m v w => kc _ _ _ (ps_t _) ?_, fun o v w => okS_t (u3 o v w) (by omega), u4⟩
            have g := pst M2 p2 m ((mA M aM 11 - j) % 9) (H j m) v (by omega) (by omega) (ps1 j x y m v w)
            exact cS1_f (g3.row nwL.t nfL.t) g (fun i => g3.1 _ _ (fun ⟨q, _, e⟩ => ps_no e)) (fun i => g3.2.1 _ _ (fun ⟨q, _, e⟩ => ps_no e)) (g3.2.2.1 _ _ (fun ⟨⟨q, _, e⟩, _⟩ => ps_no e) (fun ⟨q, _, e⟩ => fe_ps e.symm)) (fun i => g3.2.2.1 _ _ (fun ⟨⟨q, _, e⟩, _⟩ => fe_no e) (fun ⟨q, q0, e⟩ => by have := fed_e.mp e; omega))
          · rw [kb, yb, t16]; exact m0
          · rw [kb, yb, kb, yb, t17, t18]; exact ⟨m1, m2⟩
          · rw [kb, yb, t15]; exact m6
          · rw [t15]; omega
          · rw [t15] at hi
            rw [kk, mmk i hi, ttr i hi]
          · have e4 := k4.2.2.2.2.1
            have e3 := g3.2.2.2.2.1
            have e2 := p2.2.2.2.2.1
            have e1 := g1.2.2.2.2.1
            unfold R8 at r8 ⊢
            rw [e4.1, e4.2, e3.1, e3.2]
            rw [e1.1, e1.2] at e2
            omega
        · rw [bk3, he] at he'
          exact absurd he' (by simp)
      · rw [bk1] at he
        rw [eO1] at mmk
        rw [ebf1] at s2 ok2
        have bf2 := p2.bf
        have r1m := bF_rest bf1 r1 r4 r5 r7
        have hC2 : cS M2 N := (bF_rest bf2 r1m.1 r1m.2.1 r1m.2.2.1 r1m.2.2.2).1.1
        have h2 : ∀ j, mA M2 aHist j = mA M aHist j := fun j => by rw [p2.1 _ _ (old_t (by decide) (by decide)) (by decide) (by decide) (by decide), x1 _ _ (by decide)]
        have qv := c_advance (s := s) (rc := mA M aM 12) (dn := mA M aM 11) hC2 (by rw [h2]; exact b4) hs9 (by rw [h2]; exact b3) (by omega) (by rw [h2]; exact b1) (by omega)
        simp (disch := first | omega | (simp only [DT, DS, ne_eq, Nat.reduceEqDiff, not_false_eq_true]; done)) only [RX9_block, cP.e hC2.1, qv, BW, wr_id, OM, OE, PL, ↓reduceIte, TGs, bi_T, bi_F, bi_ff, Nat.reduceLeDiff, Nat.reduceLT, Nat.reduceAdd]
        have e3b : 0 ≤ (if mA M aM 12 < 8 then mA M aM 12 + 1 else mA M aM 12) ∧ (if mA M aM 12 < 8 then mA M aM 12 + 1 else mA M aM 12) ≤ 8 ∧ (if mA M aM 12 < 8 then mA M aM 12 + 1 else mA M aM 12) ≤ mA M aM 12 + 1 := by split <;> omega
        have hR3 : inR (wA (wA (wA M2 aHist 3 ((s + 1) % 9)) aHist 1 (if mA M aM 12 < 8 then mA M aM 12 + 1 else mA M aM 12)) aHist 0 (mA M aM 11 + 1)) := ((p2.2.2.2.2.2.wA _ _ (wr_id (by omega) (by omega))).wA _ _ (wr_id (by omega) (by omega))).wA _ _ (wr_id (by omega) (by omega))
        have z3 : ∀ l j, ¬ l = aHist → mA (wA (wA (wA M2 aHist 3 ((s + 1) % 9)) aHist 1 (if mA M aM 12 < 8 then mA M aM 12 + 1 else mA M aM 12)) aHist 0 (mA M aM 11 + 1)) l j = mA M2 l j := fun l j q => by rw [wA_o _ _ (fun z => q z.1), wA_o _ _ (fun z => q z.1), wA_o _ _ (fun z => q z.1)]
        have z33 : mA (wA (wA (wA M2 aHist 3 ((s + 1) % 9)) aHist 1 (if mA M aM 12 < 8 then mA M aM 12 + 1 else mA M aM 12)) aHist 0 (mA M aM 11 + 1)) aHist 3 = (s + 1) % 9 := by rw [wA_o _ _ (by decide), wA_o _ _ (by decide), wA_e]
        have z31 : mA (wA (wA (wA M2 aHist 3 ((s + 1) % 9)) aHist 1 (if mA M aM 12 < 8 then mA M aM 12 + 1 else mA M aM 12)) aHist 0 (mA M aM 11 + 1)) aHist 1 = (if mA M aM 12 < 8 then mA M aM 12 + 1 else mA M aM 12) := by rw [wA_o _ _ (by decide), wA_e]
        have z30 : mA (wA (wA (wA M2 aHist 3 ((s + 1) % 9)) aHist 1 (if mA M aM 12 < 8 then mA M aM 12 + 1 else mA M aM 12)) aHist 0 (mA M aM 11 + 1)) aHist 0 = mA M aM 11 + 1 := wA_e _ _ _ _
        have ze : mB (wA (wA (wA M2 aHist 3 ((s + 1) % 9)) aHist 1 (if mA M aM 12 < 8 then mA M aM 12 + 1 else mA M aM 12)) aHist 0 (mA M aM 11 + 1)) = mB M2 ∧ mR (wA (wA (wA M2 aHist 3 ((s + 1) % 9)) aHist 1 (if mA M aM 12 < 8 then mA M aM 12 + 1 else mA M aM 12)) aHist 0 (mA M aM 11 + 1)) = mR M2 ∧ mC (wA (wA (wA M2 aHist 3 ((s + 1) % 9)) aHist 1 (if mA M aM 12 < 8 then mA M aM 12 + 1 else mA M aM 12)) aHist 0 (mA M aM 11 + 1)) = mC M2 ∧ mK (wA (wA (wA M2 aHist 3 ((s + 1) % 9)) aHist 1 (if mA M aM 12 < 8 then mA M aM 12 + 1 else mA M aM 12)) aHist 0 (mA M aM 11 + 1)) = mK M2 ∧ mS (wA (wA (wA M2 aHist 3 ((s + 1) % 9)) aHist 1 (if mA M aM 12 < 8 then mA M aM 12 + 1 else mA M aM 12)) aHist 0 (mA M aM 11 + 1)) = mS M2 := ⟨rfl, rfl, rfl, rfl, rfl⟩
        generalize wA (wA (wA M2 aHist 3 ((s + 1) % 9)) aHist 1 (if mA M aM 12 < 8 then mA M aM 12 + 1 else mA M aM 12)) aHist 0 (mA M aM 11 + 1) = M3 at *
        obtain ⟨ze1, ze2, ze3, ze4, ze5⟩ := ze
        have bf3 : bF M2 M3 := ⟨fun l j _ _ _ _ q _ _ _ _ => z3 l j q, fun l j _ _ _ _ => by rw [ze1], fun l j _ _ _ => by rw [ze2], fun k => by rw [ze3]; exact ⟨Nat.le_refl _, fun _ _ => rfl⟩, hR3⟩
        have bf13 := (bf1.trans bf2).trans bf3
        obtain ⟨R1', R4', R5', R7'⟩ := bF_rest bf13 r1 r4 r5 r7
        have y3 : ∀ l j, ¬ tg l = 5 → ¬ tg l = 33 → ¬ tg l = 6 → ¬ l = aBlok → ¬ l = aMarks → ¬ l = aHist → mA M3 l j = mA M l j := fun l j u v w y z x => by rw [z3 l j x, p2.1 l j (old_t u v) (fun q => w (nw_t q)) y z, x1 l j w]
        have yd : ∀ j, mB M3 amDb j = mB M amDb j := fun j => by rw [ze1, p2.2.1 _ _ (Or.inr ⟨by decide, db_nv⟩) (by decide), g1.2.1 _ _ (fun z => absurd (psL.t _ z) (by decide))]
        have yi : ∀ j, mA M3 amIn j = mA M amIn j := fun j => y3 _ _ (by decide) (by decide) (by decide) (by decide) (by decide) (by decide)
        have yM : ∀ j, mA M3 aM j = mA M aM j := fun j => y3 _ _ (by decide) (by decide) (by decide) (by decide) (by decide) (by decide)
        have cE3 : cEq M M3 := fun j => by
          refine ⟨?_, ?_, ?_, ?_, ?_, ?_⟩ <;> exact y3 _ _ (by decide) (by decide) (by decide) (by decide) (by decide) (by decide)
        have eO3 : ofn (mA M3) N = ofn (mA M) N := by
          unfold ofn
          rw [ordL_c (fun j => (cE3 j).2.2.2.1) (fun j => (cE3 j).1)]
        have bk3 : bkF (mA M3) n (ofn (mA M3) N) N.toNat 0 A = bkF (mA M) n (ofn (mA M) N) N.toNat 0 A := bkF_c (N := N) (fun A m => actF_c cE3 n A m) (fun i _ => by rw [eO3]) N.toNat 0 A (by omega) (by omega)
        have ebf3 : ∀ A', bfA (mA M3) N (fdA (mA M3) N A') = bfA (mA M) N (fdA (mA M) N A') := fun A' => by
          funext o
          have e : fdA (mA M3) N A' o = fdA (mA M) N A' o := by
            unfold fdA
            rw [(cE3 _).1, (cE3 _).2.2.2.1]
          unfold bfA
          rw [(cE3 _).2.2.1, e]
        refine ⟨0, rfl, ?_⟩
        refine s_block (rk := rk) (t := 24 * c) (N := N) (A := A) R1'.1.2.1 R1'.1.2.2.1.2.1 hN R1'.2.2.1 (fun m x y => (R1'.2.2.2.1 (3 * m).toNat (by omega)).1) (mSl_e a1 (by omega) yi yd) a3 (by omega) (show 1 ≤ n ∧ n ≤ 16 by omega) (by rw [yM]; omega) (by rw [yM]; omega) (by rw [yM]; omega) _ (fun f' m' j' c' M4 he' => ?_) (fun A2 M4 he' k4 t15 ttr t16 t10 t11 t12 sl0 okk slp slb => ?_)
        · rw [bk3, he] at he'
          exact absurd he' (by simp)
        · rw [bk3, he] at he'
          obtain rfl := Sum.inr.inj he'
          rw [eO3] at ttr
          rw [ebf3] at sl0 okk
          rw [yM] at t10 t11 t12 slp slb
          obtain ⟨R1q, R4q, R5q, R7q⟩ := bF_rest (bf13.trans k4.bf) r1 r4 r5 r7
          have kr4 := k4.bf.row
          have t6 : ∀ l i, tg l = 6 → mA M4 l i = mA M3 l i ∧ mB M4 l i = mB M3 l i ∧ mR M4 l i = mR M3 l i := fun l i t => ⟨k4.1 l i (fun q => absurd t (by rw [q]; decide)) (fun q => absurd t (by rw [q]; decide)) (fun q => absurd t (by rw [q]; decide)) (fun q => absurd t (by rw [q.1]; decide)), k4.2.1 l i (fun q => absurd t (by rw [q]; decide)) (fun q => absurd t (by rw [q]; decide)), by rw [k4.2.2.1]⟩
          have kc : ∀ S F x, tg S = 6 → cS1 M2 S F x → cS1 M4 S F x := fun S F x t g => cS1_f (bf3.row.trans kr4) g (fun i => (t6 S i t).1.trans (z3 S i (fun q => absurd t (by rw [q]; decide)))) (fun i => (t6 S i t).2.1.trans (by rw [ze1])) ((t6 S 0 t).2.2.trans (by rw [ze2])) (fun i => by rw [k4.2.2.1, ze2])
          have kb : ∀ j, mA M4 aBlok j = mA M2 aBlok j := fun j => by rw [k4.1 _ _ (by decide) (by decide) (by decide) (fun q => absurd q.1 (by decide)), z3 _ _ (by decide)]
          have kh : ∀ j, mA M4 aHist j = mA M3 aHist j := fun j => k4.1 _ _ (by decide) (by decide) (by decide) (fun q => absurd q.1 (by decide))
          have kk : ∀ j, mA M4 aMarks j = mA M2 aMarks j := fun j => by rw [k4.1 _ _ (by decide) (by decide) (by decide) (fun q => absurd q.1 (by decide)), z3 _ _ (by decide)]
          have iniA : ∀ o, N ≤ o → o ≤ 23 → bfA (mA M) N (fdA (mA M) N A') o = ini := fun o x y => by
            unfold bfA fdA
            rw [if_neg (by omega), if_neg (by omega), bk_o (fun i hi => (ho i hi).2) N.toNat 0 A A' (by omega) (by omega) he o x]
            exact a4 o x y
          refine ⟨rfl, N, bfA (mA M) N (fdA (mA M) N A'), (fun j => if j = 1 then A else H (j - 1)), T, TK, rk, R1q, ⟨⟨sl0, fun o x y => ⟨kc _ _ _ (no_t _) (s2 o x y), okS_t (okk o x (by omega)) (by omega)⟩, fun o x y => okS_t (okk o x y) (by omega), iniA⟩, ?_, ?_, ?_⟩, R4q, R5q, ⟨?_, fun q => absurd t16 q, ?_, ?_, fun i hi => ?_⟩, R7q, ?_⟩
          · rw [kh, kh, kh, t10, t11, t12, z30, z31, z33]
            refine ⟨rfl, by omega, rfl, ?_⟩
            omega
          · rw [t11, t12]; omega
          · rw [t11, t12]
            intro j x y
            by_cases e : j = 1
            · simp only [if_pos e]
              subst e
              rw [show mA M aM 11 + 1 - 1 = mA M aM 11 by omega, hs]
              exact ⟨slp, fun m v w => kc _ _ _ (ps_t _) (pst M2 p2 m s (A m) v hs9.1 hs9.2 (s1 m v w)), fun o v w => okS_t (a3 o v w) (by omega), a4⟩
            · simp only [if_neg e]
              obtain ⟨u1, u2, u3, u4⟩ := hh (j - 1) (by omega) (by omega)
              rw [show mA M aM 11 + 1 - j = mA M aM 11 - (j - 1) by omega]
              refine ⟨slb _ _ (by omega) (by omega) (by omega) (mSl_e u1 (by omega) yi yd), fun m v w => kc _ _ _ (ps_t _) ?_, fun o v w => okS_t (u3 o v w) (by omega), u4⟩
              exact pst M2 p2 m ((mA M aM 11 - (j - 1)) % 9) (H (j - 1) m) v (by omega) (by omega) (ps1 (j - 1) (by omega) (by omega) m v w)
          · rw [kb, t16]; exact m0
          · rw [kb, t15]; exact m6
          · rw [t15]; omega
          · rw [t15] at hi
            rw [kk, mmk i hi, ttr i hi]
          · have e4 := k4.2.2.2.2.1
            have e2 := p2.2.2.2.2.1
            have e1 := g1.2.2.2.2.1
            unfold R8 at r8 ⊢
            rw [e4.1, e4.2, ze4, ze5]
            rw [e1.1, e1.2] at e2
            omega
theorem t_back {M : xm} {c : Int} (h : Rel M c) (hc : 0 ≤ c ∧ c ≤ 600) (n : Int) (hn : -2147483648 ≤ n ∧ n ≤ 2147483647) : Wp qX9_back 0 [vR aX, vI n] [] M (Two c qX10_back [vR aM, vI n]) := by
  have hm' := Rel_m h (show c ≤ c + 1 by omega)
  obtain ⟨N, A, H, T, TK, rk, r1, r3, r4, r5, r6, r7, r8⟩ := id h
  have hC := r1.1
  have eN := hC.2.2.1
  have hN := eN.2.2
  have hR' := hC.r
  obtain ⟨⟨a1, a2, a3, a4⟩, ⟨b1, b2, b3, b4⟩, ⟨p1, p2, p3, p4⟩, hh⟩ := id r3
  have bad : ¬ ((1 ≤ n ∧ n ≤ 8) ∧ n ≤ mA M aM 12) → Two c qX10_back [vR aM, vI n] (some (vI (-1))) M := fun q => ⟨-1, rfl, s_back n hC.2.1.1 hC.2.1.2.1 hn (by omega) (by omega) (by omega) (by omega) _ (by rw [if_neg q, if_neg q]; exact ⟨rfl, hm'⟩)⟩
  by_cases c1 : n < 1
  · simp (disch := first | omega | (simp only [DT, DS, ne_eq, Nat.reduceEqDiff, not_false_eq_true]; done)) only [RX9_back, BW, wr_id, OM, OE, PL, ↓reduceIte, TGs, bi_T, bi_F, bi_ff, Nat.reduceLeDiff, Nat.reduceLT, Nat.reduceAdd]
    exact bad (by omega)
  · by_cases c2 : 8 < n
    · simp (disch := first | omega | (simp only [DT, DS, ne_eq, Nat.reduceEqDiff, not_false_eq_true]; done)) only [RX9_back, BW, wr_id, OM, OE, PL, ↓reduceIte, TGs, bi_T, bi_F, bi_ff, Nat.reduceLeDiff, Nat.reduceLT, Nat.reduceAdd]
      exact bad (by omega)
    · by_cases c3 : mA M aM 12 < n
      · simp (disch := first | omega | (simp only [DT, DS, ne_eq, Nat.reduceEqDiff, not_false_eq_true]; done)) only [RX9_back, cP.e hC.1, b3, BW, wr_id, OM, OE, PL, ↓reduceIte, TGs, bi_T, bi_F, bi_ff, Nat.reduceLeDiff, Nat.reduceLT, Nat.reduceAdd]
        exact bad (by omega)
      · obtain ⟨u1, u2, u3, u4⟩ := hh n (by omega) (by omega)
        have es9 : (mA M aM 11 % 9 - n) % 9 = (mA M aM 11 - n) % 9 := by omega
        simp (disch := first | omega | (simp only [DT, DS, ne_eq, Nat.reduceEqDiff, not_false_eq_true]; done)) only [RX9_back, cP.e hC.1, b3, BW, wr_id, OM, OE, PL, ↓reduceIte, TGs, bi_T, bi_F, bi_ff, Nat.reduceLeDiff, Nat.reduceLT, Nat.reduceAdd]
        refine c_goBack (s := mA M aM 11 % 9) (rc := mA M aM 12) (dn := mA M aM 11) (n := n) (A := H n) hC b4 (by omega) b3 (by omega) b1 (by omega) (by omega) (by rw [es9]; exact u2) _ (fun M3 g3 s3 => ?_)
        rw [es9] at g3
        have z3 : ∀ l j, ¬ l = aHist → mA (wA (wA (wA M aHist 3 ((mA M aM 11 - n) % 9)) aHist 1 (mA M aM 12 - n)) aHist 0 (mA M aM 11 - n)) l j = mA M l j := fun l j q => by rw [wA_o _ _ (fun z => q z.1), wA_o _ _ (fun z => q z.1), wA_o _ _ (fun z => q z.1)]
        have z33 : mA (wA (wA (wA M aHist 3 ((mA M aM 11 - n) % 9)) aHist 1 (mA M aM 12 - n)) aHist 0 (mA M aM 11 - n)) aHist 3 = (mA M aM 11 - n) % 9 := by rw [wA_o _ _ (by decide), wA_o _ _ (by decide), wA_e]
        have z31 : mA (wA (wA (wA M aHist 3 ((mA M aM 11 - n) % 9)) aHist 1 (mA M aM 12 - n)) aHist 0 (mA M aM 11 - n)) aHist 1 = mA M aM 12 - n := by rw [wA_o _ _ (by decide), wA_e]
        have z30 : mA (wA (wA (wA M aHist 3 ((mA M aM 11 - n) % 9)) aHist 1 (mA M aM 12 - n)) aHist 0 (mA M aM 11 - n)) aHist 0 = mA M aM 11 - n := wA_e _ _ _ _
        have hR2 : inR (wA (wA (wA M aHist 3 ((mA M aM 11 - n) % 9)) aHist 1 (mA M aM 12 - n)) aHist 0 (mA M aM 11 - n)) := ((hC.2.1.2.1.wA _ _ (wr_id (by omega) (by omega))).wA _ _ (wr_id (by omega) (by omega))).wA _ _ (wr_id (by omega) (by omega))
        have ze : mB (wA (wA (wA M aHist 3 ((mA M aM 11 - n) % 9)) aHist 1 (mA M aM 12 - n)) aHist 0 (mA M aM 11 - n)) = mB M ∧ mR (wA (wA (wA M aHist 3 ((mA M aM 11 - n) % 9)) aHist 1 (mA M aM 12 - n)) aHist 0 (mA M aM 11 - n)) = mR M ∧ mC (wA (wA (wA M aHist 3 ((mA M aM 11 - n) % 9)) aHist 1 (mA M aM 12 - n)) aHist 0 (mA M aM 11 - n)) = mC M ∧ mK (wA (wA (wA M aHist 3 ((mA M aM 11 - n) % 9)) aHist 1 (mA M aM 12 - n)) aHist 0 (mA M aM 11 - n)) = mK M ∧ mS (wA (wA (wA M aHist 3 ((mA M aM 11 - n) % 9)) aHist 1 (mA M aM 12 - n)) aHist 0 (mA M aM 11 - n)) = mS M := ⟨rfl, rfl, rfl, rfl, rfl⟩
        generalize wA (wA (wA M aHist 3 ((mA M aM 11 - n) % 9)) aHist 1 (mA M aM 12 - n)) aHist 0 (mA M aM 11 - n) = M2 at *
        obtain ⟨ze1, ze2, ze3, ze4, ze5⟩ := ze
        have bf2 : bF M M2 := ⟨fun l j _ _ _ _ q _ _ _ _ => z3 l j q, fun l j _ _ _ _ => by rw [ze1], fun l j _ _ _ => by rw [ze2], fun k => by rw [ze3]; exact ⟨Nat.le_refl _, fun _ _ => rfl⟩, hR2⟩
        have bf13 := bf2.trans (g3.bf nwL.t nfl_f)
        obtain ⟨R1', R4', R5', R7'⟩ := bF_rest bf13 r1 r4 r5 r7
        have x3 : ∀ l j, ¬ tg l = 6 → mA M3 l j = mA M2 l j := fun l j q => g3.1 l j (fun z => q (nwL.t l z))
        have y3 : ∀ l j, ¬ tg l = 6 → ¬ l = aHist → mA M3 l j = mA M l j := fun l j q z => by rw [x3 l j q, z3 l j z]
        have yd : ∀ j, mB M3 amDb j = mB M amDb j := fun j => by rw [g3.2.1 _ _ (fun z => absurd (nwL.t _ z) (by decide)), ze1]
        have yi : ∀ j, mA M3 amIn j = mA M amIn j := fun j => y3 _ _ (by decide) (by decide)
        have yM : ∀ j, mA M3 aM j = mA M aM j := fun j => y3 _ _ (by decide) (by decide)
        have hi : mA M3 aHist 1 = mA M aM 12 - n := by rw [x3 _ _ (by decide)]; exact z31
        simp (disch := first | omega | (simp only [DT, DS, ne_eq, Nat.reduceEqDiff, not_false_eq_true]; done)) only [RX9_back, cP.e R1'.1.1, hi, BW, wr_id, OM, OE, PL, ↓reduceIte, TGs, bi_T, bi_F, bi_ff, Nat.reduceLeDiff, Nat.reduceLT, Nat.reduceAdd]
        refine ⟨_, rfl, s_back n R1'.1.2.1.1 R1'.1.2.1.2.1 hn (by rw [yM]; omega) (by rw [yM]; omega) (by rw [yM, yM]; omega) (by rw [yM]; omega) _ ?_⟩
        rw [yM, yM, yM, if_pos ⟨by omega, by omega⟩, if_pos ⟨by omega, by omega⟩]
        have w4 : ∀ l j, ¬ l = aM → mA (wA (wA (wA M3 aM 11 (mA M aM 11 - n)) aM 12 (mA M aM 12 - n)) aM 10 (mA M aM 10 - n)) l j = mA M3 l j := fun l j q => by rw [wA_o _ _ (fun z => q z.1), wA_o _ _ (fun z => q z.1), wA_o _ _ (fun z => q z.1)]
        have k4 : kG M3 (cpSta (wA (wA (wA M3 aM 11 (mA M aM 11 - n)) aM 12 (mA M aM 12 - n)) aM 10 (mA M aM 10 - n)) (1 + (mA M aM 11 - n) % 8) 0) := ((((kG.refl R1'.1.2.1.2.1).w (by omega) (wr_id (by omega) (by omega))).w (by omega) (wr_id (by omega) (by omega))).w (by omega) (wr_id (by omega) (by omega))).cp _ _
        have cm : ∀ j, mA (cpSta (wA (wA (wA M3 aM 11 (mA M aM 11 - n)) aM 12 (mA M aM 12 - n)) aM 10 (mA M aM 10 - n)) (1 + (mA M aM 11 - n) % 8) 0) aM j = mA (wA (wA (wA M3 aM 11 (mA M aM 11 - n)) aM 12 (mA M aM 12 - n)) aM 10 (mA M aM 10 - n)) aM j := fun j => by rw [cpS_a, if_neg (fun q => absurd q.1 (by decide))]
        have e11 : mA (cpSta (wA (wA (wA M3 aM 11 (mA M aM 11 - n)) aM 12 (mA M aM 12 - n)) aM 10 (mA M aM 10 - n)) (1 + (mA M aM 11 - n) % 8) 0) aM 11 = mA M aM 11 - n := by rw [cm, wA_o _ _ (by decide), wA_o _ _ (by decide), wA_e]
        have e12 : mA (cpSta (wA (wA (wA M3 aM 11 (mA M aM 11 - n)) aM 12 (mA M aM 12 - n)) aM 10 (mA M aM 10 - n)) (1 + (mA M aM 11 - n) % 8) 0) aM 12 = mA M aM 12 - n := by rw [cm, wA_o _ _ (by decide), wA_e]
        have e10 : mA (cpSta (wA (wA (wA M3 aM 11 (mA M aM 11 - n)) aM 12 (mA M aM 12 - n)) aM 10 (mA M aM 10 - n)) (1 + (mA M aM 11 - n) % 8) 0) aM 10 = mA M aM 10 - n := by rw [cm, wA_e]
        have eo : ∀ j, ¬ (j = 10 ∨ j = 11 ∨ j = 12) → mA (cpSta (wA (wA (wA M3 aM 11 (mA M aM 11 - n)) aM 12 (mA M aM 12 - n)) aM 10 (mA M aM 10 - n)) (1 + (mA M aM 11 - n) % 8) 0) aM j = mA M aM j := fun j q => by rw [cm, wA_o _ _ (fun z => q (by omega)), wA_o _ _ (fun z => q (by omega)), wA_o _ _ (fun z => q (by omega)), yM]
        have wsl : ∀ b B, 0 ≤ b → mSl M b B → mSl (wA (wA (wA M3 aM 11 (mA M aM 11 - n)) aM 12 (mA M aM 12 - n)) aM 10 (mA M aM 10 - n)) b B := fun b B x g => mSl_e g x (fun j => by rw [w4 _ _ (by decide)]; exact yi j) (fun j => yd j)
        have sl0 := cpS_to (t := 0) (wsl _ _ (by omega) u1) (by omega) (by omega)
        have slb : ∀ b B, 1 ≤ b → mSl M b B → mSl (cpSta (wA (wA (wA M3 aM 11 (mA M aM 11 - n)) aM 12 (mA M aM 12 - n)) aM 10 (mA M aM 10 - n)) (1 + (mA M aM 11 - n) % 8) 0) b B := fun b B x g => cpS_o (wsl b B (by omega) g) (by omega) (by omega) (by omega)
        have ktr : ∀ j, mA (cpSta (wA (wA (wA M3 aM 11 (mA M aM 11 - n)) aM 12 (mA M aM 12 - n)) aM 10 (mA M aM 10 - n)) (1 + (mA M aM 11 - n) % 8) 0) amTr j = mA M3 amTr j := fun j => by rw [cpS_a, if_neg (fun q => absurd q.1 (by decide)), w4 _ _ (by decide)]
        generalize cpSta (wA (wA (wA M3 aM 11 (mA M aM 11 - n)) aM 12 (mA M aM 12 - n)) aM 10 (mA M aM 10 - n)) (1 + (mA M aM 11 - n) % 8) 0 = M4 at *
        obtain ⟨R1q, R4q, R5q, R7q⟩ := bF_rest (bf13.trans k4.bf) r1 r4 r5 r7
        have kr4 := k4.bf.row
        have t6 : ∀ l i, tg l = 6 → mA M4 l i = mA M3 l i ∧ mB M4 l i = mB M3 l i ∧ mR M4 l i = mR M3 l i := fun l i t => ⟨k4.1 l i (fun q => absurd t (by rw [q]; decide)) (fun q => absurd t (by rw [q]; decide)) (fun q => absurd t (by rw [q]; decide)) (fun q => absurd t (by rw [q.1]; decide)), k4.2.1 l i (fun q => absurd t (by rw [q]; decide)) (fun q => absurd t (by rw [q]; decide)), by rw [k4.2.2.1]⟩
        have kc : ∀ S F x, tg S = 6 → cS1 M3 S F x → cS1 M4 S F x := fun S F x t g => cS1_f kr4 g (fun i => (t6 S i t).1) (fun i => (t6 S i t).2.1) (t6 S 0 t).2.2 (fun i => by rw [k4.2.2.1])
        have kx : ∀ l j, ¬ l = amIn → ¬ l = amOr → ¬ l = amTr → ¬ l = aM → mA M4 l j = mA M3 l j := fun l j x y z w => k4.1 l j x y z (fun q => w q.1)
        have kh : ∀ j, mA M4 aHist j = mA M2 aHist j := fun j => by rw [kx _ _ (by decide) (by decide) (by decide) (by decide), x3 _ _ (by decide)]
        refine ⟨rfl, N, H n, (fun j => H (j + n)), T, TK, rk, R1q, ⟨⟨sl0, fun o x y => ⟨kc _ _ _ (no_t _) (s3 o x y), okS_t (u3 o x (by omega)) (by omega)⟩, fun o x y => okS_t (u3 o x y) (by omega), u4⟩, ?_, ?_, ?_⟩, R4q, R5q, R6_c r6 (fun j => by rw [kx _ _ (by decide) (by decide) (by decide) (by decide), y3 _ _ (by decide) (by decide)]) (fun j q => eo j (by omega)) (fun j => by rw [kx _ _ (by decide) (by decide) (by decide) (by decide), y3 _ _ (by decide) (by decide)]) (fun j => by rw [ktr, y3 _ _ (by decide) (by decide)]), R7q, ?_⟩
        · rw [kh, kh, kh, e10, e11, e12, z30, z31, z33]
          exact ⟨rfl, by omega, rfl, rfl⟩
        · rw [e11, e12]; omega
        · rw [e11, e12]
          intro j x y
          obtain ⟨v1, v2, v3, v4⟩ := hh (j + n) (by omega) (by omega)
          rw [show mA M aM 11 - n - j = mA M aM 11 - (j + n) by omega]
          refine ⟨slb _ _ (by omega) v1, fun m m0 m1 => kc _ _ _ (ps_t _) ?_, fun o a b => okS_t (v3 o a b) (by omega), v4⟩
          refine cS1_f (g3.row nwL.t nfL.t) (cS1_f bf2.row (v2 m m0 m1) (fun i => z3 _ _ (tg_d (ps_t _) (show tg aHist = 2 by decide) (by decide))) (fun i => by rw [ze1]) (by rw [ze2]) (fun i => by rw [ze2])) (fun i => g3.1 _ _ (fun ⟨q, _, e⟩ => ps_no e)) (fun i => g3.2.1 _ _ (fun ⟨q, _, e⟩ => ps_no e)) (g3.2.2.1 _ _ (fun ⟨⟨q, _, e⟩, _⟩ => ps_no e) (fun ⟨q, _, e⟩ => fe_ps e.symm)) (fun i => g3.2.2.1 _ _ (fun ⟨⟨q, _, e⟩, _⟩ => fe_no e) (fun ⟨q, q0, e⟩ => by have := fed_e.mp e; omega))
        · have f4 := k4.2.2.2.2.1
          have f3 := g3.2.2.2.2.1
          unfold R8 at r8 ⊢
          rw [f4.1, f4.2, f3.1, f3.2, ze4, ze5]
          omega
