/-! 77.cfin: the developers' own: the trace is closed, DELAYS are fed, perform whole -/
def clG (M0 M : xm) : Prop := (∀ l j, ¬ (l = aBlok ∧ j = 6) → ¬ l = aMarks → mA M l j = mA M0 l j) ∧ mB M = mB M0 ∧ mR M = mR M0 ∧ mC M = mC M0 ∧ (mK M = mK M0 ∧ mS M = mS M0) ∧ inR M
theorem clG.refl {M : xm} (h : inR M) : clG M M := ⟨fun _ _ _ _ => rfl, rfl, rfl, rfl, ⟨rfl, rfl⟩, h⟩
theorem clG.w {M0 M : xm} (h : clG M0 M) (i : Nat) {x y : Int} (hx : wr x = x) (hy : wr y = y) : clG M0 (wA (wA M aMarks i x) aBlok 6 y) := by
  obtain ⟨a1, a2, a3, a4, a5, a6⟩ := h
  refine ⟨fun l j v w => ?_, a2, a3, a4, a5, (a6.wA _ _ hx).wA _ _ hy⟩
  rw [wA_o _ _ v, wA_o _ _ (fun q => w q.1)]
  exact a1 l j v w
theorem clG.s {M0 M : xm} {N : Int} (h : clG M0 M) (hC : cS M0 N) : cS M N :=
  cS_c hC h.2.2.2.2.2 (fun l j _ _ _ _ => by rw [h.2.2.1]) (fun l j q => h.1 l j (fun z => q (by rw [z.1]; exact Or.inr (Or.inr (Or.inr (Or.inl (by decide)))))) (fun z => q (by rw [z]; unfold nonS; decide)))
theorem l_close {M0 : xm} {N c : Int} {ord : Nat → Int} (hC0 : cS M0 N) (hc : 0 ≤ c ∧ c ≤ 24) (hord : ∀ i : Nat, (i : Int) < c → 0 ≤ ord i ∧ ord i ≤ 23) (Q : Option xv → xm → Prop) (hg : ∀ M, clG M0 M → mA M aBlok 6 = 2 * c → (∀ i : Nat, (i : Int) < 2 * c → mA M aMarks i = trF ord c i) → Q none M) :
    ∀ (d : Nat) (k : Int) (M : xm), k + 1 = d → k < c → clG M0 M → mA M aBlok 6 = 2 * c - 1 - k → (∀ i : Nat, (i : Int) < 2 * c - 1 - k → mA M aMarks i = trF ord c i) → Wp qX0_closeAll 7 [vR aBlok, vI k] [] M Q
  | 0, k, M, hd, hk, hG, e6, htr => by
    obtain rfl : k = -1 := by omega
    have h := hg M hG (by omega) (fun i hi => htr i (by omega))
    rw [HX0_closeAll_7]
    simp (disch := first | omega | (simp only [DT, DS, ne_eq, Nat.reduceEqDiff, not_false_eq_true]; done)) only [RX0_closeAll, BW, wr_id, OM, OE, PL, ↓reduceIte, TGs, bi_T, bi_F, bi_ff, Nat.reduceLeDiff, Nat.reduceLT, Nat.reduceAdd]
    exact h
  | d + 1, k, M, hd, hk, hG, e6, htr => by
    have hC := hG.s hC0
    have hR' := hC.r
    have ek := htr k.toNat (by omega)
    have ho := hord k.toNat (by omega)
    unfold trF at ek
    rw [if_pos (by omega)] at ek
    have qk := c_mark hC (x := -(ord k.toNat + 1)) e6 (by omega) (wr_id (by omega) (by omega))
    have ih := l_close hC0 hc hord Q hg d (k + -1) (wA (wA M aMarks (2 * c - 1 - k).toNat (-(ord k.toNat + 1))) aBlok 6 (2 * c - 1 - k + 1)) (by omega) (by omega) (hG.w _ (wr_id (by omega) (by omega)) (wr_id (by omega) (by omega))) (by rw [wA_e]; omega) (fun i hi => by
      rw [wA_o _ _ (fun q => absurd q.1 (by decide))]
      by_cases e : i = (2 * c - 1 - k).toNat
      · rw [e, wA_e]
        unfold trF
        rw [if_neg (by omega), show (2 * c - 1 - (((2 * c - 1 - k).toNat : Nat) : Int)).toNat = k.toNat by omega]
      · rw [wA_o _ _ (fun q => e q.2)]
        exact htr i (by omega))
    rw [HX0_closeAll_7]
    simp (disch := first | omega | (simp only [DT, DS, ne_eq, Nat.reduceEqDiff, not_false_eq_true]; done)) only [RX0_closeAll, cP.e hC.1, ek, qk, BW, wr_id, OM, OE, PL, ↓reduceIte, TGs, bi_T, bi_F, bi_ff, Nat.reduceLeDiff, Nat.reduceLT, Nat.reduceAdd]
    exact ih
theorem c_close {M : xm} {N c : Int} {ord : Nat → Int} (hC : cS M N) (hc : 0 ≤ c ∧ c ≤ 24) (hord : ∀ i : Nat, (i : Int) < c → 0 ≤ ord i ∧ ord i ≤ 23) (e6 : mA M aBlok 6 = c) (hmk : ∀ i : Nat, (i : Int) < c → mA M aMarks i = ord i + 1) (Q : Option xv → xm → Prop) (hg : ∀ M', clG M M' → mA M' aBlok 6 = 2 * c → (∀ i : Nat, (i : Int) < 2 * c → mA M' aMarks i = trF ord c i) → Q none M') : Wp qX0_closeAll 0 [vR aBlok, vX] [] M Q := by
  have hR' := hC.r
  have g := l_close hC hc hord Q hg (c - 1 + 1).toNat (c - 1) M (by omega) (by omega) (clG.refl hC.2.1.2.1) (by omega) (fun i hi => by
    unfold trF
    rw [if_pos (by omega)]
    exact hmk i (by omega))
  simp (disch := first | omega | (simp only [DT, DS, ne_eq, Nat.reduceEqDiff, not_false_eq_true]; done)) only [RX0_closeAll, e6, BW, wr_id, OM, OE, PL, ↓reduceIte, TGs, bi_T, bi_F, bi_ff, Nat.reduceLeDiff, Nat.reduceLT, Nat.reduceAdd]
  exact g
theorem xel5 : xel 35 = 5 := rfl
theorem c_feed {M : xm} {S F G : Nat} (t : tg S = 6) (e7 : mR M S 7 = F) (tf : tg F = 35 ∧ ln F = 4) (h0 : mR M F 0 = 0 ∨ tg (mR M F 0) = 5) (h1 : mR M F 1 = 0 ∨ tg (mR M F 1) = 5) (h2 : mR M F 2 = 0 ∨ tg (mR M F 2) = 5) (hG : G = 0 ∨ tg G = 5) (Q : Option xv → xm → Prop) : Wp qX5_feed 0 [vR S, vR G, vX] [] M Q ↔ Q none (wR (wR (wR (wR M F 3 (mR M F 2)) F 2 (mR M F 1)) F 1 (mR M F 0)) F 0 G) := by
  simp (disch := first | omega | (simp only [DT, DS, ne_eq, Nat.reduceEqDiff, not_false_eq_true]; done)) only [RX5_feed, BW, wr_id, OM, OE, PL, ↓reduceIte, TGs, bi_T, bi_F, bi_ff, Nat.reduceLeDiff, Nat.reduceLT, Nat.reduceAdd]
  rw [HX5_feed_2]
  simp (disch := first | omega | (simp only [DT, DS, ne_eq, Nat.reduceEqDiff, not_false_eq_true]; done)) only [RX5_feed, t, e7, tf.1, tf.2, xel5, eq_true h2, Int.reduceSub, Int.reduceAdd, Int.reduceToNat, BW, wr_id, OM, OE, PL, ↓reduceIte, TGs, bi_T, bi_F, bi_ff, Nat.reduceLeDiff, Nat.reduceLT, Nat.reduceAdd]
  rw [HX5_feed_2]
  simp (disch := first | omega | (simp only [DT, DS, ne_eq, Nat.reduceEqDiff, not_false_eq_true]; done)) only [RX5_feed, t, e7, tf.1, tf.2, xel5, eq_true h1, MM, Nat.reduceEqDiff, Int.reduceSub, Int.reduceAdd, Int.reduceToNat, BW, wr_id, OM, OE, PL, ↓reduceIte, TGs, bi_T, bi_F, bi_ff, Nat.reduceLeDiff, Nat.reduceLT, Nat.reduceAdd]
  rw [HX5_feed_2]
  simp (disch := first | omega | (simp only [DT, DS, ne_eq, Nat.reduceEqDiff, not_false_eq_true]; done)) only [RX5_feed, t, e7, tf.1, tf.2, xel5, eq_true h0, MM, Nat.reduceEqDiff, Int.reduceSub, Int.reduceAdd, Int.reduceToNat, BW, wr_id, OM, OE, PL, ↓reduceIte, TGs, bi_T, bi_F, bi_ff, Nat.reduceLeDiff, Nat.reduceLT, Nat.reduceAdd]
  rw [HX5_feed_2]
  simp (disch := first | omega | (simp only [DT, DS, ne_eq, Nat.reduceEqDiff, not_false_eq_true]; done)) only [RX5_feed, t, e7, tf.1, tf.2, xel5, eq_true hG, MM, Nat.reduceEqDiff, Int.reduceSub, Int.reduceAdd, Int.reduceToNat, BW, wr_id, OM, OE, PL, ↓reduceIte, TGs, bi_T, bi_F, bi_ff, Nat.reduceLeDiff, Nat.reduceLT, Nat.reduceAdd]
/-- what finish leaves alone -/
def fnG (M0 M : xm) : Prop := (∀ l j, ¬ (l % 274877906944 = 83777028102 ∧ j = 6) → mA M l j = mA M0 l j) ∧ mB M = mB M0 ∧ (∀ l j, (∀ o : Nat, ¬ l = fedA (10 * o)) → mR M l j = mR M0 l j) ∧ mC M = mC M0 ∧ (mK M = mK M0 ∧ mS M = mS M0) ∧ inR M
theorem fnG.refl {M : xm} (h : inR M) : fnG M M := ⟨fun _ _ _ => rfl, rfl, fun _ _ _ => rfl, rfl, ⟨rfl, rfl⟩, h⟩
theorem fnG.s {M0 M : xm} {N : Int} (h : fnG M0 M) (hC : cS M0 N) : cS M N :=
  cS_c hC h.2.2.2.2.2 (fun l j _ _ _ a => h.2.2.1 l j (fun o q => a (by rw [q]; exact TGf.2.2.2.2.2.2.2.2.2.2.2.2.2.2.1 _))) (fun l j q => h.1 l j (fun z => q (Or.inr (Or.inl (nw_t z.1)))))
theorem fnG.row {M0 M : xm} (h : fnG M0 M) : rowG M0 M := ⟨fun k => by rw [h.2.2.2.1]; exact Nat.le_refl _, fun l j _ t => ⟨h.1 l j (fun q => absurd (nw_t q.1) (by rw [t]; decide)), h.2.2.1 l j (fun o q => absurd t (by rw [q, TGf.2.2.2.2.2.2.2.2.2.2.2.2.2.2.1]; decide))⟩, fun v j n _ _ => by rw [h.2.1]⟩
theorem fnG.n {M0 M : xm} (h : fnG M0 M) (i j : Nat) : mR M (nowA i) j = mR M0 (nowA i) j := h.2.2.1 _ _ (fun o q => fd_b _ _ q.symm)
theorem fnG.b {M0 M : xm} (h : fnG M0 M) (i : Nat) {x : Int} (hx : wr x = x) : fnG M0 (wA M (nowA i) 6 x) := by
  obtain ⟨a1, a2, a3, a4, a5, a6⟩ := h
  refine ⟨fun l j v => ?_, a2, a3, a4, a5, a6.wA _ _ hx⟩
  rw [wA_o _ _ (fun q => v ⟨by rw [q.1]; exact now_k _, q.2⟩)]
  exact a1 l j v
theorem fnG.f {M0 M : xm} (h : fnG M0 M) (o : Nat) (a b c d : Nat) : fnG M0 (wR (wR (wR (wR M (fedA (10 * o)) 3 a) (fedA (10 * o)) 2 b) (fedA (10 * o)) 1 c) (fedA (10 * o)) 0 d) := by
  obtain ⟨a1, a2, a3, a4, a5, a6⟩ := h
  refine ⟨a1, a2, fun l j v => ?_, a4, a5, a6⟩
  have e : mR (wR (wR (wR (wR M (fedA (10 * o)) 3 a) (fedA (10 * o)) 2 b) (fedA (10 * o)) 1 c) (fedA (10 * o)) 0 d) l j = mR M l j := by
    simp only [MM]
    rw [if_neg (fun q => v o q.1), if_neg (fun q => v o q.1), if_neg (fun q => v o q.1), if_neg (fun q => v o q.1)]
  rw [e]
  exact a3 l j v
theorem fed_e {i j : Nat} : (fedA i = fedA j) = (i = j) := propext ⟨fun h => by unfold fedA at h; omega, fun h => by rw [h]⟩
theorem l_fin {M0 : xm} {N t : Int} {A : Int → SS} (hC0 : cS M0 N) (hA0 : cA M0 N t A) (Q : Option xv → xm → Prop) (hg : ∀ M, fnG M0 M → (∀ o, 0 ≤ o → o < N → cS1 M (nowA o.toNat) (fedA (10 * o).toNat) (bfA (mA M0) N (fdA (mA M0) N A) o)) → Q none M) :
    ∀ (d : Nat) (k : Int) (M : xm) (x2 : xv), k + d = N → 0 ≤ k → fnG M0 M → (∀ o, 0 ≤ o → o < N → cS1 M (nowA o.toNat) (fedA (10 * o).toNat) (if o < k then bfA (mA M0) N (fdA (mA M0) N A) o else A o)) → Wp qX0_finish 2 [vR aBlok, vI k, x2] [] M Q
  | 0, k, M, x2, hd, h0, hF, hS => by
    have hC := hF.s hC0
    have hR' := hC.r
    have eN := hC.2.2.1
    obtain rfl : k = N := by omega
    have g := hg M hF (fun o a b => by have := hS o a b; rwa [if_pos b] at this)
    rw [HX0_finish_2]
    simp (disch := first | omega | (simp only [DT, DS, ne_eq, Nat.reduceEqDiff, not_false_eq_true]; done)) only [RX0_finish, cP.e hC.1, eN.1, BW, wr_id, OM, OE, PL, ↓reduceIte, TGs, bi_T, bi_F, bi_ff, Nat.reduceLeDiff, Nat.reduceLT, Nat.reduceAdd]
    exact g
  | d + 1, k, M, x2, hd, h0, hF, hS => by
    have hC := hF.s hC0
    have hR' := hC.r
    have eN := hC.2.2.1
    have hN := eN.2.2
    have hm : 0 ≤ k ∧ k < N := by omega
    have qa := c_at hC k (by omega)
    rw [show uR N k = uA k.toNat from if_pos hm] at qa
    have uz : ¬ uA k.toNat = 0 := tg_ne (TGf.1 _) (by decide)
    have hu := hC.2.2.2.1 k hm.1 hm.2
    have k0 := hu.2.2.2.2.1 0 (by omega) (by omega)
    rw [show 3 * k + 0 = 3 * k by omega, show (0 : Int).toNat = 0 from rfl] at k0
    have ekn : mA M amKn (3 * k).toNat = mA M0 amKn (3 * k).toNat := hF.1 _ _ (fun q => absurd q.1 (by decide))
    have ekd : mA M amKd k.toNat = mA M0 amKd k.toNat := hF.1 _ _ (fun q => absurd q.1 (by decide))
    rw [ekn] at k0
    have kd1 := hu.2.2.2.1.2.1
    rw [ekd] at kd1
    have wk : wr (mA M0 amKn (3 * k).toNat) = mA M0 amKn (3 * k).toNat := by rw [← ekn]; exact hR' _ _
    have hF1 := hF.b k.toNat wk
    have hC1 := hF1.s hC0
    have s0 := hS k h0 hm.2
    rw [if_neg (by omega)] at s0
    have ih := fun M' y2 => l_fin hC0 hA0 Q hg d (k + 1) M' y2 (by omega) (by omega)
    have kdu : mA (wA M (nowA k.toNat) 6 (mA M0 amKn (3 * k).toNat)) (uA k.toNat) 1 = mA M0 amKd k.toNat := by rw [wA_o _ _ (fun q => tg_d (TGf.1 k.toNat) (TGf.2.2.2.2.1 k.toNat) (by decide) q.1)]; exact kd1
    have kdb := hC0.2.1.2.2.2.1 k.toNat
    have oth : ∀ o, 0 ≤ o → o < N → ¬ o = k → (if o < k + 1 then bfA (mA M0) N (fdA (mA M0) N A) o else A o) = if o < k then bfA (mA M0) N (fdA (mA M0) N A) o else A o := fun o a b c => by
      by_cases e : o < k
      · rw [if_pos e, if_pos (by omega)]
      · rw [if_neg e, if_neg (by omega)]
    have ebf : bfA (mA M0) N (fdA (mA M0) N A) k = setB (fdA (mA M0) N A k) (mA M0 amKn (3 * k).toNat) := if_pos hm.2
    have hr1 : rowG M (wA M (nowA k.toNat) 6 (mA M0 amKn (3 * k).toNat)) := ⟨fun _ => Nat.le_refl _, fun l j _ t => ⟨wA_o _ _ (fun q => absurd t (by rw [q.1, TGf.2.2.2.2.1]; decide)), rfl⟩, fun _ _ _ _ _ => rfl⟩
    obtain ⟨g1, ⟨g2, g3, g4, g5, g6, g7⟩, g8⟩ := s0
    have f0 := hS
    rw [HX0_finish_2]
    by_cases c6 : mA M0 amKd k.toNat = 6
    · have qr := c_rowAt hC1 hm (i := 0) (by omega)
      have eco : mA (wA M (nowA k.toNat) 6 (mA M0 amKn (3 * k).toNat)) amCo (3 * k + 0).toNat = mA M0 amCo (3 * k).toNat := by rw [show 3 * k + 0 = 3 * k by omega]; exact hF1.1 _ _ (fun q => absurd q.1 (by decide))
      rw [eco] at qr
      have egr : gR (wA M (nowA k.toNat) 6 (mA M0 amKn (3 * k).toNat)) N (mA M0 amCo (3 * k).toNat - 1) = gR M0 N (mA M0 amCo (3 * k).toNat - 1) := by
        unfold gR
        rw [hF1.n]
      rw [egr] at qr
      have hx := (ir_c hC0 hA0.g hm (i := 0) (by omega)).1
      rw [show 3 * k + 0 = 3 * k by omega] at hx
      have fx := cRw_f hF.row hx
      have r7 : mR (wA M (nowA k.toNat) 6 (mA M0 amKn (3 * k).toNat)) (nowA k.toNat) 7 = fedA (10 * k).toNat := hu.1.2.2.2.2
      have q1 := g8 1 (by omega) (by omega)
      have q2 := g8 2 (by omega) (by omega)
      have q3 := g8 3 (by omega) (by omega)
      have qf := c_feed (M := wA M (nowA k.toNat) 6 (mA M0 amKn (3 * k).toNat)) (G := gR M0 N (mA M0 amCo (3 * k).toNat - 1)) (TGf.2.2.2.2.1 k.toNat) r7 ⟨TGf.2.2.2.2.2.2.2.2.2.2.2.2.2.2.1 _, TGf.2.2.2.2.2.2.2.2.2.2.2.2.2.2.2.1 _⟩ q1.g q2.g q3.g hx.g
      have e10 : (10 * k).toNat = 10 * k.toNat := by omega
      have ef : fdA (mA M0) N A k = fdS (A k) (iRw A (mA M0 amCo (3 * k).toNat)) := if_pos ⟨hm.2, c6⟩
      have hF2 := hF1.f k.toNat (mR M (fedA (10 * k.toNat)) 2) (mR M (fedA (10 * k.toNat)) 1) (mR M (fedA (10 * k.toNat)) 0) (gR M0 N (mA M0 amCo (3 * k).toNat - 1))
      rw [← e10] at hF2
      have hq : ∀ y2, Wp qX0_finish 2 [vR aBlok, vI (k + 1), y2] [] (wR (wR (wR (wR (wA M (nowA k.toNat) 6 (mA M0 amKn (3 * k).toNat)) (fedA (10 * k).toNat) 3 (mR M (fedA (10 * k).toNat) 2)) (fedA (10 * k).toNat) 2 (mR M (fedA (10 * k).toNat) 1)) (fedA (10 * k).toNat) 1 (mR M (fedA (10 * k).toNat) 0)) (fedA (10 * k).toNat) 0 (gR M0 N (mA M0 amCo (3 * k).toNat - 1))) Q := fun y2 => by
        refine ih _ y2 hF2 (fun o a b => ?_)
        have hr2 : rowG M (wR (wR (wR (wR (wA M (nowA k.toNat) 6 (mA M0 amKn (3 * k).toNat)) (fedA (10 * k).toNat) 3 (mR M (fedA (10 * k).toNat) 2)) (fedA (10 * k).toNat) 2 (mR M (fedA (10 * k).toNat) 1)) (fedA (10 * k).toNat) 1 (mR M (fedA (10 * k).toNat) 0)) (fedA (10 * k).toNat) 0 (gR M0 N (mA M0 amCo (3 * k).toNat - 1))) := ⟨fun _ => Nat.le_refl _, fun l j _ t => ⟨wA_o _ _ (fun q => absurd t (by rw [q.1, TGf.2.2.2.2.1]; decide)), by
          have nf : ¬ l = fedA (10 * k).toNat := fun q => absurd t (by rw [q, TGf.2.2.2.2.2.2.2.2.2.2.2.2.2.2.1]; decide)
          simp only [MM, nf, false_and, if_false]⟩, fun _ _ _ _ _ => rfl⟩
        by_cases e : o = k
        · rw [if_pos (by omega)]
          subst e
          rw [ebf, ef]
          refine ⟨?_, ⟨?_, g3, g4, ?_, ?_, ?_⟩, fun j c d => ?_⟩
          · simp only [MM]
            rw [if_neg (fun q => fd_b _ _ q.1.symm), if_neg (fun q => fd_b _ _ q.1.symm), if_neg (fun q => fd_b _ _ q.1.symm), if_neg (fun q => fd_b _ _ q.1.symm)]
            exact cRw_f hr2 g1
          · exact (wA_o _ _ (by simp)).trans g2
          · exact (wA_o _ _ (by simp)).trans g5
          · exact (wA_o _ _ (by simp)).trans g6
          · exact wA_e _ _ _ _
          · rcases (show j = 1 ∨ j = 2 ∨ j = 3 ∨ j = 4 by omega) with rfl | rfl | rfl | rfl
            · simp only [MM, Int.reduceSub, Int.reduceToNat, true_and, if_true, and_self]
              exact cRw_f hr2 fx
            · simp only [MM, Int.reduceSub, Int.reduceToNat, true_and, if_true, and_self, Nat.reduceEqDiff, if_false]
              exact cRw_f hr2 q1
            · simp only [MM, Int.reduceSub, Int.reduceToNat, true_and, if_true, and_self, Nat.reduceEqDiff, if_false]
              exact cRw_f hr2 q2
            · simp only [MM, Int.reduceSub, Int.reduceToNat, true_and, if_true, and_self, Nat.reduceEqDiff, if_false]
              exact cRw_f hr2 q3
        · rw [oth o a b e]
          have hd1 : ¬ nowA o.toNat = nowA k.toNat := fun q => by
            have := (DS.2.2.2.2.2.2.2.2.1 o.toNat k.toNat).mp q
            omega
          have hd2 : ¬ fedA (10 * o).toNat = fedA (10 * k).toNat := fun q => by
            have := fed_e.mp q
            omega
          refine cS1_f hr2 (hS o a b) (fun j => wA_o _ _ (fun q => hd1 q.1)) (fun j => rfl) ?_ (fun j => ?_)
          · simp only [MM]
            rw [if_neg (fun q => fd_b _ _ q.1.symm), if_neg (fun q => fd_b _ _ q.1.symm), if_neg (fun q => fd_b _ _ q.1.symm), if_neg (fun q => fd_b _ _ q.1.symm)]
          · simp only [MM]
            rw [if_neg (fun q => hd2 q.1), if_neg (fun q => hd2 q.1), if_neg (fun q => hd2 q.1), if_neg (fun q => hd2 q.1)]
      simp (disch := first | omega | (simp only [DT, DS, ne_eq, Nat.reduceEqDiff, not_false_eq_true]; done)) only [RX0_finish, cP.e hC.1, eN.1, qa, uz, TGf, hu.1.2.1, hu.1.2.2.1, Int.reduceToNat, k0, wk, kdu, c6, MM.2.2.1, qr, qf, BW, wr_id, OM, OE, PL, ↓reduceIte, TGs, bi_T, bi_F, bi_ff, Nat.reduceLeDiff, Nat.reduceLT, Nat.reduceAdd]
      exact hq _
    · have ef : fdA (mA M0) N A k = A k := if_neg (fun q => c6 q.2)
      have hq : ∀ y2, Wp qX0_finish 2 [vR aBlok, vI (k + 1), y2] [] (wA M (nowA k.toNat) 6 (mA M0 amKn (3 * k).toNat)) Q := fun y2 => by
        refine ih _ y2 hF1 (fun o a b => ?_)
        by_cases e : o = k
        · rw [if_pos (by omega)]
          subst e
          rw [ebf, ef]
          refine ⟨cRw_f hr1 g1, ⟨(wA_o _ _ (by simp)).trans g2, g3, g4, (wA_o _ _ (by simp)).trans g5, (wA_o _ _ (by simp)).trans g6, wA_e _ _ _ _⟩, fun j c d => cRw_f hr1 (g8 j c d)⟩
        · rw [oth o a b e]
          have hd1 : ¬ nowA o.toNat = nowA k.toNat := fun q => by
            have := (DS.2.2.2.2.2.2.2.2.1 o.toNat k.toNat).mp q
            omega
          exact cS1_f hr1 (hS o a b) (fun j => wA_o _ _ (fun q => hd1 q.1)) (fun j => rfl) rfl (fun j => rfl)
      simp (disch := first | omega | (simp only [DT, DS, ne_eq, Nat.reduceEqDiff, not_false_eq_true]; done)) only [RX0_finish, cP.e hC.1, eN.1, qa, uz, TGf, hu.1.2.1, hu.1.2.2.1, Int.reduceToNat, k0, wk, kdu, c6, BW, wr_id, OM, OE, PL, ↓reduceIte, TGs, bi_T, bi_F, bi_ff, Nat.reduceLeDiff, Nat.reduceLT, Nat.reduceAdd]
      exact hq _
