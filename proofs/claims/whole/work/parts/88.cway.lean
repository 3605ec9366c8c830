/-! 88.cway: the developers' own: the shortest loop -/
theorem aG.rk {M0 M : xm} (h : aG aSteps M0 M) : rkG M0 M := ⟨fun l j _ _ w => h.1 l j w, h.2⟩
/-- in j of m comes from one at level n -/
def fdi (C : Nat → Nat → Int) (f : Int → Int) (n m j : Int) : Bool := decide (1 ≤ C amCo (3 * m + j).toNat) && decide (f (C amCo (3 * m + j).toNat - 1) = n)
def fdF (C : Nat → Nat → Int) (f : Int → Int) (n m : Int) : Nat → Int → Bool
  | 0, _ => false
  | d + 1, i => fdi C f n m i || fdF C f n m d (i + 1)
theorem fdF_iff (C : Nat → Nat → Int) (f : Int → Int) (n m : Int) : ∀ (d : Nat) (i : Int), fdF C f n m d i = true ↔ ∃ j, i ≤ j ∧ j < i + d ∧ fdi C f n m j = true
  | 0, i => ⟨fun h => absurd h (by simp [fdF]), fun ⟨j, a, b, _⟩ => by omega⟩
  | d + 1, i => by
    unfold fdF
    rw [or_tt, fdF_iff C f n m d (i + 1)]
    constructor
    · rintro (h | ⟨j, a, b, c⟩)
      · exact ⟨i, by omega, by omega, h⟩
      · exact ⟨j, by omega, by omega, c⟩
    · rintro ⟨j, a, b, c⟩
      by_cases e : j = i
      · exact Or.inl (by rw [← e]; exact c)
      · exact Or.inr ⟨j, by omega, by omega, c⟩
section UW
variable {M : xm} {C : Nat → Nat → Int} {N m : Int}
theorem fdF_lv (h : uC M C N) (hm : 0 ≤ m ∧ m < N) (f : Int → Int) (n : Int) : anyB (fun a => decide (f a = n) && ldB C a m) N.toNat = fdF C f n m (nin (C amKd m.toNat)).toNat 0 := by
  have hb := nin_b (C amKd m.toNat)
  have z := h.2.2.2.2.1 m hm.1 hm.2
  have kb := fun i => h.2.2.2.2.2.1 m i hm.1 hm.2
  refine Bool.eq_iff_iff.mpr ?_
  rw [anyB_iff, fdF_iff]
  constructor
  · rintro ⟨a, a0, a1, a2⟩
    obtain ⟨b1, b2⟩ := Bool.and_eq_true_iff.mp a2
    have b1 := of_decide_eq_true b1
    have g : ∀ j, 0 ≤ j → j ≤ 2 → C amCo (3 * m + j).toNat = a + 1 → ∃ j, (0 : Int) ≤ j ∧ j < 0 + ((nin (C amKd m.toNat)).toNat : Int) ∧ fdi C f n m j = true := fun j j0 j1 e => by
      refine ⟨j, j0, ?_, ?_⟩
      · by_cases k5 : C amKd m.toNat = 5
        · have : nin (C amKd m.toNat) = 3 := by rw [k5]; rfl
          omega
        · have := z k5
          have : ¬ j = 2 := fun q => by rw [q] at e; omega
          omega
      · unfold fdi
        rw [e, decide_eq_true (show 1 ≤ a + 1 by omega), show a + 1 - 1 = a by omega, decide_eq_true b1]
        rfl
    rcases of_decide_eq_true b2 with q | q | q
    · exact g 0 (by omega) (by omega) (by rw [show 3 * m + 0 = 3 * m by omega]; exact q)
    · exact g 1 (by omega) (by omega) q
    · exact g 2 (by omega) (by omega) q
  · rintro ⟨j, j0, j1, j2⟩
    obtain ⟨b1, b2⟩ := Bool.and_eq_true_iff.mp j2
    have b1 := of_decide_eq_true b1
    have k := kb j j0 (by omega)
    refine ⟨C amCo (3 * m + j).toNat - 1, by omega, by omega, ?_⟩
    refine Bool.and_eq_true_iff.mpr ⟨b2, decide_eq_true ?_⟩
    rcases (show j = 0 ∨ j = 1 ∨ j = 2 by omega) with rfl | rfl | rfl
    · rw [show 3 * m + 0 = 3 * m by omega]; exact Or.inl (by omega)
    · exact Or.inr (Or.inl (by omega))
    · exact Or.inr (Or.inr (by omega))
theorem l_fed (h : uC M C N) (hm : 0 ≤ m ∧ m < N) {f : Int → Int} {n : Int} (hn : 1 ≤ n ∧ n ≤ 24) (hS : ∀ a : Int, 0 ≤ a → a < N → (mA M aSteps a.toNat = n ↔ f a = n)) (Q : Option xv → xm → Prop) : ∀ (d : Nat) (i : Int) (x4 : xv), i + d = nin (C amKd m.toNat) → 0 ≤ i → (Wp qX3_isFedAtStep 2 [vR aRack, vR (uA m.toNat), vI n, vI i, x4] [] M Q ↔ Q (some (vI (bi (fdF C f n m d i = true)))) M)
  | 0, i, x4, hd, h0 => by
    have q := d_inCount h hm
    have hb := nin_b (C amKd m.toNat)
    rw [HX3_isFedAtStep_2, bi_f (show ¬ fdF C f n m 0 i = true by simp [fdF])]
    simp (disch := first | omega | (simp only [DT, DS, ne_eq, Nat.reduceEqDiff, not_false_eq_true]; done)) only [RX3_isFedAtStep, TGf, q, BW, wr_id, OM, OE, PL, ↓reduceIte, TGs, bi_T, bi_F, bi_ff, Nat.reduceLeDiff, Nat.reduceLT, Nat.reduceAdd]
  | d + 1, i, x4, hd, h0 => by
    have q := d_inCount h hm
    have hb := nin_b (C amKd m.toNat)
    have qc := d_cordOf h hm (i := i) (by omega)
    have kb := h.2.2.2.2.2.1 m i hm.1 hm.2 h0 (by omega)
    have eN := h.2.1
    have hR' : ∀ L k, wr (mA M L k) = mA M L k := h.2.2.1
    have ih := fun y4 => l_fed h hm hn hS Q d (i + 1) y4 (by omega) (by omega)
    rw [HX3_isFedAtStep_2]
    by_cases c1 : 1 ≤ C amCo (3 * m + i).toNat
    · have hs := hS (C amCo (3 * m + i).toNat - 1) (by omega) (by omega)
      have hr := hR' aSteps (C amCo (3 * m + i).toNat - 1).toNat
      by_cases c2 : f (C amCo (3 * m + i).toNat - 1) = n
      · have e : fdF C f n m (d + 1) i = true := by rw [fdF, fdi, decide_eq_true c1, decide_eq_true c2]; rfl
        have c3 := hs.mpr c2
        rw [bi_t e]
        simp (disch := first | omega | (simp only [DT, DS, ne_eq, Nat.reduceEqDiff, not_false_eq_true]; done)) only [RX3_isFedAtStep, TGf, q, qc, eN.1, h.1.2.2.2, c3, BW, wr_id, OM, OE, PL, ↓reduceIte, TGs, bi_T, bi_F, bi_ff, Nat.reduceLeDiff, Nat.reduceLT, Nat.reduceAdd]
      · have e : fdF C f n m (d + 1) i = fdF C f n m d (i + 1) := by rw [fdF, fdi, decide_eq_false c2, Bool.and_false, Bool.false_or]
        have c3 : ¬ mA M aSteps (C amCo (3 * m + i).toNat - 1).toNat = n := fun z => c2 (hs.mp z)
        rw [e]
        simp (disch := first | omega | (simp only [DT, DS, ne_eq, Nat.reduceEqDiff, not_false_eq_true]; done)) only [RX3_isFedAtStep, TGf, q, qc, eN.1, h.1.2.2.2, hR', c3, BW, wr_id, OM, OE, PL, ↓reduceIte, TGs, bi_T, bi_F, bi_ff, Nat.reduceLeDiff, Nat.reduceLT, Nat.reduceAdd]
        exact ih _
    · have e : fdF C f n m (d + 1) i = fdF C f n m d (i + 1) := by rw [fdF, fdi, decide_eq_false c1, Bool.false_and, Bool.false_or]
      rw [e]
      simp (disch := first | omega | (simp only [DT, DS, ne_eq, Nat.reduceEqDiff, not_false_eq_true]; done)) only [RX3_isFedAtStep, TGf, q, qc, BW, wr_id, OM, OE, PL, ↓reduceIte, TGs, bi_T, bi_F, bi_ff, Nat.reduceLeDiff, Nat.reduceLT, Nat.reduceAdd]
      exact ih _
theorem l_stepOn {M0 : xm} (hu0 : uC M0 C N) (hI0 : uI M0 N) {f : Int → Int} {n : Int} (hn : 1 ≤ n ∧ n ≤ 24) (Q : Option xv → xm → Prop) (hg : ∀ M, aG aSteps M0 M → (∀ b : Int, 0 ≤ b → b < N → mA M aSteps b.toNat = lvP C n f N.toNat b) → Q none M) : ∀ (d : Nat) (i : Int) (M : xm), i + d = N → 0 ≤ i → aG aSteps M0 M → (∀ b : Int, 0 ≤ b → b < N → mA M aSteps b.toNat = if b < i then lvP C n f N.toNat b else f b) → Wp qX3_stepOn 2 [vR aRack, vI n, vI i] [] M Q
  | 0, i, M, hd, h0, hG, hF => by
    obtain ⟨hu, hI⟩ := hG.rk.u hu0 hI0
    have hR' : ∀ L k, wr (mA M L k) = mA M L k := hu.2.2.1
    have eN := hu.2.1
    have g := hg M hG (fun b x y => by rw [hF b x y, if_pos (by omega)])
    obtain rfl : i = N := by omega
    rw [HX3_stepOn_2]
    simp (disch := first | omega | (simp only [DT, DS, ne_eq, Nat.reduceEqDiff, not_false_eq_true]; done)) only [RX3_stepOn, eN.1, BW, wr_id, OM, OE, PL, ↓reduceIte, TGs, bi_T, bi_F, bi_ff, Nat.reduceLeDiff, Nat.reduceLT, Nat.reduceAdd]
    exact g
  | d + 1, i, M, hd, h0, hG, hF => by
    obtain ⟨hu, hI⟩ := hG.rk.u hu0 hI0
    have hR' : ∀ L k, wr (mA M L k) = mA M L k := hu.2.2.1
    have eN := hu.2.1
    have hm : 0 ≤ i ∧ i < N := by omega
    have hk := hu.2.2.2.1 i hm.1 hm.2
    have kb := hu.2.2.2.2.2.2 i.toNat
    have hb := nin_b (C amKd i.toNat)
    have ih := fun M' => l_stepOn hu0 hI0 hn Q hg d (i + 1) M' (by omega) (by omega)
    have ei : mA M aSteps i.toNat = f i := by rw [hF i hm.1 hm.2, if_neg (by omega)]
    have wi : wr (f i) = f i := by rw [← ei]; exact hR' _ _
    have same : lvP C n f N.toNat i = f i → Wp qX3_stepOn 2 [vR aRack, vI n, vI (i + 1)] [] M Q := fun e => ih M hG (fun b x y => by
      rw [hF b x y]
      by_cases z : b = i
      · rw [z, if_neg (by omega), if_pos (by omega), e]
      · by_cases z2 : b < i
        · rw [if_pos z2, if_pos (by omega)]
        · rw [if_neg z2, if_neg (by omega)])
    have qf : ∀ Q, Wp qX3_isFedAtStep 0 [vR aRack, vR (uA i.toNat), vI n, vX, vX] [] M Q ↔ Q (some (vI (bi (fdF C f n i (nin (C amKd i.toNat)).toNat 0 = true)))) M := fun Q => by
      have g := l_fed hu hm (f := f) hn (fun a x y => by
        rw [hF a x y]
        split
        · exact lvP_a hn.1
        · exact Iff.rfl) Q (nin (C amKd i.toNat)).toNat 0 vX (by omega) (by omega)
      simp (disch := first | omega | (simp only [DT, DS, ne_eq, Nat.reduceEqDiff, not_false_eq_true]; done)) only [RX3_isFedAtStep, BW, wr_id, OM, OE, PL, ↓reduceIte, TGs, bi_T, bi_F, bi_ff, Nat.reduceLeDiff, Nat.reduceLT, Nat.reduceAdd]
      exact g
    have lv : lvP C n f N.toNat i = if f i = 0 ∧ ¬ C amKd i.toNat = 6 ∧ fdF C f n i (nin (C amKd i.toNat)).toNat 0 = true then n + 1 else f i := by
      unfold lvP
      rw [fdF_lv hu hm]
    rw [HX3_stepOn_2]
    by_cases c0 : f i = 0
    · by_cases c6 : C amKd i.toNat = 6
      · have g := same (by rw [lv, if_neg (fun q => q.2.1 c6)])
        simp (disch := first | omega | (simp only [DT, DS, ne_eq, Nat.reduceEqDiff, not_false_eq_true]; done)) only [RX3_stepOn, eN.1, hu.1.2.2.2, hu.1.1, ei, c0, hk.1.1, TGf, hk.2.1, c6, BW, wr_id, OM, OE, PL, ↓reduceIte, TGs, bi_T, bi_F, bi_ff, Nat.reduceLeDiff, Nat.reduceLT, Nat.reduceAdd]
        exact g
      · cases c7 : fdF C f n i (nin (C amKd i.toNat)).toNat 0
        · have g := same (by rw [lv, if_neg (fun q => by rw [c7] at q; exact absurd q.2.2 (by decide))])
          simp only [c7, bi_ff] at qf
          simp (disch := first | omega | (simp only [DT, DS, ne_eq, Nat.reduceEqDiff, not_false_eq_true]; done)) only [RX3_stepOn, eN.1, hu.1.2.2.2, hu.1.1, ei, c0, hk.1.1, TGf, hk.2.1, c6, qf, BW, wr_id, OM, OE, PL, ↓reduceIte, TGs, bi_T, bi_F, bi_ff, Nat.reduceLeDiff, Nat.reduceLT, Nat.reduceAdd]
          exact g
        · simp only [c7, bi_T] at qf
          rw [if_pos ⟨c0, c6, c7⟩] at lv
          have g := ih (wA M aSteps i.toNat (n + 1)) (hG.w _ (wr_id (by omega) (by omega))) (fun b x y => by
            by_cases z : b = i
            · rw [z, wA_e, if_pos (by omega), lv]
            · rw [wA_o _ _ (fun q => by have := q.2; omega), hF b x y]
              by_cases z2 : b < i
              · rw [if_pos z2, if_pos (by omega)]
              · rw [if_neg z2, if_neg (by omega)])
          simp (disch := first | omega | (simp only [DT, DS, ne_eq, Nat.reduceEqDiff, not_false_eq_true]; done)) only [RX3_stepOn, eN.1, hu.1.2.2.2, hu.1.1, ei, c0, hk.1.1, TGf, hk.2.1, c6, qf, BW, wr_id, OM, OE, PL, ↓reduceIte, TGs, bi_T, bi_F, bi_ff, Nat.reduceLeDiff, Nat.reduceLT, Nat.reduceAdd]
          exact g
    · have g := same (by rw [lv, if_neg (fun q => c0 q.1)])
      simp (disch := first | omega | (simp only [DT, DS, ne_eq, Nat.reduceEqDiff, not_false_eq_true]; done)) only [RX3_stepOn, eN.1, hu.1.2.2.2, hu.1.1, ei, wi, c0, BW, wr_id, OM, OE, PL, ↓reduceIte, TGs, bi_T, bi_F, bi_ff, Nat.reduceLeDiff, Nat.reduceLT, Nat.reduceAdd]
      exact g
theorem l_short {M0 : xm} (hu0 : uC M0 C N) (hI0 : uI M0 N) {o : Int} (ho : 0 ≤ o ∧ o < N) (x2 : xv) (x3 x4 : Nat) (Q : Option xv → xm → Prop) : ∀ (d : Nat) (n : Int) (f : Int → Int) (M : xm), n + d = N → 1 ≤ n → aG aSteps M0 M → (∀ b : Int, 0 ≤ b → b < N → mA M aSteps b.toNat = f b) → (∀ M', aG aSteps M0 M' → Q (some (vI (wyF C N o d n f o))) M') → Wp qX3_shortestLoop 82 [vR aRack, vI o, x2, vR x3, vR x4, vI n] [] M Q
  | 0, n, f, M, hd, h0, hG, hF, hg => by
    obtain ⟨hu, hI⟩ := hG.rk.u hu0 hI0
    have hR' : ∀ L k, wr (mA M L k) = mA M L k := hu.2.2.1
    have eN := hu.2.1
    have g := hg M hG
    have eo := hF o ho.1 ho.2
    unfold wyF at g
    obtain rfl : n = N := by omega
    rw [HX3_shortestLoop_82]
    simp (disch := first | omega | (simp only [DT, DS, ne_eq, Nat.reduceEqDiff, not_false_eq_true]; done)) only [RX3_shortestLoop, eN.1, hu.1.2.2.2, eo, BW, wr_id, OM, OE, PL, ↓reduceIte, TGs, bi_T, bi_F, bi_ff, Nat.reduceLeDiff, Nat.reduceLT, Nat.reduceAdd]
    exact g
  | d + 1, n, f, M, hd, h0, hG, hF, hg => by
    obtain ⟨hu, hI⟩ := hG.rk.u hu0 hI0
    have hR' : ∀ L k, wr (mA M L k) = mA M L k := hu.2.2.1
    have eN := hu.2.1
    have eo := hF o ho.1 ho.2
    have wo : wr (f o) = f o := by rw [← eo]; exact hR' _ _
    unfold wyF at hg
    rw [HX3_shortestLoop_82]
    by_cases c : f o = 0
    · rw [if_pos c] at hg
      simp (disch := first | omega | (simp only [DT, DS, ne_eq, Nat.reduceEqDiff, not_false_eq_true]; done)) only [RX3_shortestLoop, RX3_stepOn, eN.1, hu.1.2.2.2, eo, c, BW, wr_id, OM, OE, PL, ↓reduceIte, TGs, bi_T, bi_F, bi_ff, Nat.reduceLeDiff, Nat.reduceLT, Nat.reduceAdd]
      refine l_stepOn hu hI (f := f) (n := n) (by omega) _ (fun M1 g1 g2 => ?_) N.toNat 0 M (by omega) (by omega) (aG.refl hu.2.2.1) (fun b x y => by rw [if_neg (by omega)]; exact hF b x y)
      have g := l_short hu0 hI0 ho x2 x3 x4 Q d (n + 1) _ M1 (by omega) (by omega) ⟨fun l j w => (g1.1 l j w).trans (hG.1 l j w), g1.2.1.trans hG.2.1, g1.2.2.1.trans hG.2.2.1, g1.2.2.2.1.trans hG.2.2.2.1, ⟨g1.2.2.2.2.1.1.trans hG.2.2.2.2.1.1, g1.2.2.2.2.1.2.trans hG.2.2.2.2.1.2⟩, g1.2.2.2.2.2⟩ g2 hg
      simp (disch := first | omega | (simp only [DT, DS, ne_eq, Nat.reduceEqDiff, not_false_eq_true]; done)) only [RX3_shortestLoop, BW, wr_id, OM, OE, PL, ↓reduceIte, TGs, bi_T, bi_F, bi_ff, Nat.reduceLeDiff, Nat.reduceLT, Nat.reduceAdd]
      exact g
    · rw [if_neg c] at hg
      have g := hg M hG
      simp (disch := first | omega | (simp only [DT, DS, ne_eq, Nat.reduceEqDiff, not_false_eq_true]; done)) only [RX3_shortestLoop, eN.1, hu.1.2.2.2, eo, wo, c, BW, wr_id, OM, OE, PL, ↓reduceIte, TGs, bi_T, bi_F, bi_ff, Nat.reduceLeDiff, Nat.reduceLT, Nat.reduceAdd]
      exact g
theorem l_short0 {M0 : xm} (hu0 : uC M0 C N) (hI0 : uI M0 N) (hm : 0 ≤ m ∧ m < N) (x1 : xv) (x3 x4 : Nat) (Q : Option xv → xm → Prop) (hg : ∀ M, aG aSteps M0 M → (∀ b : Int, 0 ≤ b → b < N → mA M aSteps b.toNat = f1 m b) → Wp qX3_shortestLoop 82 [vR aRack, x1, vI m, vR x3, vR x4, vI 1] [] M Q) : ∀ (d : Nat) (k : Int) (M : xm), k + d = N → 0 ≤ k → aG aSteps M0 M → (∀ b : Int, 0 ≤ b → b < k → mA M aSteps b.toNat = f1 m b) → Wp qX3_shortestLoop 46 [vR aRack, x1, vI m, vR x3, vR x4, vI k] [] M Q
  | 0, k, M, hd, h0, hG, hF => by
    obtain ⟨hu, hI⟩ := hG.rk.u hu0 hI0
    have hR' : ∀ L k, wr (mA M L k) = mA M L k := hu.2.2.1
    have eN := hu.2.1
    obtain rfl : k = N := by omega
    have g := hg M hG hF
    rw [HX3_shortestLoop_46]
    simp (disch := first | omega | (simp only [DT, DS, ne_eq, Nat.reduceEqDiff, not_false_eq_true]; done)) only [RX3_shortestLoop, eN.1, BW, wr_id, OM, OE, PL, ↓reduceIte, TGs, bi_T, bi_F, bi_ff, Nat.reduceLeDiff, Nat.reduceLT, Nat.reduceAdd]
    exact g
  | d + 1, k, M, hd, h0, hG, hF => by
    obtain ⟨hu, hI⟩ := hG.rk.u hu0 hI0
    have hR' : ∀ L k, wr (mA M L k) = mA M L k := hu.2.2.1
    have eN := hu.2.1
    have g := l_short0 hu0 hI0 hm x1 x3 x4 Q hg d (k + 1) (wA M aSteps k.toNat (f1 m k)) (by omega) (by omega) (hG.w _ (by unfold f1; split <;> decide)) (fun b x y => by
      by_cases z : b = k
      · rw [z, wA_e]
      · rw [wA_o _ _ (fun q => by have := q.2; omega)]
        exact hF b x (by omega))
    rw [HX3_shortestLoop_46]
    unfold f1 at g
    by_cases e : k = m
    · rw [if_pos e, e] at g
      simp (disch := first | omega | (simp only [DT, DS, ne_eq, Nat.reduceEqDiff, not_false_eq_true]; done)) only [RX3_shortestLoop, eN.1, hu.1.2.2.2, e, BW, wr_id, OM, OE, PL, ↓reduceIte, TGs, bi_T, bi_F, bi_ff, Nat.reduceLeDiff, Nat.reduceLT, Nat.reduceAdd]
      exact g
    · rw [if_neg e] at g
      simp (disch := first | omega | (simp only [DT, DS, ne_eq, Nat.reduceEqDiff, not_false_eq_true]; done)) only [RX3_shortestLoop, eN.1, hu.1.2.2.2, e, BW, wr_id, OM, OE, PL, ↓reduceIte, TGs, bi_T, bi_F, bi_ff, Nat.reduceLeDiff, Nat.reduceLT, Nat.reduceAdd]
      exact g
def shF (C : Nat → Nat → Int) (N o m : Int) : Int := if 0 ≤ o ∧ ¬ C amKd m.toNat = 6 ∧ ¬ C amKd o.toNat = 6 then wyF C N o 24 1 (f1 m) o else 0
theorem d_at (h : uC M C N) (m : Int) (hm : -2147483648 ≤ m ∧ m ≤ 2147483647) (Q : Option xv → xm → Prop) : Wp qX3_at 0 [vR aRack, vI m] [] M Q ↔ Q (some (vR (uR N m))) M := by
  have e := h.2.1
  have hR' : ∀ L k, wr (mA M L k) = mA M L k := h.2.2.1
  unfold uR
  by_cases c1 : m < 0
  · rw [if_neg (by omega)]
    simp (disch := first | omega | (simp only [DT, DS, ne_eq, Nat.reduceEqDiff, not_false_eq_true]; done)) only [RX3_at, BW, wr_id, OM, OE, PL, ↓reduceIte, TGs, bi_T, bi_F, bi_ff, Nat.reduceLeDiff, Nat.reduceLT, Nat.reduceAdd]
  · by_cases c2 : m < N
    · rw [if_pos (by omega)]
      have hu := (h.2.2.2.1 m (by omega) c2).1.1
      simp (disch := first | omega | (simp only [DT, DS, ne_eq, Nat.reduceEqDiff, not_false_eq_true]; done)) only [RX3_at, e.1, h.1.1, hu, BW, wr_id, OM, OE, PL, ↓reduceIte, TGs, bi_T, bi_F, bi_ff, Nat.reduceLeDiff, Nat.reduceLT, Nat.reduceAdd]
    · rw [if_neg (by omega)]
      simp (disch := first | omega | (simp only [DT, DS, ne_eq, Nat.reduceEqDiff, not_false_eq_true]; done)) only [RX3_at, e.1, BW, wr_id, OM, OE, PL, ↓reduceIte, TGs, bi_T, bi_F, bi_ff, Nat.reduceLeDiff, Nat.reduceLT, Nat.reduceAdd]
theorem c_short (hu : uC M C N) (hI : uI M N) {o : Int} (hm : 0 ≤ m ∧ m < N) (ho : o = -1 ∨ (0 ≤ o ∧ o < N)) (Q : Option xv → xm → Prop) (hg : ∀ M', aG aSteps M M' → Q (some (vI (shF C N o m))) M') : Wp qX3_shortestLoop 0 [vR aRack, vI o, vI m, vX, vX, vX] [] M Q := by
  have eN := hu.2.1
  have hR' : ∀ L k, wr (mA M L k) = mA M L k := hu.2.2.1
  have q1 := d_at hu m (by omega)
  have q2 := d_at hu o (by omega)
  have z1 := tg_ne (TGf.1 m.toNat) (by decide)
  have hk := hu.2.2.2.1 m hm.1 hm.2
  have kb := hu.2.2.2.2.2.2 m.toNat
  have g0 := hg M (aG.refl hu.2.2.1)
  unfold shF at hg g0
  simp only [uR, if_pos hm] at q1
  by_cases c1 : 0 ≤ o ∧ o < N
  · have z2 := tg_ne (TGf.1 o.toNat) (by decide)
    have ho' := hu.2.2.2.1 o c1.1 c1.2
    have kb2 := hu.2.2.2.2.2.2 o.toNat
    simp only [uR, if_pos c1] at q2
    by_cases c2 : C amKd m.toNat = 6
    · rw [if_neg (fun q => q.2.1 c2)] at g0
      simp (disch := first | omega | (simp only [DT, DS, ne_eq, Nat.reduceEqDiff, not_false_eq_true]; done)) only [RX3_shortestLoop, q1, q2, z1, z2, TGf, hk.2.1, c2, BW, wr_id, OM, OE, PL, ↓reduceIte, TGs, bi_T, bi_F, bi_ff, Nat.reduceLeDiff, Nat.reduceLT, Nat.reduceAdd]
      exact g0
    · by_cases c3 : C amKd o.toNat = 6
      · rw [if_neg (fun q => q.2.2 c3)] at g0
        simp (disch := first | omega | (simp only [DT, DS, ne_eq, Nat.reduceEqDiff, not_false_eq_true]; done)) only [RX3_shortestLoop, q1, q2, z1, z2, TGf, hk.2.1, c2, ho'.2.1, c3, BW, wr_id, OM, OE, PL, ↓reduceIte, TGs, bi_T, bi_F, bi_ff, Nat.reduceLeDiff, Nat.reduceLT, Nat.reduceAdd]
        exact g0
      · simp only [if_pos (show 0 ≤ o ∧ ¬ C amKd m.toNat = 6 ∧ ¬ C amKd o.toNat = 6 from ⟨c1.1, c2, c3⟩)] at hg
        have we := wy_eq (C := C) (o := o) (N := N) eN.2.1 c1 (25 - N.toNat) (N.toNat - 1) 1 (f1 m) (lvI_1 hm) (by omega)
        rw [show N.toNat - 1 + (25 - N.toNat) = 24 by omega] at we
        have g := l_short0 hu hI hm (vI o) (uA m.toNat) (uA o.toNat) Q (fun M1 g1 g2 => l_short hu hI c1 (vI m) (uA m.toNat) (uA o.toNat) Q (N.toNat - 1) 1 (f1 m) M1 (by omega) (by omega) g1 g2 (fun M2 g3 => by rw [← we]; exact hg M2 g3)) N.toNat 0 M (by omega) (by omega) (aG.refl hu.2.2.1) (fun b x y => by omega)
        simp (disch := first | omega | (simp only [DT, DS, ne_eq, Nat.reduceEqDiff, not_false_eq_true]; done)) only [RX3_shortestLoop, q1, q2, z1, z2, TGf, hk.2.1, c2, ho'.2.1, c3, BW, wr_id, OM, OE, PL, ↓reduceIte, TGs, bi_T, bi_F, bi_ff, Nat.reduceLeDiff, Nat.reduceLT, Nat.reduceAdd]
        exact g
  · simp only [uR, if_neg c1] at q2
    rw [if_neg (fun q => by omega)] at g0
    simp (disch := first | omega | (simp only [DT, DS, ne_eq, Nat.reduceEqDiff, not_false_eq_true]; done)) only [RX3_shortestLoop, q1, q2, z1, BW, wr_id, OM, OE, PL, ↓reduceIte, TGs, bi_T, bi_F, bi_ff, Nat.reduceLeDiff, Nat.reduceLT, Nat.reduceAdd]
    exact g0
end UW
