/-! 59.mor4: the reference's order: the least that is ready, again and again -/
theorem bi_tt : bi (true = true) = 1 := bi_t rfl
theorem bi_ff : bi (false = true) = 0 := bi_f (by decide)
theorem lrF_b (C : Nat → Nat → Int) (L : List Int) : ∀ (d : Nat) (k : Int), 0 ≤ k → -1 ≤ lrF C L d k ∧ lrF C L d k ≤ k + d - 1
  | 0, k, h => by unfold lrF; omega
  | d + 1, k, h => by
    have ih := lrF_b C L d (k + 1) (by omega)
    unfold lrF
    split <;> omega
theorem rdB_c {C C' : Nat → Nat → Int} (h : ∀ j, C' amCo j = C amCo j) (L : List Int) (m : Int) : rdB C' L m = rdB C L m := by
  unfold rdB
  rw [h, h, h]
theorem lrF_c {C C' : Nat → Nat → Int} (h : ∀ j, C' amCo j = C amCo j) (L : List Int) : ∀ (d : Nat) (k : Int), lrF C' L d k = lrF C L d k
  | 0, _ => rfl
  | d + 1, k => by
    unfold lrF
    rw [rdB_c h, lrF_c h L d (k + 1)]
theorem l_ord2 {M : xm} {N : Int} {L : List Int} (hs : mSt M) (hR : inR M) (hN : 0 ≤ N ∧ N ≤ 24) (hco : ∀ j, 0 ≤ mA M amCo j ∧ mA M amCo j ≤ 24) (hL : orM M L) (hl : (L.length : Int) < N) (Q : Option xv → xm → Prop) (hg : ∀ x2 x3 x4, Wp qX10_setOrder 39 [vR aM, vI ((L.length : Int) + 1), x2, x3, x4] [] (wA M amOr L.length (lrF (mA M) L N.toNat 0)) Q) : ∀ (d : Nat) (m : Int) (x4 : xv), m + 1 = d → m < N → Wp qX10_setOrder 56 [vR aM, vI (L.length : Int), vI (lrF (mA M) L (N - 1 - m).toNat (m + 1)), vI m, x4] [] M Q
  | 0, m, x4, hd, hm => by
    have hR' : ∀ L k, wr (mA M L k) = mA M L k := hR
    obtain rfl : m = -1 := by omega
    have hb := lrF_b (mA M) L N.toNat 0 (by omega)
    rw [show (N - 1 - -1).toNat = N.toNat by omega, show (-1 : Int) + 1 = 0 from rfl, HX10_setOrder_56]
    simp (disch := first | omega | (simp only [DT, DS, ne_eq, Nat.reduceEqDiff, not_false_eq_true]; done)) only [RX10_setOrder, BW, wr_id, OM, OE, PL, ↓reduceIte, mSt.e hs, hR', TGs, Int.toNat_natCast, Nat.reduceLeDiff, Nat.reduceAdd]
    exact hg _ _ _
  | d + 1, m, x4, hd, hm => by
    have hR' : ∀ L k, wr (mA M L k) = mA M L k := hR
    have c0 := hco (3 * m).toNat
    have c1 := hco (3 * m + 1).toNat
    have c2 := hco (3 * m + 2).toNat
    have hb := lrF_b (mA M) L (N - 1 - m).toNat (m + 1) (by omega)
    have q0 := s_hasActed hs hR (mA M amCo (3 * m).toNat - 1) (L.length : Int) (by omega) (by omega)
    have q1 := s_hasActed hs hR (mA M amCo (3 * m + 1).toNat - 1) (L.length : Int) (by omega) (by omega)
    have q2 := s_hasActed hs hR (mA M amCo (3 * m + 2).toNat - 1) (L.length : Int) (by omega) (by omega)
    have q3 := s_hasActed hs hR m (L.length : Int) (by omega) (by omega)
    simp only [Int.toNat_natCast, hAF_o hL] at q0 q1 q2 q3
    have ih := l_ord2 hs hR hN hco hL hl Q hg d (m + -1)
    have e : lrF (mA M) L (N - 1 - (m + -1)).toNat (m + -1 + 1) = if ((decide (mA M amCo (3 * m).toNat - 1 < 0) || L.contains (mA M amCo (3 * m).toNat - 1)) && (decide (mA M amCo (3 * m + 1).toNat - 1 < 0) || L.contains (mA M amCo (3 * m + 1).toNat - 1)) && (decide (mA M amCo (3 * m + 2).toNat - 1 < 0) || L.contains (mA M amCo (3 * m + 2).toNat - 1)) && !(decide (m < 0) || L.contains m)) = true then m else lrF (mA M) L (N - 1 - m).toNat (m + 1) := by
      rw [show (N - 1 - (m + -1)).toNat = (N - 1 - m).toNat + 1 by omega, show m + -1 + 1 = m by omega]
      rfl
    rw [e] at ih
    generalize (decide (mA M amCo (3 * m).toNat - 1 < 0) || L.contains (mA M amCo (3 * m).toNat - 1)) = b0 at q0 ih
    generalize (decide (mA M amCo (3 * m + 1).toNat - 1 < 0) || L.contains (mA M amCo (3 * m + 1).toNat - 1)) = b1 at q1 ih
    generalize (decide (mA M amCo (3 * m + 2).toNat - 1 < 0) || L.contains (mA M amCo (3 * m + 2).toNat - 1)) = b2 at q2 ih
    generalize (decide (m < 0) || L.contains m) = b3 at q3 ih
    generalize lrF (mA M) L (N - 1 - m).toNat (m + 1) = X at ih hb ⊢
    rw [HX10_setOrder_56]
    cases b0
    · simp only [Bool.false_and, Bool.false_eq_true, if_false] at ih
      simp only [bi_ff] at q0
      simp (disch := first | omega | (simp only [DT, DS, ne_eq, Nat.reduceEqDiff, not_false_eq_true]; done)) only [RX10_setOrder, BW, wr_id, OM, OE, PL, ↓reduceIte, mSt.e hs, hR', TGs, q0, Nat.reduceLeDiff, Nat.reduceAdd]
      exact ih _ (by omega) (by omega)
    · simp only [bi_T] at q0
      cases b1
      · simp only [Bool.false_and, Bool.and_false, Bool.false_eq_true, if_false] at ih
        simp only [bi_ff] at q1
        simp (disch := first | omega | (simp only [DT, DS, ne_eq, Nat.reduceEqDiff, not_false_eq_true]; done)) only [RX10_setOrder, BW, wr_id, OM, OE, PL, ↓reduceIte, mSt.e hs, hR', TGs, q0, q1, Nat.reduceLeDiff, Nat.reduceAdd]
        exact ih _ (by omega) (by omega)
      · simp only [bi_T] at q1
        cases b2
        · simp only [Bool.false_and, Bool.and_false, Bool.false_eq_true, if_false] at ih
          simp only [bi_ff] at q2
          simp (disch := first | omega | (simp only [DT, DS, ne_eq, Nat.reduceEqDiff, not_false_eq_true]; done)) only [RX10_setOrder, BW, wr_id, OM, OE, PL, ↓reduceIte, mSt.e hs, hR', TGs, q0, q1, q2, Nat.reduceLeDiff, Nat.reduceAdd]
          exact ih _ (by omega) (by omega)
        · simp only [bi_T] at q2
          cases b3
          · simp only [Bool.true_and, Bool.and_true, Bool.not_false, if_true] at ih
            simp only [bi_ff] at q3
            simp (disch := first | omega | (simp only [DT, DS, ne_eq, Nat.reduceEqDiff, not_false_eq_true]; done)) only [RX10_setOrder, BW, wr_id, OM, OE, PL, ↓reduceIte, mSt.e hs, hR', TGs, q0, q1, q2, q3, Nat.reduceLeDiff, Nat.reduceAdd]
            exact ih _ (by omega) (by omega)
          · simp only [Bool.and_false, Bool.not_true, Bool.false_eq_true, if_false] at ih
            simp only [bi_T] at q3
            simp (disch := first | omega | (simp only [DT, DS, ne_eq, Nat.reduceEqDiff, not_false_eq_true]; done)) only [RX10_setOrder, BW, wr_id, OM, OE, PL, ↓reduceIte, mSt.e hs, hR', TGs, q0, q1, q2, q3, Nat.reduceLeDiff, Nat.reduceAdd]
            exact ih _ (by omega) (by omega)
/-- the order from L on, d more -/
def orF (C : Nat → Nat → Int) (N : Int) : Nat → List Int → List Int
  | 0, L => L
  | d + 1, L => orF C N d (L ++ [lrF C L N.toNat 0])
def ordL (C : Nat → Nat → Int) (N : Int) : List Int := orF C N (N.toNat - (dlL (C amKd) N.toNat).length) (dlL (C amKd) N.toNat)
theorem l_ord3 {M0 : xm} {N : Int} (hs : mSt M0) (eN : mA M0 aM 3 = N) (hN : 0 ≤ N ∧ N ≤ 24) (hco : ∀ j, 0 ≤ mA M0 amCo j ∧ mA M0 amCo j ≤ 24) (Q : Option xv → xm → Prop) : ∀ (d : Nat) (L : List Int) (M : xm) (x2 x3 x4 : xv), (L.length : Int) + d = N → oG M0 M → orM M L → (∀ M, oG M0 M → orM M (orF (mA M0) N d L) → Q none M) → Wp qX10_setOrder 39 [vR aM, vI (L.length : Int), x2, x3, x4] [] M Q
  | 0, L, M, x2, x3, x4, hd, hG, hL, hg => by
    have hR' : ∀ L k, wr (mA M L k) = mA M L k := hG.2.2.2.2.2
    have hsM : mSt M := by
      unfold mSt at hs ⊢
      rw [hG.2.2.1]
      exact hs
    have e3 : mA M aM 3 = N := by rw [hG.1 _ _ (by decide)]; exact eN
    rw [HX10_setOrder_39]
    simp (disch := first | omega | (simp only [DT, DS, ne_eq, Nat.reduceEqDiff, not_false_eq_true]; done)) only [RX10_setOrder, BW, wr_id, OM, OE, PL, ↓reduceIte, mSt.e hsM, hR', TGs, e3, Nat.reduceLeDiff, Nat.reduceAdd]
    exact hg M hG hL
  | d + 1, L, M, x2, x3, x4, hd, hG, hL, hg => by
    have hR' : ∀ L k, wr (mA M L k) = mA M L k := hG.2.2.2.2.2
    have hsM : mSt M := by
      unfold mSt at hs ⊢
      rw [hG.2.2.1]
      exact hs
    have e3 : mA M aM 3 = N := by rw [hG.1 _ _ (by decide)]; exact eN
    have eco : ∀ j, mA M amCo j = mA M0 amCo j := fun j => hG.1 _ _ (by decide)
    have hb := lrF_b (mA M0) L N.toNat 0 (by omega)
    have key := l_ord2 (N := N) (L := L) hsM hG.2.2.2.2.2 hN (fun j => by rw [eco]; exact hco j) hL (by omega) Q (fun y2 y3 y4 => by
      rw [lrF_c eco]
      have e : (L.length : Int) + 1 = ((L ++ [lrF (mA M0) L N.toNat 0]).length : Int) := by rw [List.length_append]; rfl
      rw [e]
      exact l_ord3 hs eN hN hco Q d _ _ y2 y3 y4 (by rw [← e]; omega) (hG.w _ (wr_id (by omega) (by omega))) (orM_a hL _) hg) N.toNat (N - 1)
    rw [show (N - 1 - (N - 1)).toNat = 0 by omega] at key
    have k2 := key x4 (by omega) (by omega)
    rw [HX10_setOrder_39]
    simp (disch := first | omega | (simp only [DT, DS, ne_eq, Nat.reduceEqDiff, not_false_eq_true]; done)) only [RX10_setOrder, BW, wr_id, OM, OE, PL, ↓reduceIte, mSt.e hsM, hR', TGs, e3, Nat.reduceLeDiff, Nat.reduceAdd]
    exact k2
theorem s_setOrder {M : xm} {N : Int} (hs : mSt M) (hR : inR M) (eN : mA M aM 3 = N) (hN : 0 ≤ N ∧ N ≤ 24) (hco : ∀ j, 0 ≤ mA M amCo j ∧ mA M amCo j ≤ 24) (Q : Option xv → xm → Prop) (hg : ∀ M', oG M M' → orM M' (ordL (mA M) N) → Q none M') : Wp qX10_setOrder 0 [vR aM, vX, vX, vX, vX] [] M Q := by
  have hl := dlL_le (mA M amKd) N.toNat
  simp (disch := omega) only [RX10_setOrder, BW, wr_id]
  exact l_ord1 hs eN hN Q (fun M' x2 hG hL => l_ord3 hs eN hN hco Q (N.toNat - (dlL (mA M amKd) N.toNat).length) _ M' x2 vX vX (by omega) hG hL hg) N.toNat 0 M (by omega) (by omega) (oG.refl hR) (fun i hi => absurd hi (Nat.not_lt_zero i))
