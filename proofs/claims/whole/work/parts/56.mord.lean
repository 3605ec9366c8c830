/-! 56.mord: the reference's order: who has acted -/
def hAF (ord : Nat → Int) (m : Int) : Nat → Bool
  | 0 => decide (m < 0)
  | k + 1 => hAF ord m k || decide (ord k = m)
theorem l_hasActed {M : xm} (hs : mSt M) (hR : inR M) (m n : Int) (hm : -1 ≤ m ∧ m ≤ 23) (hn : 0 ≤ n ∧ n ≤ 24) (Q : Option xv → xm → Prop) : ∀ (d : Nat) (k : Int), k + d = n → 0 ≤ k → (Wp qX10_hasActed 13 [vR aM, vI m, vI n, vI (bi (hAF (mA M amOr) m k.toNat = true)), vI k] [] M Q ↔ Q (some (vI (bi (hAF (mA M amOr) m n.toNat = true)))) M)
  | 0, k, hd, h0 => by
    have hR' : ∀ L k, wr (mA M L k) = mA M L k := hR
    obtain rfl : k = n := by omega
    rw [HX10_hasActed_13]
    simp (disch := first | omega | (simp only [DT, DS, ne_eq, Nat.reduceEqDiff, not_false_eq_true]; done)) only [RX10_hasActed, BW, wr_id, OM, OE, PL, ↓reduceIte, mSt.e hs, hR', TGs, bi_01, Nat.reduceLeDiff, Nat.reduceAdd]
  | d + 1, k, hd, h0 => by
    have hR' : ∀ L k, wr (mA M L k) = mA M L k := hR
    have ih := l_hasActed hs hR m n hm hn Q d (k + 1) (by omega) (by omega)
    have e : hAF (mA M amOr) m (k + 1).toNat = (hAF (mA M amOr) m k.toNat || decide (mA M amOr k.toNat = m)) := by rw [show (k + 1).toNat = k.toNat + 1 by omega]; rfl
    rw [HX10_hasActed_13]
    by_cases c1 : hAF (mA M amOr) m k.toNat = true
    · rw [e, c1, Bool.true_or, bi_t rfl] at ih
      rw [bi_t c1]
      simp (disch := first | omega | (simp only [DT, DS, ne_eq, Nat.reduceEqDiff, not_false_eq_true]; done)) only [RX10_hasActed, BW, wr_id, OM, OE, PL, ↓reduceIte, mSt.e hs, hR', TGs, Nat.reduceLeDiff, Nat.reduceAdd]
      exact ih
    · rw [e, Bool.eq_false_iff.mpr c1, Bool.false_or] at ih
      rw [bi_f c1]
      by_cases c2 : mA M amOr k.toNat = m
      · rw [decide_eq_true c2, bi_t rfl] at ih
        simp (disch := first | omega | (simp only [DT, DS, ne_eq, Nat.reduceEqDiff, not_false_eq_true]; done)) only [RX10_hasActed, BW, wr_id, OM, OE, PL, ↓reduceIte, mSt.e hs, hR', TGs, c2, Nat.reduceLeDiff, Nat.reduceAdd]
        exact ih
      · rw [decide_eq_false c2, bi_f (by decide)] at ih
        simp (disch := first | omega | (simp only [DT, DS, ne_eq, Nat.reduceEqDiff, not_false_eq_true]; done)) only [RX10_hasActed, BW, wr_id, OM, OE, PL, ↓reduceIte, mSt.e hs, hR', TGs, c2, Nat.reduceLeDiff, Nat.reduceAdd]
        exact ih
theorem s_hasActed {M : xm} (hs : mSt M) (hR : inR M) (m n : Int) (hm : -1 ≤ m ∧ m ≤ 23) (hn : 0 ≤ n ∧ n ≤ 24) (Q : Option xv → xm → Prop) : Wp qX10_hasActed 0 [vR aM, vI m, vI n, vX, vX] [] M Q ↔ Q (some (vI (bi (hAF (mA M amOr) m n.toNat = true)))) M := by
  have g := l_hasActed hs hR m n hm hn Q n.toNat 0 (by omega) (by omega)
  by_cases c : m < 0
  · rw [bi_t (show hAF (mA M amOr) m (0 : Int).toNat = true from decide_eq_true c)] at g
    simp (disch := first | omega | (simp only [DT, DS, ne_eq, Nat.reduceEqDiff, not_false_eq_true]; done)) only [RX10_hasActed, BW, wr_id, OM, OE, PL, ↓reduceIte, mSt.e hs, TGs, Nat.reduceLeDiff, Nat.reduceAdd]
    exact g
  · rw [bi_f (show ¬ hAF (mA M amOr) m (0 : Int).toNat = true from fun q => c (of_decide_eq_true q))] at g
    simp (disch := first | omega | (simp only [DT, DS, ne_eq, Nat.reduceEqDiff, not_false_eq_true]; done)) only [RX10_hasActed, BW, wr_id, OM, OE, PL, ↓reduceIte, mSt.e hs, TGs, Nat.reduceLeDiff, Nat.reduceAdd]
    exact g
