/-! 36.mgiv: the reference's give -/
def gvF (M : xm) (m n : Int) (j : Nat) : UInt64 := if (j : Int) - 82 * m < n then mB M amFr (j - (82 * m).toNat) else 0
theorem l_give (M0 : xm) (hs : mSt M0) (hR : inR M0) (m n x3 : Int) (x2 : xv) (hm : 0 ≤ m ∧ m ≤ 23) (en : mA M0 aM 19 = n) (hn : 1 ≤ n ∧ n ≤ 16) (Q : Option xv → xm → Prop) : ∀ (d : Nat) (k : Int) (M : xm), k + d = 16 → 0 ≤ k → M = wG M0 amDb (82 * m).toNat (82 * m + k).toNat (gvF M0 m n) → (Wp qX10_give 43 [vR aM, vI m, x2, vI x3, vI k] [] M Q ↔ Q none (wG M0 amDb (82 * m).toNat (82 * m + 16).toNat (gvF M0 m n)))
  | 0, k, M, hk, h0, hM => by
    have hs' : mSt M := by rw [hM]; exact hs
    have hR0 : inR M := by rw [hM]; exact hR
    have hR' : ∀ L k, wr (mA M L k) = mA M L k := hR0
    obtain rfl : k = 16 := by omega
    rw [HX10_give_43]
    simp (disch := first | omega | (simp only [DT, DS, ne_eq, Nat.reduceEqDiff, not_false_eq_true]; done)) only [RX10_give, BW, wr_id, wr_wr, OM, OE, PL, ↓reduceIte, mSt.e hs', hR', TGs, Nat.reduceLeDiff, Nat.reduceAdd]
    rw [hM]
  | d + 1, k, M, hk, h0, hM => by
    have hs' : mSt M := by rw [hM]; exact hs
    have hR0 : inR M := by rw [hM]; exact hR
    have hR' : ∀ L k, wr (mA M L k) = mA M L k := hR0
    have e19 : mA M aM 19 = n := by rw [hM]; exact en
    rw [HX10_give_43]
    by_cases c : k < n
    · simp (disch := first | omega | (simp only [DT, DS, ne_eq, Nat.reduceEqDiff, not_false_eq_true]; done)) only [RX10_give, BW, wr_id, wr_wr, OM, OE, PL, ↓reduceIte, mSt.e hs', hR', TGs, e19, Nat.reduceLeDiff, Nat.reduceAdd]
      refine l_give M0 hs hR m n x3 x2 hm en hn Q d (k + 1) _ (by omega) (by omega) ?_
      have e : mB M amFr k.toNat = gvF M0 m n (82 * m + k).toNat := by
        unfold gvF
        rw [if_pos (by omega), show (82 * m + k).toNat - (82 * m).toNat = k.toNat by omega, hM, MF.2.2.2.2.1, if_neg (fun q => absurd q.1 (by decide))]
      rw [e, hM, wG_e (by omega), show (82 * m + k).toNat + 1 = (82 * m + (k + 1)).toNat by omega]
    · simp (disch := first | omega | (simp only [DT, DS, ne_eq, Nat.reduceEqDiff, not_false_eq_true]; done)) only [RX10_give, BW, wr_id, wr_wr, OM, OE, PL, ↓reduceIte, mSt.e hs', hR', TGs, e19, Nat.reduceLeDiff, Nat.reduceAdd]
      refine l_give M0 hs hR m n x3 x2 hm en hn Q d (k + 1) _ (by omega) (by omega) ?_
      have e : FP.dconst0 = gvF M0 m n (82 * m + k).toNat := by
        unfold gvF
        rw [if_neg (by omega)]
        rfl
      rw [e, hM, wG_e (by omega), show (82 * m + k).toNat + 1 = (82 * m + (k + 1)).toNat by omega]
def gvM (M : xm) (m kd n : Int) : xm := wG (wA (wA (wA M amIn (20 * m).toNat (kd + 1)) amIn (20 * m + 1).toNat n) amIn (20 * m + 2).toNat (mA M aM 28)) amDb (82 * m).toNat (82 * m + 16).toNat (gvF M m n)
theorem s_give (m kd n : Int) (M : xm) (hs : mSt M) (hR : inR M) (hm : 0 ≤ m ∧ m ≤ 23) (hk : 0 ≤ kd ∧ kd ≤ 4) (en : mA M aM 19 = n) (hn : 1 ≤ n ∧ n ≤ 16) (Q : Option xv → xm → Prop) : Wp qX10_give 0 [vR aM, vI m, vI kd, vX, vX] [] M Q ↔ Q none (gvM M m kd n) := by
  have hR' : ∀ L k, wr (mA M L k) = mA M L k := hR
  simp (disch := first | omega | (simp only [DT, DS, ne_eq, Nat.reduceEqDiff, not_false_eq_true]; done)) only [RX10_give, BW, wr_id, wr_wr, OM, OE, PL, ↓reduceIte, mSt.e hs, hR', TGs, s_rowAt m 0 M hs hR, Int.mul_zero, Int.add_zero, MM, DT, en, Nat.reduceLeDiff, Nat.reduceAdd]
  have hR2 : inR (wA (wA (wA M amIn (20 * m).toNat (kd + 1)) amIn (20 * m + 1).toNat n) amIn (20 * m + 2).toNat (mA M aM 28)) := ((hR.wA _ _ (wr_id (by omega) (by omega))).wA _ _ (wr_id (by omega) (by omega))).wA _ _ (hR' _ _)
  have e19 : mA (wA (wA (wA M amIn (20 * m).toNat (kd + 1)) amIn (20 * m + 1).toNat n) amIn (20 * m + 2).toNat (mA M aM 28)) aM 19 = n := by
    rw [wA_o _ _ (fun q => absurd q.1 (by decide)), wA_o _ _ (fun q => absurd q.1 (by decide)), wA_o _ _ (fun q => absurd q.1 (by decide))]
    exact en
  rw [l_give _ (show mSt (wA (wA (wA M amIn (20 * m).toNat (kd + 1)) amIn (20 * m + 1).toNat n) amIn (20 * m + 2).toNat (mA M aM 28)) from hs) hR2 m n _ _ hm e19 hn Q 16 0 _ (by omega) (by omega) (by rw [show (82 * m + 0).toNat = (82 * m).toNat by omega, wG_0])]
  rfl
