/-! 52.mbef: the reference's block: the knobs before -/
def fG (M0 : xm) (k : Int) (M : xm) : Prop := (∀ l j, ¬ l = amIn → mA M l j = mA M0 l j) ∧ (∀ j : Nat, (∀ m : Int, 0 ≤ m → m < k → ¬ j = (20 * m + 18).toNat) → mA M amIn j = mA M0 amIn j) ∧ (∀ m : Int, 0 ≤ m → m < k → mA M amIn (20 * m + 18).toNat = mA M0 amKn (3 * m).toNat) ∧ mB M = mB M0 ∧ mR M = mR M0 ∧ mC M = mC M0 ∧ (mK M = mK M0 ∧ mS M = mS M0) ∧ inR M
theorem l_block3 {M0 : xm} {N : Int} {x1 : xv} {x2 : Int} (hs : mSt M0) (eN : mA M0 aM 3 = N) (hN : 0 ≤ N ∧ N ≤ 24) (Q : Option xv → xm → Prop)
    (hg : ∀ M, fG M0 N M → Wp qX10_block 197 [vR aM, x1, vI x2, vI N] [] M Q) :
    ∀ (d : Nat) (k : Int) (M : xm), k + d = N → 0 ≤ k → fG M0 k M → Wp qX10_block 163 [vR aM, x1, vI x2, vI k] [] M Q
  | 0, k, M, hd, h0, hF => by
    have hR' : ∀ L k, wr (mA M L k) = mA M L k := hF.2.2.2.2.2.2.2
    have hsM : mSt M := by
      unfold mSt at hs ⊢
      rw [hF.2.2.2.2.1]
      exact hs
    have e3 : mA M aM 3 = N := by rw [hF.1 _ _ (by decide)]; exact eN
    obtain rfl : k = N := by omega
    have h := hg M hF
    rw [HX10_block_163]
    simp (disch := omega) only [RX10_block, BW, wr_id, OM, OE, PL, ↓reduceIte, mSt.e hsM, hR', TGs, e3, Nat.reduceLeDiff, Nat.reduceAdd] at h ⊢
    exact h
  | d + 1, k, M, hd, h0, hF => by
    obtain ⟨f1, f2, f3, f4, f5, f6, f7, f8⟩ := id hF
    have hR' : ∀ L k, wr (mA M L k) = mA M L k := f8
    have hsM : mSt M := by
      unfold mSt at hs ⊢
      rw [f5]
      exact hs
    have e3 : mA M aM 3 = N := by rw [f1 _ _ (by decide)]; exact eN
    have ek : mA M amKn (3 * k).toNat = mA M0 amKn (3 * k).toNat := f1 _ _ (by decide)
    have hw : wr (mA M0 amKn (3 * k).toNat) = mA M0 amKn (3 * k).toNat := by rw [← ek]; exact f8 _ _
    have ih := l_block3 hs eN hN Q hg d (k + 1) (wA M amIn (20 * k + 18).toNat (mA M0 amKn (3 * k).toNat)) (by omega) (by omega) ⟨fun l j a => by rw [wA_o _ _ (fun q => a q.1)]; exact f1 l j a, fun j a => by
      rw [wA_o _ _ (fun q => a k h0 (by omega) q.2)]
      exact f2 j (fun m b c => a m b (by omega)), fun m a b => by
      by_cases e : m = k
      · rw [e, wA_e]
      · rw [wA_o _ _ (fun q => by have := q.2; omega)]
        exact f3 m a (by omega), f4, f5, f6, f7, f8.wA _ _ hw⟩
    rw [HX10_block_163]
    simp (disch := first | omega | (simp only [DT, DS, ne_eq, Nat.reduceEqDiff, not_false_eq_true]; done)) only [RX10_block, BW, wr_id, OM, OE, PL, ↓reduceIte, mSt.e hsM, hR', TGs, e3, ek, hw, Nat.reduceLeDiff, Nat.reduceAdd]
    exact ih
