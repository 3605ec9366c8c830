/-! 34.mmen: the reference's MEAN -/
def menS (k0 len : Int) (vs : Int → UInt64) (k : Int) (z : ZT) : Int ⊕ ZT :=
  if len ≤ k then .inl 3
  else if k + k0 = 0 then .inl 5
  else .inr (zP z, zK z, zO z, zU z, zN z + si 2147483647 ((zS z + (FP.d2l (vs k)).toInt).tdiv (k + k0)), zM z, upV (zV z) k.toNat (FP.i2d (Int32.ofInt (cz 2147483647 ((zS z + (FP.d2l (vs k)).toInt).tdiv (k + k0))))), zS z + (FP.d2l (vs k)).toInt)
theorem menS_r {k0 len k : Int} {vs : Int → UInt64} {z : ZT} (h1 : ¬ len ≤ k) (h2 : ¬ k + k0 = 0) : menS k0 len vs k z = .inr (zP z, zK z, zO z, zU z, zN z + si 2147483647 ((zS z + (FP.d2l (vs k)).toInt).tdiv (k + k0)), zM z, upV (zV z) k.toNat (FP.i2d (Int32.ofInt (cz 2147483647 ((zS z + (FP.d2l (vs k)).toInt).tdiv (k + k0))))), zS z + (FP.d2l (vs k)).toInt) := by
  unfold menS
  rw [if_neg h1, if_neg h2]
theorem si_b (h v : Int) : 0 ≤ si h v ∧ si h v ≤ 1 := by
  unfold si
  split <;> omega
theorem tdiv_b {a b H : Int} (h1 : -H ≤ a) (h2 : a ≤ H) (hH : 0 ≤ H) : -H ≤ a.tdiv b ∧ a.tdiv b ≤ H := by
  have h := Int.natAbs_tdiv_le_natAbs a b
  omega
theorem mV_s {M : xm} {m : Int} {z : ZT} {k : Int} (h : mV M m z k) (s : Int) : mV M m (zP z, zK z, zO z, zU z, zN z, zM z, zV z, s) k := h
theorem l_mean {M0 : xm} (hs : mSt M0) (m n o k0 : Int) (hm : 0 ≤ m ∧ m ≤ 23) (hn : 1 ≤ n ∧ n ≤ 16) (en : mA M0 aM 19 = n) (hco : ∀ j, 0 ≤ mA M0 amCo j ∧ mA M0 amCo j ≤ 24) (ho : 0 ≤ o ∧ o ≤ 23) (eo : mA M0 amCo (3 * m).toNat = o + 1) (hk0 : -1000 ≤ k0 ∧ k0 ≤ 1000) (ek0 : mA M0 amKn (3 * m).toNat = k0) (hvw : ∀ k, 0 ≤ k → k ≤ 15 → -2147483648 ≤ (FP.d2l (rV M0 o k)).toInt ∧ (FP.d2l (rV M0 o k)).toInt ≤ 2147483647) (Q : Option xv → xm → Prop) :
    ∀ (d : Nat) (k : Int) (z : ZT) (M : xm) (x5 x6 : xv), k + d = n → 0 ≤ k → mF M0 m M → mV M m z k → (0 ≤ zN z ∧ zN z ≤ 1000000 + k) → (-2147483648 * k ≤ zS z ∧ zS z ≤ 2147483648 * k) → mPost M0 m n Q (lpF (menS k0 (rL M0 o) (rV M0 o)) d k z) → Wp qX10_mean 17 [vR aM, vI m, vJ (zS z), vX, vI k, x5, x6] [] M Q
  | 0, k, z, M, x5, x6, hd, h0, hF, hV, hsa, hsu, hP => by
    have hsM := hF.st hs
    have hR' : ∀ L k, wr (mA M L k) = mA M L k := hF.2.2.2.2.2
    have e19 : mA M aM 19 = n := by rw [mF_m hF (by decide)]; exact en
    rw [HX10_mean_17]
    simp (disch := omega) only [RX10_mean, BW, wr_id, OM, PL, ↓reduceIte, mSt.e hsM, hR', TGs, e19]
    obtain rfl : k = n := by omega
    exact hP M hF hV
  | d + 1, k, z, M, x5, x6, hd, h0, hF, hV, hsa, hsu, hP => by
    have hsM := hF.st hs
    have hR := hF.2.2.2.2.2
    have hR' : ∀ L k, wr (mA M L k) = mA M L k := hR
    have e19 : mA M aM 19 = n := by rw [mF_m hF (by decide)]; exact en
    obtain ⟨v1, v2, v3, v4, v5, v6, v7⟩ := id hV
    have hpw := pow_b h0 (show k ≤ 15 by omega)
    have hk15 : 0 ≤ k ∧ k ≤ 15 := by omega
    have fin : ∀ (M1 : xm) (y5 y6 : xv) (z' : ZT), mF M0 m M1 → mV M1 m z' (k + 1) → (0 ≤ zN z' ∧ zN z' ≤ 1000000 + (k + 1)) → (-2147483648 * (k + 1) ≤ zS z' ∧ zS z' ≤ 2147483648 * (k + 1)) → menS k0 (rL M0 o) (rV M0 o) k z = .inr z' → Wp qX10_mean 17 [vR aM, vI m, vJ (zS z'), vX, vI (k + 1), y5, y6] [] M1 Q := fun M1 y5 y6 z' a1 a2 b0 b1 a6 => l_mean hs m n o k0 hm hn en hco ho eo hk0 ek0 hvw Q d (k + 1) z' M1 y5 y6 (by omega) (by omega) a1 a2 b0 b1 (by rw [lpF_r a6] at hP; exact hP)
    have iq := in_q (k := k) hs hF hm hco (i := 0) (by omega) ho (by rw [Int.add_zero]; exact eo) hk15
    have ek0' : mA M amKn (3 * m).toNat = k0 := by rw [mF_a hF _ (by decide) (by decide)]; exact ek0
    have hr := hvw k hk15.1 hk15.2
    rw [HX10_mean_17]
    by_cases c1 : rL M0 o ≤ k
    · rw [lpF_l (show menS k0 (rL M0 o) (rV M0 o) k z = .inl 3 from if_pos c1)] at hP
      simp (disch := omega) only [RX10_mean, BW, wr_id, OM, OE, PL, ↓reduceIte, mSt.e hsM, hR', TGs, e19, iq.1, Nat.reduceLeDiff, Nat.reduceAdd]
      exact mfail hF (by decide) (wr_id (by omega) (by omega)) (wr_id (by omega) (by omega)) hP
    · by_cases c2 : k + k0 = 0
      · rw [lpF_l (show menS k0 (rL M0 o) (rV M0 o) k z = .inl 5 by unfold menS; rw [if_neg c1, if_pos c2])] at hP
        simp (disch := first | omega | (simp only [DT, DS, ne_eq, Nat.reduceEqDiff, not_false_eq_true]; done)) only [RX10_mean, BW, wr_id, w64_id, OM, OE, PL, ↓reduceIte, mSt.e hsM, hR', TGs, e19, ek0', iq.1, iq.2.2, xl_c, s_fails _ _ _ M hsM hR, Nat.reduceLeDiff, Nat.reduceAdd]
        exact mfail hF (by decide) (wr_id (by omega) (by omega)) (wr_id (by omega) (by omega)) hP
      · have hsb : 0 ≤ mA M amIn (20 * m + 17).toNat ∧ mA M amIn (20 * m + 17).toNat ≤ 1000000000 := by rw [v3]; omega
        have hfs := menS_r (k0 := k0) (vs := rV M0 o) (z := z) c1 c2
        generalize hv : (FP.d2l (rV M0 o k)).toInt = v at hr hfs
        have htd := tdiv_b (a := zS z + v) (b := k + k0) (H := 68719476736) (by omega) (by omega) (by omega)
        have hw := s_heldTo32 m ((zS z + v).tdiv (k + k0)) M hsM hR hm (by omega) hsb
        rw [v3] at hw
        have hb := si_b 2147483647 ((zS z + v).tdiv (k + k0))
        simp (disch := first | omega | (simp only [DT, DS, ne_eq, Nat.reduceEqDiff, not_false_eq_true]; done)) only [RX10_mean, BW, wr_id, w64_id, OM, OE, PL, ↓reduceIte, mSt.e hsM, hR', TGs, e19, ek0', iq.1, iq.2.2, xl_c, hv, hw, MM, DT, Nat.reduceLeDiff, Nat.reduceAdd]
        exact fin _ _ _ _ ((hF.wI (Or.inr (Or.inr rfl)) (wr_id (by omega) (by omega))).wFr k.toNat (FP.i2d (Int32.ofInt (cz 2147483647 ((zS z + v).tdiv (k + k0)))))) (mV_s (mV_v (mV_n hV hm.1 (zN z + si 2147483647 ((zS z + v).tdiv (k + k0)))) h0 _) (zS z + v)) ⟨by show 0 ≤ zN z + _; omega, by show zN z + _ ≤ _; omega⟩ ⟨by show _ ≤ zS z + v; omega, by show zS z + v ≤ _; omega⟩ hfs
