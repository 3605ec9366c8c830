/-! 32.mgat: the reference's GATE, TURN, MEAN -/
def upF (k0 k1 u : Int) (x : UInt64) : Int := if FP.dcmp x (FP.ddiv (FP.i2d (Int32.ofInt k0)) 4620693217682128896) = some .lt ∨ FP.dcmp x (FP.ddiv (FP.i2d (Int32.ofInt k0)) 4620693217682128896) = none then (if FP.dcmp x (FP.ddiv (FP.i2d (Int32.ofInt k1)) 4620693217682128896) = some .gt ∨ FP.dcmp x (FP.ddiv (FP.i2d (Int32.ofInt k1)) 4620693217682128896) = none then u else 0) else 1
theorem upF_b {k0 k1 u : Int} (x : UInt64) (h : 0 ≤ u ∧ u ≤ 1) : 0 ≤ upF k0 k1 u x ∧ upF k0 k1 u x ≤ 1 := by
  unfold upF
  repeat' split
  all_goals omega
/-- GATE -/
def gatS (k0 k1 len mk : Int) (vs : Int → UInt64) (k : Int) (z : ZT) : Int ⊕ ZT :=
  if len ≤ k then .inl 3
  else if bt mk k = true then .inr (zP z, zK z, zO z, zU z, zN z, zM z, upV (zV z) k.toNat (FP.i2d (Int32.ofInt (zU z))), zS z)
  else .inr (zP z, zK z, zO z, upF k0 k1 (zU z) (vs k), zN z, zM z, upV (zV z) k.toNat (FP.i2d (Int32.ofInt (upF k0 k1 (zU z) (vs k)))), zS z)
theorem l_gate {M0 : xm} (hs : mSt M0) (m n o k0 k1 : Int) (hm : 0 ≤ m ∧ m ≤ 23) (hn : 1 ≤ n ∧ n ≤ 16) (en : mA M0 aM 19 = n) (hco : ∀ j, 0 ≤ mA M0 amCo j ∧ mA M0 amCo j ≤ 24) (ho : 0 ≤ o ∧ o ≤ 23) (eo : mA M0 amCo (3 * m).toNat = o + 1) (ek0 : mA M0 amKn (3 * m).toNat = k0) (ek1 : mA M0 amKn (3 * m + 1).toNat = k1) (Q : Option xv → xm → Prop) :
    ∀ (d : Nat) (k : Int) (z : ZT) (M : xm) (x4 x5 : xv), k + d = n → 0 ≤ k → mF M0 m M → mV M m z k → (0 ≤ zU z ∧ zU z ≤ 1) → mPost M0 m n Q (lpF (gatS k0 k1 (rL M0 o) (rN M0 o) (rV M0 o)) d k z) → Wp qX10_gate 22 [vR aM, vI m, vI (20 * m + 16), vI k, x4, x5] [] M Q
  | 0, k, z, M, x4, x5, hd, h0, hF, hV, hu, hP => by
    have hsM := hF.st hs
    have hR' : ∀ L k, wr (mA M L k) = mA M L k := hF.2.2.2.2.2
    have e19 : mA M aM 19 = n := by rw [mF_m hF (by decide)]; exact en
    rw [HX10_gate_22]
    simp (disch := omega) only [RX10_gate, BW, wr_id, OM, PL, ↓reduceIte, mSt.e hsM, hR', TGs, e19]
    obtain rfl : k = n := by omega
    exact hP M hF hV
  | d + 1, k, z, M, x4, x5, hd, h0, hF, hV, hu, hP => by
    have hsM := hF.st hs
    have hR := hF.2.2.2.2.2
    have hR' : ∀ L k, wr (mA M L k) = mA M L k := hR
    have e19 : mA M aM 19 = n := by rw [mF_m hF (by decide)]; exact en
    obtain ⟨v1, v2, v3, v4, v5, v6, v7⟩ := id hV
    have iq := in_q (k := k) hs hF hm hco (i := 0) (by omega) ho (by rw [Int.add_zero]; exact eo) (by omega)
    have ek0' : mA M amKn (3 * m).toNat = k0 := by rw [mF_a hF _ (by decide) (by decide)]; exact ek0
    have ek1' : mA M amKn (3 * m + 1).toNat = k1 := by rw [mF_a hF _ (by decide) (by decide)]; exact ek1
    have fin : ∀ (M1 : xm) (y4 y5 : xv) (z' : ZT), mF M0 m M1 → mV M1 m z' (k + 1) → (0 ≤ zU z' ∧ zU z' ≤ 1) → gatS k0 k1 (rL M0 o) (rN M0 o) (rV M0 o) k z = .inr z' → Wp qX10_gate 22 [vR aM, vI m, vI (20 * m + 16), vI (k + 1), y4, y5] [] M1 Q := fun M1 y4 y5 z' a1 a2 a3 a6 => l_gate hs m n o k0 k1 hm hn en hco ho eo ek0 ek1 Q d (k + 1) z' M1 y4 y5 (by omega) (by omega) a1 a2 a3 (by rw [lpF_r a6] at hP; exact hP)
    rw [HX10_gate_22]
    by_cases c1 : rL M0 o ≤ k
    · rw [lpF_l (show gatS k0 k1 (rL M0 o) (rN M0 o) (rV M0 o) k z = .inl 3 from if_pos c1)] at hP
      simp (disch := omega) only [RX10_gate, BW, wr_id, OM, OE, PL, ↓reduceIte, mSt.e hsM, hR', TGs, e19, iq.1, Nat.reduceLeDiff, Nat.reduceAdd]
      exact mfail hF (by decide) (wr_id (by omega) (by omega)) (wr_id (by omega) (by omega)) hP
    · by_cases c2 : bt (rN M0 o) k = true
      · simp (disch := first | omega | (simp only [DT, DS, ne_eq, Nat.reduceEqDiff, not_false_eq_true]; done)) only [RX10_gate, BW, wr_id, OM, OE, PL, ↓reduceIte, mSt.e hsM, hR', TGs, e19, iq.1, iq.2.1, bi_t c2, MM, DT, v2, Nat.reduceLeDiff, Nat.reduceAdd]
        exact fin _ _ _ _ (hF.wFr _ _) (mV_v hV h0 _) hu (by unfold gatS; rw [if_neg c1, if_pos c2])
      · have hub := upF_b (k0 := k0) (k1 := k1) (rV M0 o k) hu
        have go : ∀ y4 y5, Wp qX10_gate 22 [vR aM, vI m, vI (20 * m + 16), vI (k + 1), y4, y5] [] (wB (wA M amIn (20 * m + 16).toNat (upF k0 k1 (zU z) (rV M0 o k))) amFr k.toNat (FP.i2d (Int32.ofInt (upF k0 k1 (zU z) (rV M0 o k))))) Q := fun y4 y5 => fin _ _ _ _ ((hF.wI (Or.inr (Or.inl rfl)) (wr_id (by omega) (by omega))).wFr _ _) (mV_v (mV_u hV hm.1 _) h0 _) hub (by unfold gatS; rw [if_neg c1, if_neg c2]; rfl)
        by_cases c3 : FP.dcmp (rV M0 o k) (FP.ddiv (FP.i2d (Int32.ofInt k0)) 4620693217682128896) = some .lt ∨ FP.dcmp (rV M0 o k) (FP.ddiv (FP.i2d (Int32.ofInt k0)) 4620693217682128896) = none
        · by_cases c4 : FP.dcmp (rV M0 o k) (FP.ddiv (FP.i2d (Int32.ofInt k1)) 4620693217682128896) = some .gt ∨ FP.dcmp (rV M0 o k) (FP.ddiv (FP.i2d (Int32.ofInt k1)) 4620693217682128896) = none
          · rw [show upF k0 k1 (zU z) (rV M0 o k) = zU z by unfold upF; rw [if_pos c3, if_pos c4]] at go
            simp (disch := first | omega | (simp only [DT, DS, ne_eq, Nat.reduceEqDiff, not_false_eq_true]; done)) only [RX10_gate, BW, wr_id, OM, OE, PL, ↓reduceIte, mSt.e hsM, hR', TGs, e19, ek0', ek1', iq.1, iq.2.1, iq.2.2, bi_f c2, cmp_l, cmp_g, c3, c4, kn_mg, MM, DT, v2, Nat.reduceLeDiff, Nat.reduceAdd]
            exact go _ _
          · rw [show upF k0 k1 (zU z) (rV M0 o k) = 0 by unfold upF; rw [if_pos c3, if_neg c4]] at go
            simp (disch := first | omega | (simp only [DT, DS, ne_eq, Nat.reduceEqDiff, not_false_eq_true]; done)) only [RX10_gate, BW, wr_id, OM, OE, PL, ↓reduceIte, mSt.e hsM, hR', TGs, e19, ek0', ek1', iq.1, iq.2.1, iq.2.2, bi_f c2, cmp_l, cmp_g, c3, c4, kn_mg, MM, DT, v2, Nat.reduceLeDiff, Nat.reduceAdd]
            exact go _ _
        · rw [show upF k0 k1 (zU z) (rV M0 o k) = 1 by unfold upF; rw [if_neg c3]] at go
          simp (disch := first | omega | (simp only [DT, DS, ne_eq, Nat.reduceEqDiff, not_false_eq_true]; done)) only [RX10_gate, BW, wr_id, OM, OE, PL, ↓reduceIte, mSt.e hsM, hR', TGs, e19, ek0', ek1', iq.1, iq.2.1, iq.2.2, bi_f c2, cmp_l, cmp_g, c3, kn_mg, MM, DT, v2, Nat.reduceLeDiff, Nat.reduceAdd]
          exact go _ _
