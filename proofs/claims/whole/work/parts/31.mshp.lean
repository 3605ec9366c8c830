/-! 31.mshp: the reference's SHAPE, FILTER, SLOW, LATE and GATE -/
def rL (M : xm) (o : Int) : Int := mA M amIn (20 * o + 1).toNat
def rN (M : xm) (o : Int) : Int := mA M amIn (20 * o + 2).toNat
def rV (M : xm) (o k : Int) : UInt64 := mB M amDb (82 * o + k).toNat
def bt (n k : Int) : Bool := decide (wr (xiand (xishr n k) 1) = 1)
theorem in_q {M0 M : xm} {m : Int} (hs : mSt M0) (hF : mF M0 m M) (hm : 0 ≤ m ∧ m ≤ 23) (hco : ∀ j, 0 ≤ mA M0 amCo j ∧ mA M0 amCo j ≤ 24) {i o k : Int} (hi : 0 ≤ i ∧ i ≤ 2) (ho : 0 ≤ o ∧ o ≤ 23) (eo : mA M0 amCo (3 * m + i).toNat = o + 1) (hk : 0 ≤ k ∧ k ≤ 15) :
    (∀ Q, Wp qX10_hasSample 0 [vR aM, vI m, vI i, vI k, vX] [] M Q ↔ if k < rL M0 o then Q (some (vI 1)) M else Q (some (vI 0)) (wA (wA (wA M aM 16 3) aM 17 m) aM 18 k)) ∧
    (∀ Q, Wp qX10_isNoneOf 0 [vR aM, vI m, vI i, vI k] [] M Q ↔ Q (some (vI (bi (bt (rN M0 o) k = true)))) M) ∧
    (∀ Q, Wp qX10_sampleOf 0 [vR aM, vI m, vI i, vI k] [] M Q ↔ Q (some (vD (rV M0 o k))) M) := by
  have hsM := hF.st hs
  have hR := hF.2.2.2.2.2
  have hco' : ∀ j, mA M amCo j = mA M0 amCo j := fun j => mF_a hF j (by decide) (by decide)
  have hc : ∀ j, 0 ≤ mA M amCo j ∧ mA M amCo j ≤ 24 := fun j => by rw [hco']; exact hco j
  have ec : mA M amCo (3 * m + i).toNat = o + 1 := by rw [hco']; exact eo
  have h1 : 1 ≤ mA M amCo (3 * m + i).toNat := by rw [ec]; omega
  have q1 := s_hasSample m i k M hsM hR hm hi hk hc h1
  have q2 := s_isNoneOf m i k M hsM hR hm hi hk hc h1
  rw [← decide_eq_true_eq (p := wr (xiand (xishr (mA M amIn (20 * (mA M amCo (3 * m + i).toNat - 1) + 2).toNat) k) 1) = 1)] at q2
  change ∀ Q : Option xv → xm → Prop, _ ↔ Q (some (vI (bi (bt (mA M amIn (20 * (mA M amCo (3 * m + i).toNat - 1) + 2).toNat) k = true)))) M at q2
  have q3 := s_sampleOf m i k M hsM hR hm hi hk hc h1
  rw [ec, show o + 1 - 1 = o by omega] at q1 q2 q3
  rw [show mA M amIn (20 * o + 1).toNat = rL M0 o from mF_i hF (by omega)] at q1
  rw [show mA M amIn (20 * o + 2).toNat = rN M0 o from mF_i hF (by omega)] at q2
  rw [show mB M amDb (82 * o + k).toNat = rV M0 o k from mF_d hF (by omega)] at q3
  exact ⟨q1, q2, q3⟩
/-- SHAPE, FILTER, SLOW, LATE -/
def shpS (kd o0 k0 k1 k2 n len mk : Int) (vs : Int → UInt64) (k : Int) (z : ZT) : Int ⊕ ZT :=
  if len ≤ k then .inl 3
  else if bt mk k = true then .inr (zP z, zK z, zO z, zU z, zN z, zM z + 2 ^ k.toNat, upV (zV z) k.toNat 0, zS z)
  else if kd = 1 then .inr (zP z, zK z, zO z, zU z, zN z, zM z, upV (zV z) k.toNat (hdF (FP.dmul (gnF o0 k0 k n) (vs k))), zS z)
  else if kd = 4 then .inr (zP z, hdF (FP.dadd (hdF (FP.dmul (gnF o0 k0 k n) (vs k))) (FP.dmul (zK z) (FP.ddiv (FP.i2d (Int32.ofInt k1)) 4620693217682128896))), hdF (FP.dmul (hdF (FP.dadd (hdF (FP.dmul (gnF o0 k0 k n) (vs k))) (FP.dmul (zK z) (FP.ddiv (FP.i2d (Int32.ofInt k1)) 4620693217682128896)))) (FP.ddiv (FP.i2d (Int32.ofInt k2)) 4620693217682128896)), zU z, zN z, zM z, upV (zV z) k.toNat (hdF (FP.dadd (hdF (FP.dadd (hdF (FP.dmul (gnF o0 k0 k n) (vs k))) (FP.dmul (zK z) (FP.ddiv (FP.i2d (Int32.ofInt k1)) 4620693217682128896)))) (zO z))), zS z)
  else .inr (zP z, hdF (FP.dadd (hdF (FP.dmul (gnF o0 k0 k n) (vs k))) (FP.dmul (zK z) (FP.ddiv (FP.i2d (Int32.ofInt k1)) 4620693217682128896))), zO z, zU z, zN z, zM z, upV (zV z) k.toNat (hdF (FP.dadd (hdF (FP.dmul (gnF o0 k0 k n) (vs k))) (FP.dmul (zK z) (FP.ddiv (FP.i2d (Int32.ofInt k1)) 4620693217682128896)))), zS z)
theorem shp_mg {o0 k0 k n : Int} {x : UInt64} (hn : 1 ≤ n ∧ n ≤ 16) (hx : mg 1043 x) : mg 1043 (hdF (FP.dmul (gnF o0 k0 k n) x)) := hd_mg (mul_nn ((gn_parts o0 k0 k n hn).2.2.2.le (by decide)) (hx.le (by decide)))
theorem fil_mg {k1 : Int} {y w : UInt64} (hy : mg 1043 y) (hw : mg 1043 w) : mg 1043 (hdF (FP.dadd y (FP.dmul w (FP.ddiv (FP.i2d (Int32.ofInt k1)) 4620693217682128896)))) := hd_mg (add_nn (hy.le (by decide)) (mul_nn (hw.le (by decide)) ((kn_mg k1).2.le (by decide))))
theorem old_mg {k2 : Int} {w : UInt64} (hw : mg 1043 w) : mg 1043 (hdF (FP.dmul w (FP.ddiv (FP.i2d (Int32.ofInt k2)) 4620693217682128896))) := hd_mg (mul_nn (hw.le (by decide)) ((kn_mg k2).2.le (by decide)))
theorem lat_mg {a b : UInt64} (ha : mg 1043 a) (hb : mg 1043 b) : mg 1043 (hdF (FP.dadd a b)) := hd_mg (add_nn (ha.le (by decide)) (hb.nn (by decide)))
theorem l_shape {M0 : xm} (hs : mSt M0) (m n o kd o0 k0 k1 k2 : Int) (hm : 0 ≤ m ∧ m ≤ 23) (hn : 1 ≤ n ∧ n ≤ 16) (en : mA M0 aM 19 = n) (hco : ∀ j, 0 ≤ mA M0 amCo j ∧ mA M0 amCo j ≤ 24) (ho : 0 ≤ o ∧ o ≤ 23) (eo : mA M0 amCo (3 * m).toNat = o + 1) (hkd : 1 ≤ kd ∧ kd ≤ 4) (ekd : mA M0 amKd m.toNat = kd) (e0 : mA M0 amIn (20 * m + 18).toNat = o0) (ek0 : mA M0 amKn (3 * m).toNat = k0) (ek1 : mA M0 amKn (3 * m + 1).toNat = k1) (ek2 : mA M0 amKn (3 * m + 2).toNat = k2) (hvs : ∀ k, 0 ≤ k → k ≤ 15 → mg 1043 (rV M0 o k)) (Q : Option xv → xm → Prop) :
    ∀ (d : Nat) (k : Int) (z : ZT) (M : xm) (x3 x4 : xv), k + d = n → 0 ≤ k → mF M0 m M → mV M m z k → mg 1043 (zK z) → mg 1043 (zO z) → (0 ≤ zM z ∧ zM z < 2 ^ k.toNat) → mPost M0 m n Q (lpF (shpS kd o0 k0 k1 k2 n (rL M0 o) (rN M0 o) (rV M0 o)) d k z) → Wp qX10_shape 14 [vR aM, vI m, vI k, x3, x4] [] M Q
  | 0, k, z, M, x3, x4, hd, h0, hF, hV, hkp, hol, hmk, hP => by
    have hsM := hF.st hs
    have hR' : ∀ L k, wr (mA M L k) = mA M L k := hF.2.2.2.2.2
    have e19 : mA M aM 19 = n := by rw [mF_m hF (by decide)]; exact en
    rw [HX10_shape_14]
    simp (disch := omega) only [RX10_shape, BW, wr_id, OM, PL, ↓reduceIte, mSt.e hsM, hR', TGs, e19]
    obtain rfl : k = n := by omega
    exact hP M hF hV
  | d + 1, k, z, M, x3, x4, hd, h0, hF, hV, hkp, hol, hmk, hP => by
    have hsM := hF.st hs
    have hR := hF.2.2.2.2.2
    have hR' : ∀ L k, wr (mA M L k) = mA M L k := hR
    have e19 : mA M aM 19 = n := by rw [mF_m hF (by decide)]; exact en
    have e1 : mA M amKd m.toNat = kd := by rw [mF_a hF _ (by decide) (by decide)]; exact ekd
    obtain ⟨v1, v2, v3, v4, v5, v6, v7⟩ := id hV
    have hpw := pow_b h0 (show k ≤ 15 by omega)
    have iq := in_q (k := k) hs hF hm hco (i := 0) (by omega) ho (by rw [Int.add_zero]; exact eo) (by omega)
    have hx := hvs k h0 (by omega)
    have q4 := s_shaped m k (rV M0 o k) M hsM hR hm (by omega) (by rw [e19]; exact hn) hx
    rw [e19, show mA M amIn (20 * m + 18).toNat = o0 by rw [mF_i hF (by omega)]; exact e0, show mA M amKn (3 * m).toNat = k0 by rw [mF_a hF _ (by decide) (by decide)]; exact ek0] at q4
    have hy := shp_mg (o0 := o0) (k0 := k0) (k := k) hn hx
    have ek1' : mA M amKn (3 * m + 1).toNat = k1 := by rw [mF_a hF _ (by decide) (by decide)]; exact ek1
    have ek2' : mA M amKn (3 * m + 2).toNat = k2 := by rw [mF_a hF _ (by decide) (by decide)]; exact ek2
    have fin : ∀ (M1 : xm) (y3 y4 : xv) (z' : ZT), mF M0 m M1 → mV M1 m z' (k + 1) → mg 1043 (zK z') → mg 1043 (zO z') → (0 ≤ zM z' ∧ zM z' < 2 ^ (k + 1).toNat) → shpS kd o0 k0 k1 k2 n (rL M0 o) (rN M0 o) (rV M0 o) k z = .inr z' → Wp qX10_shape 14 [vR aM, vI m, vI (k + 1), y3, y4] [] M1 Q := fun M1 y3 y4 z' a1 a2 a3 a4 a5 a6 => l_shape hs m n o kd o0 k0 k1 k2 hm hn en hco ho eo hkd ekd e0 ek0 ek1 ek2 hvs Q d (k + 1) z' M1 y3 y4 (by omega) (by omega) a1 a2 a3 a4 a5 (by rw [lpF_r a6] at hP; exact hP)
    rw [HX10_shape_14]
    by_cases c1 : rL M0 o ≤ k
    · rw [lpF_l (show shpS kd o0 k0 k1 k2 n (rL M0 o) (rN M0 o) (rV M0 o) k z = .inl 3 from if_pos c1)] at hP
      simp (disch := omega) only [RX10_shape, BW, wr_id, OM, OE, PL, ↓reduceIte, mSt.e hsM, hR', TGs, e19, iq.1, Nat.reduceLeDiff, Nat.reduceAdd]
      exact mfail hF (by decide) (wr_id (by omega) (by omega)) (wr_id (by omega) (by omega)) hP
    · by_cases c2 : bt (rN M0 o) k = true
      · simp (disch := first | omega | (simp only [DT, DS, ne_eq, Nat.reduceEqDiff, not_false_eq_true]; done)) only [RX10_shape, BW, wr_id, OM, OE, PL, ↓reduceIte, mSt.e hsM, hR', TGs, e19, iq.1, iq.2.1, bi_t c2, MM, DT, v6, shl_1, Nat.reduceLeDiff, Nat.reduceAdd]
        exact fin _ _ _ _ ((hF.wM (Or.inr (Or.inr (Or.inr rfl))) (wr_id (by omega) (by omega))).wFr _ _) (mV_v (mV_m hV _) h0 _) hkp hol ⟨by show 0 ≤ zM z + _; omega, by show zM z + _ < _; omega⟩ (by unfold shpS; rw [if_neg c1, if_pos c2]; rfl)
      · have hq := s_filtered m _ M hsM hR hm hy (by rw [v4]; exact hkp)
        rw [v4, ek1'] at hq
        by_cases c3 : kd = 1
        · simp (disch := first | omega | (simp only [DT, DS, ne_eq, Nat.reduceEqDiff, not_false_eq_true]; done)) only [RX10_shape, BW, wr_id, OM, OE, PL, ↓reduceIte, mSt.e hsM, hR', TGs, e19, e1, iq.1, iq.2.1, iq.2.2, q4, bi_f c2, MM, DT, Nat.reduceLeDiff, Nat.reduceAdd]
          exact fin _ _ _ _ (hF.wFr _ _) (mV_v hV h0 _) hkp hol ⟨hmk.1, by show zM z < _; omega⟩ (by unfold shpS; rw [if_neg c1, if_neg c2, if_pos c3])
        · have hw := fil_mg (k1 := k1) hy hkp
          by_cases c4 : kd = 4
          · have hl := s_late m _ (wB M amDb (82 * m + 80).toNat (hdF (FP.dadd (hdF (FP.dmul (gnF o0 k0 k n) (rV M0 o k))) (FP.dmul (zK z) (FP.ddiv (FP.i2d (Int32.ofInt k1)) 4620693217682128896))))) hsM hR hm hw (by rw [wB_o M _ (fun q => by have := q.2; omega), v5]; exact hol)
            rw [wB_o M _ (fun q => by have := q.2; omega), v5, show mA (wB M amDb (82 * m + 80).toNat (hdF (FP.dadd (hdF (FP.dmul (gnF o0 k0 k n) (rV M0 o k))) (FP.dmul (zK z) (FP.ddiv (FP.i2d (Int32.ofInt k1)) 4620693217682128896))))) amKn (3 * m + 2).toNat = k2 from ek2'] at hl
            simp (disch := first | omega | (simp only [DT, DS, ne_eq, Nat.reduceEqDiff, not_false_eq_true]; done)) only [RX10_shape, BW, wr_id, OM, OE, PL, ↓reduceIte, mSt.e hsM, hR', TGs, e19, e1, iq.1, iq.2.1, iq.2.2, q4, hq, hl, bi_f c2, MM, DT, Nat.reduceLeDiff, Nat.reduceAdd]
            exact fin _ _ _ _ (((hF.wD (Or.inl rfl)).wD (Or.inr rfl)).wFr _ _) (mV_v (mV_o (mV_k hV hm.1 _) hm.1 _) h0 _) hw (old_mg hw) ⟨hmk.1, by show zM z < _; omega⟩ (by unfold shpS; rw [if_neg c1, if_neg c2, if_neg c3, if_pos c4]; rfl)
          · simp (disch := first | omega | (simp only [DT, DS, ne_eq, Nat.reduceEqDiff, not_false_eq_true]; done)) only [RX10_shape, BW, wr_id, OM, OE, PL, ↓reduceIte, mSt.e hsM, hR', TGs, e19, e1, iq.1, iq.2.1, iq.2.2, q4, hq, bi_f c2, MM, DT, Nat.reduceLeDiff, Nat.reduceAdd]
            exact fin _ _ _ _ ((hF.wD (Or.inl rfl)).wFr _ _) (mV_v (mV_k hV hm.1 _) h0 _) hw hol ⟨hmk.1, by show zM z < _; omega⟩ (by unfold shpS; rw [if_neg c1, if_neg c2, if_neg c3, if_neg c4]; rfl)
