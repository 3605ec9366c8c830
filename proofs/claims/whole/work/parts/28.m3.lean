/-! 28.m3: the reference: numbers (written by wip/whole/mgen.py) -/
theorem wA_self (M : xm) (L k : Nat) : wA M L k (mA M L k) = M := by
  unfold wA
  have h : lz_up M.2.1 L k (mA M L k) = M.2.1 := by
    funext l j
    unfold lz_up
    by_cases h : l = L ∧ j = k
    · rw [if_pos h, h.1, h.2]; rfl
    · rw [if_neg h]
  rw [h]
theorem wA_s0 {M : xm} {L k : Nat} {x : Int} (h : x = mA M L k) : wA M L k x = M := by rw [h]; exact wA_self M L k
theorem wr_p0 (x : Int) : wr (x + 0) = wr x := by rw [Int.add_zero]
/-- the nearest of -h - 1 .. h -/
def cz (h v : Int) : Int := if h < v then h else if v < -h - 1 then -h - 1 else v
theorem cz_b {h v : Int} (h0 : 0 ≤ h) : -h - 1 ≤ cz h v ∧ cz h v ≤ h := by
  unfold cz
  split
  · omega
  · split <;> omega
/-- 1 if it had to be held -/
def si (h v : Int) : Int := if cz h v = v then 0 else 1
theorem si_in {h v : Int} (h1 : -h - 1 ≤ v) (h2 : v ≤ h) : cz h v = v ∧ si h v = 0 := by
  have : cz h v = v := by
    unfold cz
    rw [if_neg (by omega), if_neg (by omega)]
  exact ⟨this, if_pos this⟩
theorem s_held (x : UInt64) (M : xm) (Q : Option xv → xm → Prop) : Wp qX10_held 0 [vD x, vX] [] M Q ↔ Q (some (vD (hdF x))) M := by
  simp only [RX10_held, BW, cmp_l, cmp_g]
  unfold hdF dMX dMN
  repeat' split
  all_goals first | rfl | (exfalso; simp_all; done)
theorem c_held (x : UInt64) (M : xm) (Q : Option xv → xm → Prop) : Wp qX9_heldFloating 0 [vD x, vX] [] M Q ↔ Q (some (vD (hdF x))) M := by
  simp only [RX9_heldFloating, BW, cmp_l, cmp_g]
  unfold hdF dMX dMN
  repeat' split
  all_goals first | rfl | (exfalso; simp_all; done)
theorem s_heldTo16 (m v : Int) (M : xm) (hs : mSt M) (hR : inR M) (hm : 0 ≤ m ∧ m ≤ 23) (hv : -9223372036854775808 ≤ v ∧ v ≤ 9223372036854775807) (hsa : 0 ≤ mA M amIn (20 * m + 17).toNat ∧ mA M amIn (20 * m + 17).toNat ≤ 1000000000) (Q : Option xv → xm → Prop) : Wp qX10_heldTo 0 [vR aM, vI m, vJ v, vX, vI 16, vX, vX, vX, vX] [] M Q ↔ Q (some (vD (FP.i2d (Int32.ofInt (cz 32767 v))))) (wA M amIn (20 * m + 17).toNat (mA M amIn (20 * m + 17).toNat + si 32767 v)) := by
  have hs' := hs
  unfold mSt at hs'
  have hR' : ∀ L k, wr (mA M L k) = mA M L k := hR
  have hcz := cz_b (h := 32767) (v := v) (by omega)
  rw [← l2d_i (by omega) (by omega)]
  simp (disch := omega) only [RX10_heldTo, BW, wr_id, w64_id, OM, OE, PL, if_true, if_false, hs', hR', TGs, xl_c]
  unfold si cz
  repeat' split
  all_goals first | omega | (simp only [Int.add_zero]; done) | rfl | (exfalso; omega)
theorem s_heldTo32 (m v : Int) (M : xm) (hs : mSt M) (hR : inR M) (hm : 0 ≤ m ∧ m ≤ 23) (hv : -9223372036854775808 ≤ v ∧ v ≤ 9223372036854775807) (hsa : 0 ≤ mA M amIn (20 * m + 17).toNat ∧ mA M amIn (20 * m + 17).toNat ≤ 1000000000) (Q : Option xv → xm → Prop) : Wp qX10_heldTo 0 [vR aM, vI m, vJ v, vX, vI 32, vX, vX, vX, vX] [] M Q ↔ Q (some (vD (FP.i2d (Int32.ofInt (cz 2147483647 v))))) (wA M amIn (20 * m + 17).toNat (mA M amIn (20 * m + 17).toNat + si 2147483647 v)) := by
  have hs' := hs
  unfold mSt at hs'
  have hR' : ∀ L k, wr (mA M L k) = mA M L k := hR
  have hcz := cz_b (h := 2147483647) (v := v) (by omega)
  rw [← l2d_i (by omega) (by omega)]
  simp (disch := omega) only [RX10_heldTo, BW, wr_id, w64_id, OM, OE, PL, if_true, if_false, hs', hR', TGs, xl_c]
  unfold si cz
  repeat' split
  all_goals first | omega | (simp only [Int.add_zero]; done) | rfl | (exfalso; omega)
theorem s_shaped (m k : Int) (x : UInt64) (M : xm) (hs : mSt M) (hR : inR M) (hm : 0 ≤ m ∧ m ≤ 23) (hk : 0 ≤ k ∧ k ≤ 15) (hn : 1 ≤ mA M aM 19 ∧ mA M aM 19 ≤ 16) (hx : mg 1043 x) (Q : Option xv → xm → Prop) : Wp qX10_shaped 0 [vR aM, vI m, vI k, vD x, vX, vX, vX, vX, vX, vX] [] M Q ↔ Q (some (vD (hdF (FP.dmul (gnF (mA M amIn (20 * m + 18).toNat) (mA M amKn (3 * m).toNat) k (mA M aM 19)) x)))) M := by
  have hs' := hs
  unfold mSt at hs'
  have hR' : ∀ L k, wr (mA M L k) = mA M L k := hR
  obtain ⟨g1, g2, g3, g5⟩ := gn_parts (mA M amIn (20 * m + 18).toNat) (mA M amKn (3 * m).toNat) k (mA M aM 19) hn
  have g4 := mul_nn (g5.le (by decide)) (hx.le (by decide))
  unfold gnF at g3 g4 ⊢
  simp (disch := first | omega | (simp only [DT, DS, ne_eq, Nat.reduceEqDiff, not_false_eq_true]; done)) only [RX10_shaped, BW, wr_id, OM, PL, if_true, if_false, hs', hR', TGs, wr_bi, bi_01, Nat.reduceLeDiff, Nat.reduceAdd, ite_not, s_held, g1, g2, g4, g3]
theorem s_filtered (m : Int) (y : UInt64) (M : xm) (hs : mSt M) (hR : inR M) (hm : 0 ≤ m ∧ m ≤ 23) (hy : mg 1043 y) (hkp : mg 1043 (mB M amDb (82 * m + 80).toNat)) (Q : Option xv → xm → Prop) : Wp qX10_filtered 0 [vR aM, vI m, vD y, vX, vX, vX, vX] [] M Q ↔ Q (some (vD (hdF (FP.dadd y (FP.dmul (mB M amDb (82 * m + 80).toNat) (FP.ddiv (FP.i2d (Int32.ofInt (mA M amKn (3 * m + 1).toNat))) 4620693217682128896)))))) (wB M amDb (82 * m + 80).toNat (hdF (FP.dadd y (FP.dmul (mB M amDb (82 * m + 80).toNat) (FP.ddiv (FP.i2d (Int32.ofInt (mA M amKn (3 * m + 1).toNat))) 4620693217682128896))))) := by
  have hs' := hs
  unfold mSt at hs'
  have hR' : ∀ L k, wr (mA M L k) = mA M L k := hR
  obtain ⟨g1, g2⟩ := kn_mg (mA M amKn (3 * m + 1).toNat)
  have g3 := mul_nn (hkp.le (by decide)) (g2.le (by decide))
  have g4 := add_nn (hy.le (by decide)) g3
  simp (disch := first | omega | (simp only [DT, DS, ne_eq, Nat.reduceEqDiff, not_false_eq_true]; done)) only [RX10_filtered, BW, wr_id, OM, PL, if_true, if_false, hs', hR', TGs, wr_bi, bi_01, Nat.reduceLeDiff, Nat.reduceAdd, ite_not, s_held, g1, g3, g4]
theorem s_late (m : Int) (z : UInt64) (M : xm) (hs : mSt M) (hR : inR M) (hm : 0 ≤ m ∧ m ≤ 23) (hz : mg 1043 z) (hol : mg 1043 (mB M amDb (82 * m + 81).toNat)) (Q : Option xv → xm → Prop) : Wp qX10_late 0 [vR aM, vI m, vD z, vX, vX, vX, vX] [] M Q ↔ Q (some (vD (hdF (FP.dadd z (mB M amDb (82 * m + 81).toNat))))) (wB M amDb (82 * m + 81).toNat (hdF (FP.dmul z (FP.ddiv (FP.i2d (Int32.ofInt (mA M amKn (3 * m + 2).toNat))) 4620693217682128896)))) := by
  have hs' := hs
  unfold mSt at hs'
  have hR' : ∀ L k, wr (mA M L k) = mA M L k := hR
  obtain ⟨g1, g2⟩ := kn_mg (mA M amKn (3 * m + 2).toNat)
  have g3 := mul_nn (hz.le (by decide)) (g2.le (by decide))
  have g4 := add_nn (hz.le (by decide)) (hol.nn (by decide))
  simp (disch := first | omega | (simp only [DT, DS, ne_eq, Nat.reduceEqDiff, not_false_eq_true]; done)) only [RX10_late, BW, wr_id, OM, PL, if_true, if_false, hs', hR', TGs, wr_bi, bi_01, Nat.reduceLeDiff, Nat.reduceAdd, ite_not, s_held, g1, g3, g4]
/-- a whole number as a sample of a row of kind k, and how often it had to be held -/
def wvF (k v : Int) : UInt64 := if k = 0 then (if 0 < v then FP.dconst1 else FP.dconst0) else if k = 1 then FP.i2d (Int32.ofInt (cz 32767 v)) else if k = 2 then FP.i2d (Int32.ofInt v) else if k = 3 then flF (hdF (FP.ddiv (FP.i2d (Int32.ofInt v)) 4643211215818981376)) else hdF (FP.ddiv (FP.i2d (Int32.ofInt v)) 4643211215818981376)
def wsF (k v : Int) : Int := if k = 1 then si 32767 v else 0
/-- a floating one -/
def fvF (k : Int) (x : UInt64) : UInt64 := if k = 0 then (if FP.dcmp x FP.dconst0 = some .gt then FP.dconst1 else FP.dconst0) else if k = 1 then FP.i2d (Int32.ofInt (cz 32767 (FP.d2l (FP.dmul x 4643211215818981376)).toInt)) else if k = 2 then FP.i2d (Int32.ofInt (cz 2147483647 (FP.d2l (FP.dmul x 4643211215818981376)).toInt)) else if k = 3 then flF x else x
def fsF (k : Int) (x : UInt64) : Int := if k = 1 then si 32767 (FP.d2l (FP.dmul x 4643211215818981376)).toInt else if k = 2 then si 2147483647 (FP.d2l (FP.dmul x 4643211215818981376)).toInt else 0
theorem s_wholeInto (m v k : Int) (M : xm) (hs : mSt M) (hR : inR M) (hm : 0 ≤ m ∧ m ≤ 23) (hv : -2147483648 ≤ v ∧ v ≤ 2147483647) (hk : 0 ≤ k ∧ k ≤ 4) (hsa : 0 ≤ mA M amIn (20 * m + 17).toNat ∧ mA M amIn (20 * m + 17).toNat ≤ 1000000000) (Q : Option xv → xm → Prop) : Wp qX10_wholeInto 0 [vR aM, vI m, vJ v, vX, vI k] [] M Q ↔ Q (some (vD (wvF k v))) (wA M amIn (20 * m + 17).toNat (mA M amIn (20 * m + 17).toNat + wsF k v)) := by
  have hs' := hs
  unfold mSt at hs'
  have hR' : ∀ L k, wr (mA M L k) = mA M L k := hR
  have g1 := by256 v
  have g2 := (hd_mg g1).nn (by decide)
  have g3 := d2f_nn g2
  have g4 := f2d_nn g3
  simp (disch := first | omega | (simp only [DT, DS, ne_eq, Nat.reduceEqDiff, not_false_eq_true]; done)) only [RX10_wholeInto, BW, wr_id, OM, PL, if_true, if_false, hs', hR', TGs, wr_bi, bi_01, Nat.reduceLeDiff, Nat.reduceAdd, ite_not, s_held, w64_id, xl_c, s_heldTo16 m v M hs hR hm ⟨by omega, by omega⟩ hsa, l2d_i, g1, g2, g3, g4]
  unfold wvF wsF flF
  rcases (show k = 0 ∨ k = 1 ∨ k = 2 ∨ k = 3 ∨ k = 4 by omega) with rfl | rfl | rfl | rfl | rfl <;> simp only [if_true, if_false, Int.reduceEq, Int.add_zero, wA_self]
  split <;> rfl
theorem s_floatingInto (m : Int) (x : UInt64) (k : Int) (M : xm) (hs : mSt M) (hR : inR M) (hm : 0 ≤ m ∧ m ≤ 23) (hx : mg 1056 x) (hk : 0 ≤ k ∧ k ≤ 4) (hsa : 0 ≤ mA M amIn (20 * m + 17).toNat ∧ mA M amIn (20 * m + 17).toNat ≤ 1000000000) (Q : Option xv → xm → Prop) : Wp qX10_floatingInto 0 [vR aM, vI m, vD x, vX, vI k] [] M Q ↔ Q (some (vD (fvF k x))) (wA M amIn (20 * m + 17).toNat (mA M amIn (20 * m + 17).toNat + fsF k x)) := by
  have hs' := hs
  unfold mSt at hs'
  have hR' : ∀ L k, wr (mA M L k) = mA M L k := hR
  have g1 := mul_nn (hx.le (by decide)) (show mg 2047 4643211215818981376 by unfold mg; decide)
  have g3 := d2f_nn (hx.nn (by decide))
  have g4 := f2d_nn g3
  have gl : -9223372036854775808 ≤ (FP.d2l (FP.dmul x 4643211215818981376)).toInt ∧ (FP.d2l (FP.dmul x 4643211215818981376)).toInt ≤ 9223372036854775807 := ⟨Int64.le_toInt _, by have := Int64.toInt_lt (FP.d2l (FP.dmul x 4643211215818981376)); omega⟩
  simp (disch := first | omega | (simp only [DT, DS, ne_eq, Nat.reduceEqDiff, not_false_eq_true]; done)) only [RX10_floatingInto, BW, wr_id, OM, PL, if_true, if_false, hs', hR', TGs, wr_bi, bi_01, Nat.reduceLeDiff, Nat.reduceAdd, ite_not, s_heldTo16 m (FP.d2l (FP.dmul x 4643211215818981376)).toInt M hs hR hm gl hsa, s_heldTo32 m (FP.d2l (FP.dmul x 4643211215818981376)).toInt M hs hR hm gl hsa, g1, g3, g4, cmp_l, cmp_g]
  unfold fvF fsF flF
  rcases (show k = 0 ∨ k = 1 ∨ k = 2 ∨ k = 3 ∨ k = 4 by omega) with rfl | rfl | rfl | rfl | rfl <;> simp only [if_true, if_false, Int.reduceEq, Int.add_zero, wA_self]
  split <;> rfl
