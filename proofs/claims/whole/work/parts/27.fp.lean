/-! 27.fp: doubles: no NaN, how large -/
theorem nan_iff (a : UInt64) : isNaN64 a = false ↔ a.toNat % 2 ^ 63 ≤ 9218868437227405312 := by
  unfold isNaN64
  rw [decide_eq_false_iff_not, gt_iff_lt, UInt64.lt_iff_toNat_lt, Jvm.FP.Core.mask_toNat]
  show ¬ 9218868437227405312 < _ ↔ _
  omega
theorem nan32_iff (a : UInt32) : isNaN32 a = false ↔ a.toNat % 2 ^ 31 ≤ 2139095040 := by
  unfold isNaN32
  rw [decide_eq_false_iff_not, gt_iff_lt, UInt32.lt_iff_toNat_lt, Jvm.FP.Core.mask_toNat32]
  show ¬ 2139095040 < _ ↔ _
  omega
theorem nan_d (a : UInt64) : isNaN64 a = false ↔ Jvm.FP.Core.val64 a ≠ .nan := (nan_iff a).trans (Jvm.FP.Core.ne_nan a).symm
theorem nan_f (a : UInt32) : isNaN32 a = false ↔ Jvm.FP.Core.val32 a ≠ .nan := (nan32_iff a).trans (Jvm.FP.Core.ne_nan32 a).symm
theorem nan_D (a : UInt64) : isNaN64 a = false ↔ Jvm.FP.Core.dIsNaN a = false := (nan_d a).trans (Jvm.FP.Core.notNaN_iff a).symm
theorem nan_F (a : UInt32) : isNaN32 a = false ↔ Jvm.FP.Core.fIsNaN a = false := (nan_f a).trans (Jvm.FP.Core.notNaN_iff32 a).symm
/-- less than 2 ^ (K - 1023), in size -/
def mg (K : Nat) (a : UInt64) : Prop := a.toNat % 2 ^ 63 < K * 2 ^ 52
theorem mg.le {K L : Nat} {a : UInt64} (h : mg K a) (hl : K ≤ L) : mg L a := by
  unfold mg at h ⊢
  exact Nat.lt_of_lt_of_le h (Nat.mul_le_mul_right _ hl)
theorem mg.fin {K : Nat} {a : UInt64} (h : mg K a) (hK : K ≤ 2047) : Jvm.FP.Core.DFin a := Jvm.FP.Core.fin_of_lt h hK
theorem mg.nn {K : Nat} {a : UInt64} (h : mg K a) (hK : K ≤ 2047) : isNaN64 a = false := (nan_D a).mpr (Jvm.FP.Core.DFin.notNaN (h.fin hK))
theorem mg_add {K : Nat} {a b : UInt64} (ha : mg K a) (hb : mg K b) (hK : K ≤ 2047) : mg (K + 2) (FP.dadd a b) := Jvm.FP.Core.dadd_mag ha hb hK
theorem mg_mul {K L : Nat} {a b : UInt64} (ha : mg K a) (hb : mg L b) (hK : K ≤ 2047) (hL : L ≤ 2047) : mg (K + L - 1025 + 3) (FP.dmul a b) := Jvm.FP.Core.dmul_mag ha hb hK hL
theorem mg_div {K L : Nat} {a b : UInt64} (ha : mg K a) (hb : L * 2 ^ 52 ≤ b.toNat % 2 ^ 63) (hb2 : mg 2047 b) (hK : K ≤ 2047) (hL : 1 ≤ L) : mg (K + 1021 - L + 3) (FP.ddiv a b) := Jvm.FP.Core.ddiv_mag ha hb hb2 hK hL
theorem mg_i (v : Int32) : mg 1056 (FP.i2d v) := Jvm.FP.Core.i2d_mag v
theorem mg_l (v : Int64) : mg 1088 (FP.l2d v) := Jvm.FP.Core.l2d_mag v
theorem mul_nn {a b : UInt64} (ha : mg 2047 a) (hb : mg 2047 b) : isNaN64 (FP.dmul a b) = false := (nan_D _).mpr (Jvm.FP.Core.dmul_out (ha.fin (by decide)) (hb.fin (by decide)))
theorem add_nn {a b : UInt64} (ha : mg 2047 a) (hb : isNaN64 b = false) : isNaN64 (FP.dadd a b) = false := (nan_D _).mpr (Jvm.FP.Core.dadd_out' (ha.fin (by decide)) ((nan_D b).mp hb))
/-- the greatest and the least sample of doubles -/
def dMX : UInt64 := 4696837146684686336
def dMN : UInt64 := 13920209183539462144
/-- held -/
def hdF (x : UInt64) : UInt64 := if FP.dcmp x dMX = some .gt then dMX else if FP.dcmp x dMN = some .lt then dMN else x
theorem cmp_l (o : Option Ordering) : (0 < wr (Op.cmpValue o .l).toInt) = (o = some .gt) ∧ (wr (Op.cmpValue o .l).toInt = 0) = (o = some .eq) ∧ (wr (Op.cmpValue o .l).toInt < 0) = (o = some .lt ∨ o = none) := by
  rcases o with _ | o
  · decide
  · cases o <;> decide
theorem cmp_g (o : Option Ordering) : (0 < wr (Op.cmpValue o .g).toInt) = (o = some .gt ∨ o = none) ∧ (wr (Op.cmpValue o .g).toInt = 0) = (o = some .eq) ∧ (wr (Op.cmpValue o .g).toInt < 0) = (o = some .lt) := by
  rcases o with _ | o
  · decide
  · cases o <;> decide
theorem xl_c (a b : Int) : (wr (xlcmp a b) < 0) = (a < b) ∧ (0 < wr (xlcmp a b)) = (b < a) ∧ (wr (xlcmp a b) = 0) = (a = b) := by
  unfold xlcmp
  by_cases h1 : a < b
  · rw [if_pos h1]
    refine ⟨propext ⟨fun _ => h1, fun _ => by decide⟩, propext ⟨fun z => absurd z (by decide), fun z => by omega⟩, propext ⟨fun z => absurd z (by decide), fun z => by omega⟩⟩
  · rw [if_neg h1]
    by_cases h2 : a = b
    · rw [if_pos h2]
      refine ⟨propext ⟨fun z => absurd z (by decide), fun z => by omega⟩, propext ⟨fun z => absurd z (by decide), fun z => by omega⟩, propext ⟨fun _ => h2, fun _ => by decide⟩⟩
    · rw [if_neg h2]
      refine ⟨propext ⟨fun z => absurd z (by decide), fun z => by omega⟩, propext ⟨fun _ => by omega, fun _ => by decide⟩, propext ⟨fun z => absurd z (by decide), fun z => by omega⟩⟩
theorem dMX_n : Jvm.FP.Core.val64 dMX ≠ .nan := (nan_d _).mp (by decide)
theorem dMN_n : Jvm.FP.Core.val64 dMN ≠ .nan := (nan_d _).mp (by decide)
theorem dkey_mx : Jvm.FP.Core.dkey dMX = 4696837146684686336 := by decide
theorem dkey_mn : Jvm.FP.Core.dkey dMN = -4696837146684686336 := by decide
/-- what is held is at most a million, in size -/
theorem hd_le {x : UInt64} (h : isNaN64 x = false) : (hdF x).toNat % 2 ^ 63 ≤ 4696837146684686336 := by
  have hx := (nan_d x).mp h
  unfold hdF
  rw [show FP.dcmp x dMX = _ from Jvm.FP.Core.dcmp_key hx dMX_n, show FP.dcmp x dMN = _ from Jvm.FP.Core.dcmp_key hx dMN_n, dkey_mx, dkey_mn]
  split
  · decide
  · split
    · decide
    · rename_i h1 h2
      rw [Option.some.injEq, Jvm.FP.Core.compare_gt_iff] at h1
      rw [Option.some.injEq, Jvm.FP.Core.compare_lt_iff] at h2
      unfold Jvm.FP.Core.dkey at h1 h2
      have := x.toNat_lt
      split at h1 <;> split at h2 <;> omega
theorem hd_mg {x : UInt64} (h : isNaN64 x = false) : mg 1043 (hdF x) := by
  have := hd_le h
  unfold mg
  omega
theorem hd_id {x : UInt64} (h : x.toNat % 2 ^ 63 ≤ 4696837146684686336) : hdF x = x := by
  have hx := (Jvm.FP.Core.ne_nan x).mpr (by omega)
  unfold hdF
  rw [show FP.dcmp x dMX = _ from Jvm.FP.Core.dcmp_key hx dMX_n, show FP.dcmp x dMN = _ from Jvm.FP.Core.dcmp_key hx dMN_n, dkey_mx, dkey_mn]
  have := x.toNat_lt
  rw [if_neg (fun z => by
    rw [Option.some.injEq, Jvm.FP.Core.compare_gt_iff] at z
    unfold Jvm.FP.Core.dkey at z
    split at z <;> omega), if_neg (fun z => by
    rw [Option.some.injEq, Jvm.FP.Core.compare_lt_iff] at z
    unfold Jvm.FP.Core.dkey at z
    split at z <;> omega)]
/-- the gain: what o comes to, k samples of n on the way to v -/
def gnF (o v k n : Int) : UInt64 := FP.ddiv (FP.dadd (FP.i2d (Int32.ofInt o)) (FP.ddiv (FP.i2d (Int32.ofInt ((v - o) * (k + 1)))) (FP.i2d (Int32.ofInt n)))) 4620693217682128896
theorem gn_parts (o v k n : Int) (hn : 1 ≤ n ∧ n ≤ 16) : isNaN64 (FP.ddiv (FP.i2d (Int32.ofInt ((v - o) * (k + 1)))) (FP.i2d (Int32.ofInt n))) = false ∧ isNaN64 (FP.dadd (FP.i2d (Int32.ofInt o)) (FP.ddiv (FP.i2d (Int32.ofInt ((v - o) * (k + 1)))) (FP.i2d (Int32.ofInt n)))) = false ∧ isNaN64 (gnF o v k n) = false ∧ mg 1070 (gnF o v k n) := by
  have hb := Jvm.FP.Core.i2d_big (v := Int32.ofInt n) (by rw [wr_eq, wr_id (by omega) (by omega)]; omega)
  have h1 : mg (1056 + 1021 - 1023 + 3) (FP.ddiv (FP.i2d (Int32.ofInt ((v - o) * (k + 1)))) (FP.i2d (Int32.ofInt n))) := mg_div (K := 1056) (L := 1023) (mg_i _) hb.1 hb.2 (by decide) (by decide)
  have h2 : mg 1059 (FP.dadd (FP.i2d (Int32.ofInt o)) (FP.ddiv (FP.i2d (Int32.ofInt ((v - o) * (k + 1)))) (FP.i2d (Int32.ofInt n)))) := mg_add (K := 1057) ((mg_i _).le (by decide)) (h1.le (by decide)) (by decide)
  have h3 : mg (1059 + 1021 - 1023 + 3) (gnF o v k n) := mg_div h2 (by decide) (by unfold mg; decide) (by decide) (by decide)
  exact ⟨h1.nn (by decide), h2.nn (by decide), h3.nn (by decide), h3.le (by decide)⟩
theorem kn_mg (v : Int) : isNaN64 (FP.ddiv (FP.i2d (Int32.ofInt v)) 4620693217682128896) = false ∧ mg 1070 (FP.ddiv (FP.i2d (Int32.ofInt v)) 4620693217682128896) := by
  have h3 : mg (1056 + 1021 - 1023 + 3) (FP.ddiv (FP.i2d (Int32.ofInt v)) 4620693217682128896) := mg_div (mg_i _) (by decide) (by unfold mg; decide) (by decide) (by decide)
  exact ⟨h3.nn (by decide), h3.le (by decide)⟩
theorem by256 (v : Int) : isNaN64 (FP.ddiv (FP.i2d (Int32.ofInt v)) 4643211215818981376) = false := by
  have h3 : mg (1056 + 1021 - 1023 + 3) (FP.ddiv (FP.i2d (Int32.ofInt v)) 4643211215818981376) := mg_div (mg_i _) (by decide) (by unfold mg; decide) (by decide) (by decide)
  exact h3.nn (by decide)
theorem l2d_i {v : Int} (h1 : -2147483648 ≤ v) (h2 : v ≤ 2147483647) : FP.l2d (Int64.ofInt v) = FP.i2d (Int32.ofInt v) := by
  show Jvm.FP.Core.l2d _ = Jvm.FP.Core.i2d _
  unfold Jvm.FP.Core.l2d Jvm.FP.Core.i2d
  rw [w64_eq, wr_eq, wr_id h1 h2, w64_id (by omega) (by omega)]
theorem d2f_c {x : UInt64} (h : isNaN64 x = false) : FP.d2f x = Jvm.FP.Core.d2f x := by
  unfold FP.d2f
  rw [(nan_D x).mp h]
  rfl
theorem f2d_c {x : UInt32} (h : isNaN32 x = false) : FP.f2d x = Jvm.FP.Core.f2d x := by
  unfold FP.f2d
  rw [(nan_F x).mp h]
  rfl
theorem d2f_nn {x : UInt64} (h : isNaN64 x = false) : isNaN32 (FP.d2f x) = false := by
  rw [d2f_c h]
  exact (nan_F _).mpr (Jvm.FP.Core.d2f_out ((nan_D x).mp h))
theorem f2d_nn {x : UInt32} (h : isNaN32 x = false) : isNaN64 (FP.f2d x) = false := by
  rw [f2d_c h, nan_d, Jvm.FP.Core.val64_f2d, Ne, Jvm.FP.Core.round_nan]
  exact (nan_f x).mp h
/-- through a float -/
def flF (x : UInt64) : UInt64 := FP.f2d (FP.d2f x)
