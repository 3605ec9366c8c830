/-! 46.flo: a float of what is held is held -/
theorem fl_u1 : FP.Core.unitsOf FP.Core.b64 4696837146684686336 = FP.Core.unitsOf FP.Core.b32 1232348160 * 2 ^ (FP.Core.b32.qmin - FP.Core.b64.qmin).toNat * 1 := by decide +kernel
theorem fl_in {c : Nat} {q e e' : Int} (h : e' ≤ e) (hq : e ≤ q) : FP.Core.inUnits c q e' = FP.Core.inUnits c q e * 2 ^ (e - e').toNat := by
  unfold FP.Core.inUnits
  rw [show (q - e').toNat = (q - e).toNat + (e - e').toNat by omega, Nat.pow_add, Nat.mul_assoc]
theorem fl_le {x : UInt64} (h : x.toNat % 2 ^ 63 ≤ 4696837146684686336) : (flF x).toNat % 2 ^ 63 ≤ 4696837146684686336 := by
  have hn : isNaN64 x = false := (nan_iff x).mpr (by omega)
  have hfin : FP.Core.DFin x := FP.Core.fin_of_lt (K := 1043) (by omega) (by decide)
  obtain ⟨s, c, q, hv⟩ := hfin
  have hfit := FP.Core.val64_fits x
  have hz := FP.Core.zmag_bits ((nan_d x).mp hn)
  have hd := FP.Core.val32_d2f x
  rw [hv] at hfit hz hd
  have hle : FP.Core.inUnits c q FP.Core.b64.qmin ≤ FP.Core.unitsOf FP.Core.b64 4696837146684686336 := by
    show FP.Core.zmag FP.Core.b64 (FP.Core.Datum.fin s c q) ≤ _
    rw [hz]
    exact FP.Core.unitsOf_le_iff.mpr h
  have h32 : FP.Core.mag FP.Core.b32 (FP.Core.d2f x).toNat ≤ 1232348160 :=
    FP.Core.mag_le FP.Core.good_b32 (s := s) (A := c) (B := 1) (e := q) (e0 := FP.Core.b64.qmin) hd (by decide) (by decide) hfit.2.1 (by rw [← fl_u1]; exact hle)
  have hy32 : isNaN32 (FP.d2f x) = false := d2f_nn hn
  have e1 : flF x = FP.Core.f2d (FP.Core.d2f x) := by
    unfold flF
    rw [f2d_c hy32, d2f_c hn]
  rw [e1]
  obtain ⟨s2, c2, q2, hv2, hfit2, hz2⟩ := FP.Core.fin_of_mag FP.Core.good_b32 (n := (FP.Core.d2f x).toNat) (Nat.lt_of_le_of_lt h32 (by decide))
  have hd2 := FP.Core.val64_f2d (FP.Core.d2f x)
  rw [show FP.Core.val32 (FP.Core.d2f x) = _ from hv2] at hd2
  have hle2 : FP.Core.inUnits c2 q2 FP.Core.b32.qmin ≤ FP.Core.unitsOf FP.Core.b32 1232348160 := by
    show FP.Core.zmag FP.Core.b32 (FP.Core.Datum.fin s2 c2 q2) ≤ _
    rw [hz2]
    exact FP.Core.unitsOf_le_iff.mpr h32
  have hq2 : FP.Core.b32.qmin ≤ q2 := hfit2.2.1
  have hmm : FP.Core.b64.qmin ≤ FP.Core.b32.qmin := by decide
  have h64 : FP.Core.mag FP.Core.b64 (FP.Core.f2d (FP.Core.d2f x)).toNat ≤ 4696837146684686336 :=
    FP.Core.mag_le FP.Core.good_b64 (s := s2) (A := c2) (B := 1) (e := q2) (e0 := FP.Core.b64.qmin) hd2 (by decide) (Int.le_refl _) (by omega) (by
      rw [fl_in hmm hq2, Int.sub_self, fl_u1]
      show _ ≤ _ * 2 ^ (0 : Int).toNat * 1
      rw [show (0 : Int).toNat = 0 from rfl, Nat.pow_zero, Nat.mul_one, Nat.mul_one, Nat.mul_one]
      exact Nat.mul_le_mul_right _ hle2)
  exact h64
