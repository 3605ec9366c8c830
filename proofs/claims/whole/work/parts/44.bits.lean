/-! 44.bits: the bits of a mask -/
theorem shr_n {a k : Int} (ha : 0 ≤ a ∧ a ≤ 2147483647) (hk : 0 ≤ k ∧ k ≤ 15) : xishr a k = a / 2 ^ k.toNat := by
  have e : ∀ j : Nat, j < 16 → ((Int32.ofInt (j : Int) &&& 31).toBitVec.smod 32#32).toNat = j := by decide
  have e2 := e k.toNat (by omega)
  rw [show ((k.toNat : Nat) : Int) = k by omega] at e2
  have h : xishr a k = (Int32.ofInt a).toBitVec.toInt >>> ((Int32.ofInt k &&& 31).toBitVec.smod 32#32).toNat := BitVec.toInt_sshiftRight'
  rw [h, e2, Int.shiftRight_eq_div_pow, show (Int32.ofInt a).toBitVec.toInt = a from i32_id ⟨by omega, by omega⟩]
  simp
theorem u32_n {a : Int} (ha : 0 ≤ a ∧ a ≤ 2147483647) : (Int32.ofInt a).toBitVec.toNat = a.toNat := by
  show (BitVec.ofInt 32 a).toNat = a.toNat
  rw [BitVec.toNat_ofInt]
  omega
theorem and_n {a : Int} (ha : 0 ≤ a ∧ a ≤ 2147483647) : xiand a 1 = a % 2 := by
  have h : xiand a 1 = Int.bmod ((Int32.ofInt a).toBitVec.toNat &&& (Int32.ofInt 1).toBitVec.toNat : Nat) (2 ^ 32) := BitVec.toInt_and _ _
  rw [h, show (Int32.ofInt 1).toBitVec.toNat = 1 by decide, Nat.and_one_is_mod, u32_n ha]
  unfold Int.bmod
  have h1 : ((a.toNat % 2 : Nat) : Int) = a % 2 := by omega
  rw [h1]
  have h2 : a % 2 % ((2 ^ 32 : Nat) : Int) = a % 2 := by omega
  rw [h2, if_pos (by omega)]
theorem bt_n {a k : Int} (ha : 0 ≤ a ∧ a ≤ 2147483647) (hk : 0 ≤ k ∧ k ≤ 15) : bt a k = decide (a / 2 ^ k.toNat % 2 = 1) := by
  have hp : (1 : Int) ≤ 2 ^ k.toNat := (pow_b hk.1 hk.2).1
  have h1 : 0 ≤ a / 2 ^ k.toNat := Int.ediv_nonneg ha.1 (by omega)
  have h2 : a / 2 ^ k.toNat ≤ a := Int.ediv_le_self _ ha.1
  unfold bt
  rw [shr_n ha hk, and_n ⟨h1, by omega⟩, wr_id (by omega) (by omega)]
theorem bt_hi {a k i : Int} (hk : 0 ≤ k ∧ k ≤ 15) (ha : 0 ≤ a ∧ a < 2 ^ k.toNat) (hi : k ≤ i ∧ i ≤ 15) : bt a i = false := by
  have hp := pow_b hk.1 hk.2
  have hq : (2 : Int) ^ k.toNat ≤ 2 ^ i.toNat := by
    have e : i.toNat = k.toNat + (i - k).toNat := by omega
    rw [e, Int.pow_add]
    have := (pow_b (k := i - k) (by omega) (by omega)).1
    have h3 := Int.mul_le_mul_of_nonneg_left this (show (0 : Int) ≤ 2 ^ k.toNat by omega)
    omega
  rw [bt_n ⟨ha.1, by omega⟩ ⟨by omega, hi.2⟩, Int.ediv_eq_zero_of_lt ha.1 (by omega)]
  rfl
theorem bt_lo {a k i : Int} (hk : 0 ≤ k ∧ k ≤ 15) (ha : 0 ≤ a ∧ a < 2 ^ k.toNat) (hi : 0 ≤ i ∧ i < k) : bt (a + 2 ^ k.toNat) i = bt a i := by
  have hp := pow_b hk.1 hk.2
  have hpi := pow_b hi.1 (show i ≤ 15 by omega)
  rw [bt_n ⟨by omega, by omega⟩ ⟨hi.1, by omega⟩, bt_n ⟨ha.1, by omega⟩ ⟨hi.1, by omega⟩]
  have e : (2 : Int) ^ k.toNat = 2 ^ i.toNat * (2 * 2 ^ (k - i - 1).toNat) := by
    rw [show k.toNat = i.toNat + ((k - i - 1).toNat + 1) by omega, Int.pow_add, Int.pow_succ, Int.mul_comm (2 ^ (k - i - 1).toNat) 2]
  rw [e, Int.add_mul_ediv_left _ _ (by omega)]
  have : (a / 2 ^ i.toNat + 2 * 2 ^ (k - i - 1).toNat) % 2 = a / 2 ^ i.toNat % 2 := by omega
  rw [this]
theorem bt_at {a k : Int} (hk : 0 ≤ k ∧ k ≤ 15) (ha : 0 ≤ a ∧ a < 2 ^ k.toNat) : bt (a + 2 ^ k.toNat) k = true := by
  have hp := pow_b hk.1 hk.2
  rw [bt_n ⟨by omega, by omega⟩ hk]
  have e : (a + 2 ^ k.toNat) / 2 ^ k.toNat = 1 := by
    have h := Int.add_mul_ediv_left a 1 (show (2 : Int) ^ k.toNat ≠ 0 by omega)
    rw [Int.mul_one] at h
    rw [h, Int.ediv_eq_zero_of_lt ha.1 ha.2]
    rfl
  rw [e]
  rfl
