/-! 9f.ycas: the law's cases -/
theorem rl_room {M : xm} {c : Int} (h : Rel M c) (hc : c ≤ 600) : mK M ≤ room_1.cells ∧ mS M ≤ room_1.slots := by
  obtain ⟨N, A, H, T, TK, rk, r1, r3, r4, r5, r6, r7, r8⟩ := h
  obtain ⟨a, b⟩ := r8
  refine ⟨?_, ?_⟩
  · show mK M ≤ 600000
    omega
  · show mS M ≤ 7302250
    omega
theorem i32 (x : Int32) : xval (vI x.toInt) = .int x := by
  show Value.int (Int32.ofInt x.toInt) = .int x
  rw [Int32.ofInt_toInt]
theorem i32_b (x : Int32) : -2147483648 ≤ x.toInt ∧ x.toInt ≤ 2147483647 := by
  have a := Int32.le_toInt x
  have b := Int32.toInt_lt x
  omega
