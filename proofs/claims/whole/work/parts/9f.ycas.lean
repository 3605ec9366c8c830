/-! 9f.ycas: the law's cases -/
theorem rl_room {M : xm} {c : Int} (h : Rel M c) (hc : c ≤ 600) : mK M ≤ room_1.cells ∧ mS M ≤ room_1.slots := by
  obtain ⟨N, A, H, T, TK, rk, r1, r3, r4, r5, r6, r7, r8⟩ := h
  obtain ⟨a, b⟩ := r8
  refine ⟨?_, ?_⟩
  · show mK M ≤ 600000
    omega
  · show mS M ≤ 7302250
    omega
theorem i32 (x : Int32) : xval (vI x.toInt) = .int x := by
  show Value.int (Int32.ofInt x.toInt) = .int x
  rw [Int32.ofInt_toInt]
theorem i32_b (x : Int32) : -2147483648 ≤ x.toInt ∧ x.toInt ≤ 2147483647 := by
  have a := Int32.le_toInt x
  have b := Int32.toInt_lt x
  omega
theorem xT_al {M : xm} {N : Nat} (h : (xT M N).1 ≠ 0) : xT M N = (N % 64, N / 64 % 32768) := by
  unfold xT at h ⊢
  by_cases c : N % 64 ≠ 0 ∧ N / 274877906944 < mC M (N % 274877906944)
  · rw [if_pos c]
  · rw [if_neg c] at h
    exact absurd rfl h
section YK
variable {sa L : Nat} {xs : Nat → Int32} {Rm : Room} {nL pc : Nat} {lv : List (Nat × Value)} {st : List Value}
variable {p : Program} {l : Launch} {e : Env} {s : State} {m : MethodId} {args : Array Value} {below : List Frame} {meth : Method} {c : Code} {D : va_G} {dA : Nat → ClassId} {b : Nat} {T0 : lz_T} {ad0 : Nat → Nat} {Q : State → Prop} {kc ks : Nat} {T : lz_T} {A : lz_A} {B : lz_B} {R : lz_R} {ret : Option FieldType} 
theorem y_asm (h : lz_okl T lv → lz_Y sa p l e Rm s m args below meth c D dA b nL T0 ad0 Q kc ks T A B R pc lv st) : lz_Y sa p l e Rm s m args below meth c D dA b nL T0 ad0 Q kc ks T A B R pc lv st :=
  fun H locs la cells slots ad h1 h2 h3 h4 h5 h6 h7 h8 => h h7 H locs la cells slots ad h1 h2 h3 h4 h5 h6 h7 h8
theorem al_X {M : xm} {i : Int32} (h : lz_okl (xT M) [(3, .int i), (2, .ref aM), (1, .ref aX)]) : xT M aX = (1 + 9, 0) ∧ xT M aM = (1 + 10, 0) := by
  have h1 := h (1, .ref aX) (by simp) aX rfl
  have h2 := h (2, .ref aM) (by simp) aM rfl
  exact ⟨xT_al h1, xT_al h2⟩
end YK
