/-! 9h.yloop: the law's loop (written by wip/whole/gen9h.py) -/
theorem in_at {i v : Int32} {L : Nat} {n k : Int} (h1 : i.toInt = n) (hv : v.toInt = k) (h2 : 0 ≤ n + k ∧ n + k < 2147483648) (h3 : n + k < L) : vp_in (i + v) L := by
  have e : (i + v).toInt = n + k := by
    rw [Int32.toInt_add, h1, hv]
    apply Int.bmod_eq_of_le <;> omega
  unfold vp_in
  intro h
  rcases h with h | h
  · have := Int32.lt_iff_toInt_lt.mp h
    rw [e] at this
    have z : (0 : Int32).toInt = 0 := by decide
    omega
  · have f : (i + v).toNatClampNeg = (n + k).toNat := by
      show (i + v).toInt.toNat = _
      rw [e]
    rw [f] at h
    omega
theorem i_sub4 {L : Nat} (hL : L ≤ 2048) : (Int32.ofNat L - 4).toInt = (L : Int) - 4 := by
  have e : (Int32.ofNat L).toInt = (L : Int) := by
    apply Int32.toInt_ofNat_of_lt
    omega
  rw [Int32.toInt_sub, e, show (4 : Int32).toInt = 4 by decide]
  apply Int.bmod_eq_of_le <;> omega
theorem i_add4 {i : Int32} {n : Int} (h1 : i.toInt = n) (h2 : 0 ≤ n ∧ n ≤ 4096) : (i + 4).toInt = n + 4 := by
  rw [Int32.toInt_add, h1, show (4 : Int32).toInt = 4 by decide]
  apply Int.bmod_eq_of_le <;> omega
section YM
variable {sa L : Nat} {xs : Nat → Int32}
variable {p : Program} {l : Launch} {e : Env} {s : State} {m : MethodId} {args : Array Value} {below : List Frame} {meth : Method} {c : Code} {D : va_G} {dA : Nat → ClassId} {b : Nat} {T0 : lz_T} {ad0 : Nat → Nat} {Q : State → Prop} {kc ks : Nat} {T : lz_T} {A : lz_A} {B : lz_B} {R : lz_R} {ret : Option FieldType} 
theorem law_loop (hL : L ≤ 2048) (C : lz_C p s m args meth c D dA b yL_law cL_law 8 ret) (S : lw_S sa L xs s b) (kend : ∀ (M : xm) (n : Int) (i : Int32), Rel M n → n ≤ 600 → lz_Y sa p l e room_1 s m args below meth c D dA b 8 T0 ad0 Q (mK M) (mS M) (xT M) (xA M) (mB M) (xR M) 725 [(3, .int i), (2, .ref aM), (1, .ref aX)] []) : ∀ (k : Nat) (M : xm) (n : Int) (i : Int32) (j : Int), Rel M n → i.toInt = j → 0 ≤ n → 4 * n ≤ j → j ≤ 2048 → (L : Int) - j ≤ k → lz_Y sa p l e room_1 s m args below meth c D dA b 8 T0 ad0 Q (mK M) (mS M) (xT M) (xA M) (mB M) (xR M) 18 [(3, .int i), (2, .ref aM), (1, .ref aX)] [] := by
  intro k
  induction k with
  | zero =>
    intro M n i j h ej h0 h1 h2 h3
    refine y_iload_n (pc := 18) C 0 dL_law_18 rfl ?_
    refine y_len (pc := 19) C S dL_law_19 dL_law_20 ?_
    refine y_iconst (pc := 21) (v := 4) C dL_law_21 (by decide) ?_
    refine y_isub (pc := 22) C dL_law_22 ?_
    refine y_icmp_gt (pc := 23) C 725 dL_law_23 (by decide) (fun _ => kend M n i h (by omega)) (fun hh => ?_)
    exfalso
    apply hh
    apply Int32.lt_iff_toInt_lt.mpr
    rw [i_sub4 hL, ej]
    omega
  | succ k ih =>
    intro M n i j h ej h0 h1 h2 h3
    refine y_iload_n (pc := 18) C 0 dL_law_18 rfl ?_
    refine y_len (pc := 19) C S dL_law_19 dL_law_20 ?_
    refine y_iconst (pc := 21) (v := 4) C dL_law_21 (by decide) ?_
    refine y_isub (pc := 22) C dL_law_22 ?_
    refine y_icmp_gt (pc := 23) C 725 dL_law_23 (by decide) (fun _ => kend M n i h (by omega)) (fun hh => ?_)
    have hj : j ≤ (L : Int) - 4 := by
      have g : ¬ (Int32.ofNat L - 4).toInt < i.toInt := fun q => hh (Int32.lt_iff_toInt_lt.mpr q)
      rw [i_sub4 hL, ej] at g
      omega
    have i0 : vp_in i L := by
      have g := in_at (L := L) (v := 0) (k := 0) ej (by decide) (by omega) (by omega)
      rw [Int32.add_zero] at g
      exact g
    have i1 : vp_in (i + 1) L := in_at (k := 1) ej (by decide) (by omega) (by omega)
    have i2 : vp_in (i + 2) L := in_at (k := 2) ej (by decide) (by omega) (by omega)
    have i3 : vp_in (i + 3) L := in_at (k := 3) ej (by decide) (by omega) (by omega)
    have hn : 0 ≤ n ∧ n ≤ 512 := by omega
    have hk0 : ∀ (M' : xm) (n' : Int), Rel M' n' → 0 ≤ n' → n' ≤ n + 1 → lz_Y sa p l e room_1 s m args below meth c D dA b 8 T0 ad0 Q (mK M') (mS M') (xT M') (xA M') (mB M') (xR M') 719 [(3, .int i), (2, .ref aM), (1, .ref aX)] [] := by
      intro M' n' h' g0 g1
      refine y_iinc (pc := 719) (v := i + 4) (lv' := [(3, .int (i + 4)), (2, .ref aM), (1, .ref aX)]) C 0 dL_law_719 rfl rfl (by decide) rfl rfl ?_
      refine y_goto (pc := 722) C 18 dL_law_722 (by decide) ?_
      exact ih M' n' (i + 4) (j + 4) h' (i_add4 ej (by omega)) g0 (by omega) (by omega) (by omega)
    have hk : ∀ M' : xm, Rel M' (n + 1) → lz_Y sa p l e room_1 s m args below meth c D dA b 8 T0 ad0 Q (mK M') (mS M') (xT M') (xA M') (mB M') (xR M') 719 [(3, .int i), (2, .ref aM), (1, .ref aX)] [] := fun M' h' => hk0 M' (n + 1) h' (by omega) (by omega)
    refine y_s0 (pc := 26) C S 0 rfl i0 dL_law_26 dL_law_27 dL_law_28 ?_
    refine y_bipush (pc := 29) (v := 31) C dL_law_29 (by decide) ?_
    refine y_iand (pc := 31) C dL_law_31 ?_
    generalize xs i.toNatClampNeg &&& 31 = w
    by_cases hw : w.toInt < 0 ∨ 18 < w.toInt
    · exact y_tableOut (pc := 32) C 719 dL_law_32 hw (by decide) (hk0 M n h h0 (by omega))
    · obtain ⟨z, ez⟩ : ∃ z, w.toInt = z := ⟨_, rfl⟩
      rw [ez] at hw
      have hz : z = 0 ∨ z = 1 ∨ z = 2 ∨ z = 3 ∨ z = 4 ∨ z = 5 ∨ z = 6 ∨ z = 7 ∨ z = 8 ∨ z = 9 ∨ z = 10 ∨ z = 11 ∨ z = 12 ∨ z = 13 ∨ z = 14 ∨ z = 15 ∨ z = 16 ∨ z = 17 ∨ z = 18 := by omega
      rcases hz with hz | hz | hz | hz | hz | hz | hz | hz | hz | hz | hz | hz | hz | hz | hz | hz | hz | hz | hz
      · subst hz
        exact y_tableIn (pc := 32) (off := 92) C 124 dL_law_32 (by rw [ez]; decide) (by rw [ez]; decide) (by rw [ez]; rfl) (by decide) (k_module C S h hn i1 i2 hk)
      · subst hz
        exact y_tableIn (pc := 32) (off := 125) C 157 dL_law_32 (by rw [ez]; decide) (by rw [ez]; decide) (by rw [ez]; rfl) (by decide) (k_cord C S h hn i1 i2 i3 hk)
      · subst hz
        exact y_tableIn (pc := 32) (off := 168) C 200 dL_law_32 (by rw [ez]; decide) (by rw [ez]; decide) (by rw [ez]; rfl) (by decide) (k_from C S h hn i1 i2 hk)
      · subst hz
        exact y_tableIn (pc := 32) (off := 201) C 233 dL_law_32 (by rw [ez]; decide) (by rw [ez]; decide) (by rw [ez]; rfl) (by decide) (k_knob C S h hn i1 i2 i3 hk)
      · subst hz
        exact y_tableIn (pc := 32) (off := 244) C 276 dL_law_32 (by rw [ez]; decide) (by rw [ez]; decide) (by rw [ez]; rfl) (by decide) (k_table C S h hn i1 i2 hk)
      · subst hz
        exact y_tableIn (pc := 32) (off := 277) C 309 dL_law_32 (by rw [ez]; decide) (by rw [ez]; decide) (by rw [ez]; rfl) (by decide) (k_write C S h hn i1 i2 i3 hk)
      · subst hz
        exact y_tableIn (pc := 32) (off := 320) C 352 dL_law_32 (by rw [ez]; decide) (by rw [ez]; decide) (by rw [ez]; rfl) (by decide) (k_block C S h hn i1 hk)
      · subst hz
        exact y_tableIn (pc := 32) (off := 343) C 375 dL_law_32 (by rw [ez]; decide) (by rw [ez]; decide) (by rw [ez]; rfl) (by decide) (k_back C S h hn i1 hk)
      · subst hz
        exact y_tableIn (pc := 32) (off := 366) C 398 dL_law_32 (by rw [ez]; decide) (by rw [ez]; decide) (by rw [ez]; rfl) (by decide) (k_keep C S h hn i1 hk)
      · subst hz
        exact y_tableIn (pc := 32) (off := 389) C 421 dL_law_32 (by rw [ez]; decide) (by rw [ez]; decide) (by rw [ez]; rfl) (by decide) (k_recall C S h hn i1 hk)
      · subst hz
        exact y_tableIn (pc := 32) (off := 412) C 444 dL_law_32 (by rw [ez]; decide) (by rw [ez]; decide) (by rw [ez]; rfl) (by decide) (k_take C S h hn i1 hk)
      · subst hz
        exact y_tableIn (pc := 32) (off := 435) C 467 dL_law_32 (by rw [ez]; decide) (by rw [ez]; decide) (by rw [ez]; rfl) (by decide) (k_equal C S h hn i1 i2 hk)
      · subst hz
        exact y_tableIn (pc := 32) (off := 468) C 500 dL_law_32 (by rw [ez]; decide) (by rw [ez]; decide) (by rw [ez]; rfl) (by decide) (k_row C S h hn i1 i2 hk)
      · subst hz
        exact y_tableIn (pc := 32) (off := 501) C 533 dL_law_32 (by rw [ez]; decide) (by rw [ez]; decide) (by rw [ez]; rfl) (by decide) (k_sample C S h hn i1 i2 hk)
      · subst hz
        exact y_tableIn (pc := 32) (off := 562) C 594 dL_law_32 (by rw [ez]; decide) (by rw [ez]; decide) (by rw [ez]; rfl) (by decide) (k_isNone C S h hn i1 i2 hk)
      · subst hz
        exact y_tableIn (pc := 32) (off := 595) C 627 dL_law_32 (by rw [ez]; decide) (by rw [ez]; decide) (by rw [ez]; rfl) (by decide) (k_order C S h hn i1 hk)
      · subst hz
        exact y_tableIn (pc := 32) (off := 618) C 650 dL_law_32 (by rw [ez]; decide) (by rw [ez]; decide) (by rw [ez]; rfl) (by decide) (k_trace C S h hn i1 hk)
      · subst hz
        exact y_tableIn (pc := 32) (off := 641) C 673 dL_law_32 (by rw [ez]; decide) (by rw [ez]; decide) (by rw [ez]; rfl) (by decide) (k_finding C S h hn i1 hk)
      · subst hz
        exact y_tableIn (pc := 32) (off := 664) C 696 dL_law_32 (by rw [ez]; decide) (by rw [ez]; decide) (by rw [ez]; rfl) (by decide) (k_count C S h hn i1 hk)
end YM
