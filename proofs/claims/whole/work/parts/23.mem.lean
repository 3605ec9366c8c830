/-! 23.mem: reading what was written -/
theorem MM : (∀ (M : xm) (L k : Nat) (x : Int) (l j : Nat), mA (wA M L k x) l j = if l = L ∧ j = k then x else mA M l j) ∧ (∀ (M : xm) (L k : Nat) (x : Int), mB (wA M L k x) = mB M) ∧ (∀ (M : xm) (L k : Nat) (x : Int), mR (wA M L k x) = mR M) ∧ (∀ (M : xm) (L k : Nat) (x : Int), mC (wA M L k x) = mC M) ∧
    (∀ (M : xm) (L k : Nat) (x : UInt64) (l j : Nat), mB (wB M L k x) l j = if l = L ∧ j = k then x else mB M l j) ∧ (∀ (M : xm) (L k : Nat) (x : UInt64), mA (wB M L k x) = mA M) ∧ (∀ (M : xm) (L k : Nat) (x : UInt64), mR (wB M L k x) = mR M) ∧ (∀ (M : xm) (L k : Nat) (x : UInt64), mC (wB M L k x) = mC M) ∧
    (∀ (M : xm) (L k : Nat) (x : Nat) (l j : Nat), mR (wR M L k x) l j = if l = L ∧ j = k then x else mR M l j) ∧ (∀ (M : xm) (L k : Nat) (x : Nat), mA (wR M L k x) = mA M) ∧ (∀ (M : xm) (L k : Nat) (x : Nat), mB (wR M L k x) = mB M) ∧ (∀ (M : xm) (L k : Nat) (x : Nat), mC (wR M L k x) = mC M) ∧
    (∀ (M : xm) (a b c d n l j : Nat), mA (wC M a b c d n) l j = if l = c ∧ d ≤ j ∧ j < d + n then mA M a (b + (j - d)) else mA M l j) ∧ (∀ (M : xm) (a b c d n : Nat), mB (wC M a b c d n) = mB M) ∧ (∀ (M : xm) (a b c d n : Nat), mR (wC M a b c d n) = mR M) ∧ (∀ (M : xm) (a b c d n : Nat), mC (wC M a b c d n) = mC M) ∧
    (∀ (M : xm) (t n c sl l j : Nat), mA (nw M t n c sl) l j = if l = na M t n c then 0 else mA M l j) ∧ (∀ (M : xm) (t n c sl l j : Nat), mB (nw M t n c sl) l j = if l = na M t n c then 0 else mB M l j) ∧ (∀ (M : xm) (t n c sl l j : Nat), mR (nw M t n c sl) l j = if l = na M t n c then 0 else mR M l j) ∧ (∀ (M : xm) (t n c sl k : Nat), mC (nw M t n c sl) k = if k = ky t n c then mC M k + 1 else mC M k) :=
  ⟨fun _ _ _ _ _ _ => rfl, fun _ _ _ _ => rfl, fun _ _ _ _ => rfl, fun _ _ _ _ => rfl, fun _ _ _ _ _ _ => rfl, fun _ _ _ _ => rfl, fun _ _ _ _ => rfl, fun _ _ _ _ => rfl, fun _ _ _ _ _ _ => rfl, fun _ _ _ _ => rfl, fun _ _ _ _ => rfl, fun _ _ _ _ => rfl, fun _ _ _ _ _ _ _ _ => rfl, fun _ _ _ _ _ _ => rfl, fun _ _ _ _ _ _ => rfl, fun _ _ _ _ _ _ => rfl, fun _ _ _ _ _ _ _ => rfl, fun _ _ _ _ _ _ _ => rfl, fun _ _ _ _ _ _ _ => rfl, fun _ _ _ _ _ _ => rfl⟩
theorem KS : (∀ (M : xm) (L k : Nat) (x : Int), mK (wA M L k x) = mK M) ∧ (∀ (M : xm) (L k : Nat) (x : UInt64), mK (wB M L k x) = mK M) ∧ (∀ (M : xm) (L k x : Nat), mK (wR M L k x) = mK M) ∧ (∀ (M : xm) (a b c d n : Nat), mK (wC M a b c d n) = mK M) ∧ (∀ (M : xm) (t n c sl : Nat), mK (nw M t n c sl) = mK M + 1) ∧ (∀ (M : xm) (L k : Nat) (x : Int), mS (wA M L k x) = mS M) ∧ (∀ (M : xm) (L k : Nat) (x : UInt64), mS (wB M L k x) = mS M) ∧ (∀ (M : xm) (L k x : Nat), mS (wR M L k x) = mS M) ∧ (∀ (M : xm) (a b c d n : Nat), mS (wC M a b c d n) = mS M) ∧ (∀ (M : xm) (t n c sl : Nat), mS (nw M t n c sl) = mS M + sl) :=
  ⟨fun _ _ _ _ => rfl, fun _ _ _ _ => rfl, fun _ _ _ _ => rfl, fun _ _ _ _ _ _ => rfl, fun _ _ _ _ _ => rfl, fun _ _ _ _ => rfl, fun _ _ _ _ => rfl, fun _ _ _ _ => rfl, fun _ _ _ _ _ _ => rfl, fun _ _ _ _ _ => rfl⟩
theorem BW : (∀ x, cl (vI x) = vI x) ∧ (∀ x, cl (vR x) = vR x) ∧ (cl vX = vX) ∧ (∀ x, cl (vD x) = vX) ∧ (∀ x, cl (vJ x) = vX) ∧ (cs [] = 0) ∧ (∀ x l, cs (vI x :: l) = 1 + cs l) ∧ (∀ x l, cs (vR x :: l) = 1 + cs l) ∧ (∀ x l, cs (vD x :: l) = 2 + cs l) ∧ (∀ x l, cs (vJ x :: l) = 2 + cs l) ∧ (∀ (q : xq) (pc : Nat) (lv st : List xv) (Q : Option xv → xm → Prop) (M : xm), cont q pc lv st Q none M ↔ Wp q pc lv st M Q) ∧ (∀ (q : xq) (pc : Nat) (lv st : List xv) (Q : Option xv → xm → Prop) (M : xm) (v : xv), cont q pc lv st Q (some v) M ↔ Wp q pc lv (v :: st) M Q) :=
  ⟨cl_I, cl_R, cl_X, cl_D, cl_J, cs_n, cs_I, cs_R, cs_D, cs_J, fun _ _ _ _ _ _ => cont_n, fun _ _ _ _ _ _ _ => cont_s⟩
/-- a truth as 1 or 0 -/
noncomputable def bi (p : Prop) : Int := @ite _ p (Classical.propDecidable p) 1 0
theorem bi_t {p : Prop} (h : p) : bi p = 1 := if_pos h
theorem bi_f {p : Prop} (h : ¬ p) : bi p = 0 := if_neg h
theorem bi_T : bi True = 1 := if_pos trivial
theorem bi_F : bi False = 0 := if_neg id
theorem bi_01 (p : Prop) : bi p = 0 ∨ bi p = 1 := by
  by_cases h : p
  · exact Or.inr (bi_t h)
  · exact Or.inl (bi_f h)
theorem wr_bi (p : Prop) : (wr (bi p) = 0) = ¬ p := by
  by_cases h : p
  · rw [bi_t h]; simp [h, wr]
  · rw [bi_f h]; simp [h, wr]
