/-! 24.a: numbers decided by omega, fills, the reference's own places -/
theorem OM : (∀ a b : Int, a < b → (a < b) = True) ∧ (∀ a b : Int, b ≤ a → (a < b) = False) ∧ (∀ a b : Int, a ≤ b → (a ≤ b) = True) ∧ (∀ a b : Int, b < a → (a ≤ b) = False) :=
  ⟨fun _ _ h => eq_true h, fun _ _ h => eq_false (by omega), fun _ _ h => eq_true h, fun _ _ h => eq_false (by omega)⟩
theorem OE : (∀ a b : Int, a = b → (a = b) = True) ∧ (∀ a b : Int, ¬ a = b → (a = b) = False) := ⟨fun _ _ h => eq_true h, fun _ _ h => eq_false h⟩
/-- entries a .. b - 1 of L become f -/
def wF (M : xm) (L a b : Nat) (f : Nat → Int) : xm := (M.1, fun l j => if l = L ∧ a ≤ j ∧ j < b then f j else M.2.1 l j, M.2.2)
def wG (M : xm) (L a b : Nat) (f : Nat → UInt64) : xm := (M.1, M.2.1, fun l j => if l = L ∧ a ≤ j ∧ j < b then f j else M.2.2.1 l j, M.2.2.2)
theorem MF : (∀ (M : xm) (L a b : Nat) (f : Nat → Int) (l j : Nat), mA (wF M L a b f) l j = if l = L ∧ a ≤ j ∧ j < b then f j else mA M l j) ∧ (∀ (M : xm) (L a b : Nat) (f : Nat → Int), mB (wF M L a b f) = mB M) ∧ (∀ (M : xm) (L a b : Nat) (f : Nat → Int), mR (wF M L a b f) = mR M) ∧ (∀ (M : xm) (L a b : Nat) (f : Nat → Int), mC (wF M L a b f) = mC M) ∧
    (∀ (M : xm) (L a b : Nat) (f : Nat → UInt64) (l j : Nat), mB (wG M L a b f) l j = if l = L ∧ a ≤ j ∧ j < b then f j else mB M l j) ∧ (∀ (M : xm) (L a b : Nat) (f : Nat → UInt64), mA (wG M L a b f) = mA M) ∧ (∀ (M : xm) (L a b : Nat) (f : Nat → UInt64), mR (wG M L a b f) = mR M) ∧ (∀ (M : xm) (L a b : Nat) (f : Nat → UInt64), mC (wG M L a b f) = mC M) :=
  ⟨fun _ _ _ _ _ _ _ => rfl, fun _ _ _ _ _ => rfl, fun _ _ _ _ _ => rfl, fun _ _ _ _ _ => rfl, fun _ _ _ _ _ _ _ => rfl, fun _ _ _ _ _ => rfl, fun _ _ _ _ _ => rfl, fun _ _ _ _ _ => rfl⟩
theorem wF_0 (M : xm) (L a : Nat) (f : Nat → Int) : wF M L a a f = M := by
  unfold wF
  have h : (fun l j => if l = L ∧ a ≤ j ∧ j < a then f j else M.2.1 l j) = M.2.1 := by
    funext l j
    exact if_neg (by omega)
  rw [h]
theorem wF_s {M : xm} {L a b : Nat} {f : Nat → Int} (h : a < b) : wF (wA M L a (f a)) L (a + 1) b f = wF M L a b f := by
  unfold wF wA
  have h : (fun l j => if l = L ∧ a + 1 ≤ j ∧ j < b then f j else lz_up M.2.1 L a (f a) l j) = fun l j => if l = L ∧ a ≤ j ∧ j < b then f j else M.2.1 l j := by
    funext l j
    unfold lz_up
    by_cases h3 : l = L ∧ a + 1 ≤ j ∧ j < b
    · rw [if_pos h3, if_pos ⟨h3.1, by omega, h3.2.2⟩]
    · rw [if_neg h3]
      by_cases h4 : l = L ∧ j = a
      · rw [if_pos h4, if_pos ⟨h4.1, by omega, by omega⟩, h4.2]
      · rw [if_neg h4, if_neg (fun z => h3 ⟨z.1, by have : j ≠ a := fun w => h4 ⟨z.1, w⟩; omega, z.2.2⟩)]
  rw [h]
theorem wG_0 (M : xm) (L a : Nat) (f : Nat → UInt64) : wG M L a a f = M := by
  unfold wG
  have h : (fun l j => if l = L ∧ a ≤ j ∧ j < a then f j else M.2.2.1 l j) = M.2.2.1 := by
    funext l j
    exact if_neg (by omega)
  rw [h]
theorem wG_s {M : xm} {L a b : Nat} {f : Nat → UInt64} (h : a < b) : wG (wB M L a (f a)) L (a + 1) b f = wG M L a b f := by
  unfold wG wB
  have h : (fun l j => if l = L ∧ a + 1 ≤ j ∧ j < b then f j else lz_up M.2.2.1 L a (f a) l j) = fun l j => if l = L ∧ a ≤ j ∧ j < b then f j else M.2.2.1 l j := by
    funext l j
    unfold lz_up
    by_cases h3 : l = L ∧ a + 1 ≤ j ∧ j < b
    · rw [if_pos h3, if_pos ⟨h3.1, by omega, h3.2.2⟩]
    · rw [if_neg h3]
      by_cases h4 : l = L ∧ j = a
      · rw [if_pos h4, if_pos ⟨h4.1, by omega, by omega⟩, h4.2]
      · rw [if_neg h4, if_neg (fun z => h3 ⟨z.1, by have : j ≠ a := fun w => h4 ⟨z.1, w⟩; omega, z.2.2⟩)]
  rw [h]
/-- the reference's pointers -/
def mSt (M : xm) : Prop := mR M aM 1 = amDb ∧ mR M aM 2 = amIn ∧ mR M aM 4 = amKd ∧ mR M aM 5 = amRk ∧ mR M aM 6 = amKn ∧ mR M aM 7 = amCo ∧ mR M aM 8 = amTb ∧ mR M aM 9 = amTm ∧ mR M aM 13 = amOr ∧ mR M aM 14 = amTr ∧ mR M aM 20 = amPr ∧ mR M aM 21 = amPm ∧ mR M aM 23 = amTn ∧ mR M aM 24 = amTk ∧ mR M aM 25 = amTl ∧ mR M aM 26 = amTo ∧ mR M aM 27 = amTs ∧ mR M aM 29 = amFr ∧ mR M aM 30 = amFa
/-- what is true, what is false: plain words for simp -/
theorem PL : (∀ p : Prop, (True ∧ p) = p) ∧ (∀ p : Prop, (p ∧ True) = p) ∧ (∀ p : Prop, (False ∧ p) = False) ∧ (∀ p : Prop, (p ∧ False) = False) ∧ ((¬ True) = False) ∧ ((¬ False) = True) ∧ (∀ p : Prop, (True ∨ p) = True) ∧ (∀ p : Prop, (p ∨ True) = True) ∧ (∀ p : Prop, (False ∨ p) = p) ∧ (∀ p : Prop, (p ∨ False) = p) :=
  ⟨true_and, and_true, false_and, and_false, not_true_eq_false, not_false_eq_true, true_or, or_true, false_or, or_false⟩
theorem RD : (∀ a b : Nat, (a ≤ b) = (a ≤ b)) := fun _ _ => rfl
/-- every int that is kept is one -/
def inR (M : xm) : Prop := ∀ L k, wr (mA M L k) = mA M L k
theorem wr_b (x : Int) : -2147483648 ≤ wr x ∧ wr x ≤ 2147483647 := by unfold wr; omega
theorem inR.b {M : xm} (h : inR M) (L k : Nat) : -2147483648 ≤ mA M L k ∧ mA M L k ≤ 2147483647 := by rw [← h L k]; exact wr_b _
theorem wr_wr (x : Int) : wr (wr x) = wr x := wr_id (wr_b x).1 (wr_b x).2
theorem inR.wA {M : xm} (h : inR M) (L k : Nat) {x : Int} (hx : wr x = x) : inR (wA M L k x) := fun l j => by
  show wr (lz_up M.2.1 L k x l j) = lz_up M.2.1 L k x l j
  unfold lz_up
  split
  · exact hx
  · exact h l j
theorem inR.wF {M : xm} (h : inR M) (L a b : Nat) {f : Nat → Int} (hf : ∀ j, wr (f j) = f j) : inR (wF M L a b f) := fun l j => by
  show wr (if l = L ∧ a ≤ j ∧ j < b then f j else M.2.1 l j) = if l = L ∧ a ≤ j ∧ j < b then f j else M.2.1 l j
  split
  · exact hf j
  · exact h l j
theorem inR.wC {M : xm} (h : inR M) (a b c d n : Nat) : inR (wC M a b c d n) := fun l j => by
  show wr (if l = c ∧ d ≤ j ∧ j < d + n then M.2.1 a (b + (j - d)) else M.2.1 l j) = if l = c ∧ d ≤ j ∧ j < d + n then M.2.1 a (b + (j - d)) else M.2.1 l j
  split
  · exact h a _
  · exact h l j
theorem inR.nw {M : xm} (h : inR M) (t n c sl : Nat) : inR (nw M t n c sl) := fun l j => by
  show wr (if l = na M t n c then 0 else M.2.1 l j) = if l = na M t n c then 0 else M.2.1 l j
  split
  · rfl
  · exact h l j
theorem inR.wB {M : xm} (h : inR M) (L k : Nat) (x : UInt64) : inR (wB M L k x) := h
theorem inR.wR {M : xm} (h : inR M) (L k x : Nat) : inR (wR M L k x) := h
theorem inR.wG {M : xm} (h : inR M) (L a b : Nat) (f : Nat → UInt64) : inR (wG M L a b f) := h
