/-! 57.mor2: the reference's order: a list; the DELAYS come first -/
def dlL (kd : Nat → Int) : Nat → List Int
  | 0 => []
  | m + 1 => if kd m = 6 then dlL kd m ++ [(m : Int)] else dlL kd m
theorem dlL_le (kd : Nat → Int) : ∀ m, (dlL kd m).length ≤ m
  | 0 => Nat.le_refl 0
  | m + 1 => by
    have h := dlL_le kd m
    unfold dlL
    split
    · rw [List.length_append]
      show _ + 1 ≤ _
      omega
    · omega
def orM (M : xm) (L : List Int) : Prop := ∀ i, i < L.length → mA M amOr i = L.getD i 0
def oG (M0 M : xm) : Prop := (∀ l j, ¬ l = amOr → mA M l j = mA M0 l j) ∧ mB M = mB M0 ∧ mR M = mR M0 ∧ mC M = mC M0 ∧ (mK M = mK M0 ∧ mS M = mS M0) ∧ inR M
theorem oG.refl {M : xm} (h : inR M) : oG M M := ⟨fun _ _ _ => rfl, rfl, rfl, rfl, ⟨rfl, rfl⟩, h⟩
theorem oG.w {M0 M : xm} (h : oG M0 M) (i : Nat) {x : Int} (hx : wr x = x) : oG M0 (wA M amOr i x) := by
  obtain ⟨a1, a2, a3, a4, a5, a6⟩ := h
  refine ⟨fun l j v => ?_, a2, a3, a4, a5, a6.wA _ _ hx⟩
  rw [wA_o _ _ (fun q => v q.1)]
  exact a1 l j v
theorem orM_a {M : xm} {L : List Int} (h : orM M L) (x : Int) : orM (wA M amOr L.length x) (L ++ [x]) := fun i hi => by
  rw [List.length_append] at hi
  have hi' : i < L.length + 1 := hi
  by_cases e : i = L.length
  · rw [e, wA_e, List.getD_eq_getElem?_getD, List.getElem?_append_right (Nat.le_refl _), Nat.sub_self]
    rfl
  · rw [wA_o _ _ (fun q => e q.2), List.getD_eq_getElem?_getD, List.getElem?_append_left (by omega), ← List.getD_eq_getElem?_getD]
    exact h i (by omega)
