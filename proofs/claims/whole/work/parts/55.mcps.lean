/-! 55.mcps: the reference's slots: all modules' states, copied -/
def mSl (M : xm) (b : Int) (A : Int → SS) : Prop := ∀ o, 0 ≤ o → o ≤ 23 → mS1 M (24 * b + o) (A o)
theorem cpS_a (M : xm) (f t : Int) (l j : Nat) : mA (cpSta M f t) l j = if l = amIn ∧ (480 * t).toNat ≤ j ∧ j < (480 * t).toNat + 480 then mA M amIn (j - (480 * t).toNat + (480 * f).toNat) else mA M l j := rfl
theorem cpS_b (M : xm) (f t : Int) (l j : Nat) : mB (cpSta M f t) l j = if l = amDb ∧ (1968 * t).toNat ≤ j ∧ j < (1968 * t).toNat + 1968 then mB M amDb (j - (1968 * t).toNat + (1968 * f).toNat) else mB M l j := rfl
theorem cpS_R {M : xm} (h : inR M) (f t : Int) : inR (cpSta M f t) := fun l j => by
  rw [cpS_a]
  split
  · exact h _ _
  · exact h _ _
/-- a state that is found elsewhere -/
theorem mS1_m {M M' : xm} {q p : Int} {s : SS} (h : mS1 M q s) (hq : 0 ≤ q ∧ 0 ≤ p) (h1 : ∀ i : Int, 0 ≤ i → i < 20 → mA M' amIn (20 * p + i).toNat = mA M amIn (20 * q + i).toNat) (h2 : ∀ i : Int, 0 ≤ i → i < 82 → mB M' amDb (82 * p + i).toNat = mB M amDb (82 * q + i).toNat) : mS1 M' p s := by
  have hr : ∀ r x, 0 ≤ r → r ≤ 4 → mRw M q r x → mRw M' p r x := fun r x r0 r1 hx => by
    cases x with
    | none =>
      have e := h1 (3 * r) (by omega) (by omega)
      exact e.trans hx
    | some w =>
      obtain ⟨a, b, c, d⟩ := hx
      have e0 := h1 (3 * r) (by omega) (by omega)
      have e1 := h1 (3 * r + 1) (by omega) (by omega)
      have e2 := h1 (3 * r + 2) (by omega) (by omega)
      rw [← Int.add_assoc, ← Int.add_assoc] at e1 e2
      refine ⟨e0.trans a, e1.trans b, e2.trans c, fun i i0 i1 => ?_⟩
      have e3 := h2 (16 * r + i) (by omega) (by omega)
      rw [← Int.add_assoc, ← Int.add_assoc] at e3
      exact e3.trans (d i i0 i1)
  obtain ⟨b1, b2, b3, b4, b5, b6, b7, b8⟩ := h
  exact ⟨hr 0 _ (by omega) (by omega) b1, (h1 15 (by omega) (by omega)).trans b2, (h2 80 (by omega) (by omega)).trans b3, (h2 81 (by omega) (by omega)).trans b4, (h1 16 (by omega) (by omega)).trans b5, (h1 17 (by omega) (by omega)).trans b6, (h1 18 (by omega) (by omega)).trans b7, fun j a b => hr j _ (by omega) b (b8 j a b)⟩
theorem cpS_to {M : xm} {f t : Int} {A : Int → SS} (h : mSl M f A) (hf : 0 ≤ f) (ht : 0 ≤ t) : mSl (cpSta M f t) t A := fun o a b => by
  refine mS1_m (h o a b) ⟨by omega, by omega⟩ (fun i i0 i1 => ?_) (fun i i0 i1 => ?_)
  · rw [cpS_a, if_pos ⟨rfl, by omega, by omega⟩, show (20 * (24 * t + o) + i).toNat - (480 * t).toNat + (480 * f).toNat = (20 * (24 * f + o) + i).toNat by omega]
  · rw [cpS_b, if_pos ⟨rfl, by omega, by omega⟩, show (82 * (24 * t + o) + i).toNat - (1968 * t).toNat + (1968 * f).toNat = (82 * (24 * f + o) + i).toNat by omega]
theorem cpS_o {M : xm} {f t b : Int} {A : Int → SS} (h : mSl M b A) (hb : 0 ≤ b) (ht : 0 ≤ t) (hne : ¬ b = t) : mSl (cpSta M f t) b A := fun o x y => by
  have hd : 480 * b + 480 ≤ 480 * t ∨ 480 * t + 480 ≤ 480 * b := by omega
  have hd2 : 1968 * b + 1968 ≤ 1968 * t ∨ 1968 * t + 1968 ≤ 1968 * b := by omega
  refine mS1_m (h o x y) ⟨by omega, by omega⟩ (fun i i0 i1 => ?_) (fun i i0 i1 => ?_)
  · rw [cpS_a, if_neg (by omega)]
  · rw [cpS_b, if_neg (by omega)]
