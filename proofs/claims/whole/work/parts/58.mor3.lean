/-! 58.mor3: the reference's order: who is ready -/
theorem hAF_c {f g : Nat → Int} {m : Int} : ∀ n, (∀ i, i < n → f i = g i) → hAF f m n = hAF g m n
  | 0, _ => rfl
  | n + 1, h => by
    rw [hAF, hAF, hAF_c n (fun i a => h i (by omega)), h n (by omega)]
theorem hAF_L (m : Int) : ∀ L : List Int, hAF (fun i => L.getD i 0) m L.length = (decide (m < 0) || L.contains m) := by
  intro L
  have key : ∀ n, n ≤ L.length → hAF (fun i => L.getD i 0) m n = (decide (m < 0) || (L.take n).contains m) := by
    intro n
    induction n with
    | zero =>
      intro _
      rw [hAF, List.take_zero]
      simp
    | succ n ih =>
      intro h
      rw [hAF, ih (by omega), List.take_succ]
      have e : L[n]? = some (L.getD n 0) := by
        rw [List.getD_eq_getElem?_getD, List.getElem?_eq_getElem (by omega)]
        rfl
      rw [e]
      simp [Bool.or_assoc, eq_comm]
  have h := key L.length (Nat.le_refl _)
  rwa [List.take_length] at h
theorem hAF_o {M : xm} {L : List Int} (h : orM M L) (m : Int) : hAF (mA M amOr) m L.length = (decide (m < 0) || L.contains m) := by
  rw [hAF_c L.length (fun i hi => h i hi)]
  exact hAF_L m L
/-- module m is ready, those of L having acted -/
def rdB (C : Nat → Nat → Int) (L : List Int) (m : Int) : Bool := (decide (C amCo (3 * m).toNat - 1 < 0) || L.contains (C amCo (3 * m).toNat - 1)) && (decide (C amCo (3 * m + 1).toNat - 1 < 0) || L.contains (C amCo (3 * m + 1).toNat - 1)) && (decide (C amCo (3 * m + 2).toNat - 1 < 0) || L.contains (C amCo (3 * m + 2).toNat - 1)) && !(decide (m < 0) || L.contains m)
/-- the least from k on that is ready (d of them are looked at); -1 if none is -/
def lrF (C : Nat → Nat → Int) (L : List Int) : Nat → Int → Int
  | 0, _ => -1
  | d + 1, k => if rdB C L k = true then k else lrF C L d (k + 1)
