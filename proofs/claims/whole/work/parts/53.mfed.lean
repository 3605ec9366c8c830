/-! 53.mfed: the reference's feed -/
def fdS (s : SS) (x : Option Rw) : SS := (sR s, sP s, sK s, sO s, sU s, sN s, sB s, fun j => if j = 1 then x else if 2 ≤ j ∧ j ≤ 4 then sF s (j - 1) else sF s j)
def fdA (C : Nat → Nat → Int) (N : Int) (A : Int → SS) : Int → SS := fun m => if m < N ∧ C amKd m.toNat = 6 then fdS (A m) (iRw A (C amCo (3 * m).toNat)) else A m
theorem fed_ok {t : Int} {s : SS} {x : Option Rw} (h : okS t s) (hx : okO x) : okS t (fdS s x) := by
  obtain ⟨g1, g2, g3, g4, g5, g6, g7⟩ := h
  refine ⟨g1, g2, g3, g4, g5, g6, fun j a b => ?_⟩
  show okO (if j = 1 then x else if 2 ≤ j ∧ j ≤ 4 then sF s (j - 1) else sF s j)
  by_cases e : j = 1
  · rw [if_pos e]
    exact hx
  · rw [if_neg e, if_pos (by omega)]
    exact g7 (j - 1) (by omega) (by omega)
/-- what feeding module m may change -/
def dG (M0 : xm) (m : Int) (M : xm) : Prop := (∀ l j, ¬ (l = amIn ∧ (20 * m + 3).toNat ≤ j ∧ j < (20 * m + 15).toNat) → mA M l j = mA M0 l j) ∧ (∀ l j, ¬ (l = amDb ∧ (82 * m + 16).toNat ≤ j ∧ j < (82 * m + 80).toNat) → mB M l j = mB M0 l j) ∧ mR M = mR M0 ∧ mC M = mC M0 ∧ (mK M = mK M0 ∧ mS M = mS M0) ∧ inR M
theorem dG.refl {M : xm} (m : Int) (h : inR M) : dG M m M := ⟨fun _ _ _ => rfl, fun _ _ _ => rfl, rfl, rfl, ⟨rfl, rfl⟩, h⟩
theorem dG.cp {M0 M : xm} {m : Int} (h : dG M0 m M) (f r : Int) {u : Int} (hm : 0 ≤ m) (hu : 1 ≤ u ∧ u ≤ 4) : dG M0 m (cpRow M f r m u) := by
  obtain ⟨a1, a2, a3, a4, a5, a6⟩ := h
  refine ⟨fun l j x => ?_, fun l j x => ?_, a3, a4, a5, cpRow_R a6 _ _ _ _⟩
  · rw [cpRow_a, if_neg (fun q => x ⟨q.1, by omega, by omega⟩)]
    exact a1 l j x
  · rw [cpRow_b, if_neg (fun q => x ⟨q.1, by omega, by omega⟩)]
    exact a2 l j x
theorem cp_o {M : xm} {f r t u q v : Int} {x : Option Rw} (h : mRw M q v x) (ht : 0 ≤ t ∧ 0 ≤ q) (hu : 0 ≤ u ∧ u ≤ 4) (hv : 0 ≤ v ∧ v ≤ 4) (hne : ¬ (q = t ∧ v = u)) : mRw (cpRow M f r t u) q v x := by
  have hd : 20 * q + 3 * v + 2 < 20 * t + 3 * u ∨ 20 * t + 3 * u + 2 < 20 * q + 3 * v := by rcases (show q < t ∨ q = t ∨ t < q by omega) with e | e | e <;> omega
  have hd2 : 82 * q + 16 * v + 15 < 82 * t + 16 * u ∨ 82 * t + 16 * u + 15 < 82 * q + 16 * v := by rcases (show q < t ∨ q = t ∨ t < q by omega) with e | e | e <;> omega
  exact mRw_c h (fun j a b => by rw [cpRow_a, if_neg (by omega)]) (fun j a b => by rw [cpRow_b, if_neg (by omega)]) ⟨ht.2, hv.1⟩
theorem fd_put {M M' : xm} {m : Int} {s : SS} {x : Option Rw} (h : mS1 M m s) (hm : 0 ≤ m ∧ m ≤ 23) (hg : dG M m M') (h1 : mRw M' m 1 x) (h2 : mRw M' m 2 (sF s 1)) (h3 : mRw M' m 3 (sF s 2)) (h4 : mRw M' m 4 (sF s 3)) : mS1 M' m (fdS s x) := by
  obtain ⟨b1, b2, b3, b4, b5, b6, b7, b8⟩ := h
  refine ⟨mRw_c b1 (fun j a b => hg.1 _ _ (by omega)) (fun j a b => hg.2.1 _ _ (by omega)) ⟨hm.1, by omega⟩, ?_, ?_, ?_, ?_, ?_, ?_, fun j a b => ?_⟩
  · rw [hg.1 _ _ (by omega)]; exact b2
  · rw [hg.2.1 _ _ (by omega)]; exact b3
  · rw [hg.2.1 _ _ (by omega)]; exact b4
  · rw [hg.1 _ _ (by omega)]; exact b5
  · rw [hg.1 _ _ (by omega)]; exact b6
  · rw [hg.1 _ _ (by omega)]; exact b7
  · rcases (show j = 1 ∨ j = 2 ∨ j = 3 ∨ j = 4 by omega) with rfl | rfl | rfl | rfl
    · exact h1
    · exact h2
    · exact h3
    · exact h4
theorem fd_rows {M : xm} {m : Int} {s : SS} (h : mS1 M m s) (hm : 0 ≤ m ∧ m ≤ 23) (hR : inR M) : dG M m (cpRow (cpRow (cpRow M m 3 m 4) m 2 m 3) m 1 m 2) ∧ mRw (cpRow (cpRow (cpRow M m 3 m 4) m 2 m 3) m 1 m 2) m 2 (sF s 1) ∧ mRw (cpRow (cpRow (cpRow M m 3 m 4) m 2 m 3) m 1 m 2) m 3 (sF s 2) ∧ mRw (cpRow (cpRow (cpRow M m 3 m 4) m 2 m 3) m 1 m 2) m 4 (sF s 3) := by
  have b := h.2.2.2.2.2.2.2
  have r1 := b 1 (by omega) (by omega)
  have r2 := b 2 (by omega) (by omega)
  have r3 := b 3 (by omega) (by omega)
  have p := hm.1
  refine ⟨(((dG.refl m hR).cp m 3 p (by omega)).cp m 2 p (by omega)).cp m 1 p (by omega), ?_, ?_, ?_⟩
  · exact cpRow_w (cp_o (cp_o r1 ⟨p, p⟩ (by omega) (by omega) (by omega)) ⟨p, p⟩ (by omega) (by omega) (by omega)) ⟨p, by omega⟩ ⟨p, by omega⟩
  · exact cp_o (cpRow_w (cp_o r2 ⟨p, p⟩ (by omega) (by omega) (by omega)) ⟨p, by omega⟩ ⟨p, by omega⟩) ⟨p, p⟩ (by omega) (by omega) (by omega)
  · exact cp_o (cp_o (cpRow_w r3 ⟨p, by omega⟩ ⟨p, by omega⟩) ⟨p, p⟩ (by omega) (by omega) (by omega)) ⟨p, p⟩ (by omega) (by omega) (by omega)
