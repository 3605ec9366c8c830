/-! 57.mor2: the reference's order: a list; the DELAYS come first -/
def dlL (kd : Nat → Int) : Nat → List Int
  | 0 => []
  | m + 1 => if kd m = 6 then dlL kd m ++ [(m : Int)] else dlL kd m
theorem dlL_le (kd : Nat → Int) : ∀ m, (dlL kd m).length ≤ m
  | 0 => Nat.le_refl 0
  | m + 1 => by
    have h := dlL_le kd m
    unfold dlL
    split
    · rw [List.length_append]
      show _ + 1 ≤ _
      omega
    · omega
def orM (M : xm) (L : List Int) : Prop := ∀ i, i < L.length → mA M amOr i = L.getD i 0
def oG (M0 M : xm) : Prop := (∀ l j, ¬ l = amOr → mA M l j = mA M0 l j) ∧ mB M = mB M0 ∧ mR M = mR M0 ∧ mC M = mC M0 ∧ (mK M = mK M0 ∧ mS M = mS M0) ∧ inR M
theorem oG.refl {M : xm} (h : inR M) : oG M M := ⟨fun _ _ _ => rfl, rfl, rfl, rfl, ⟨rfl, rfl⟩, h⟩
theorem oG.w {M0 M : xm} (h : oG M0 M) (i : Nat) {x : Int} (hx : wr x = x) : oG M0 (wA M amOr i x) := by
  obtain ⟨a1, a2, a3, a4, a5, a6⟩ := h
  refine ⟨fun l j v => ?_, a2, a3, a4, a5, a6.wA _ _ hx⟩
  rw [wA_o _ _ (fun q => v q.1)]
  exact a1 l j v
theorem orM_a {M : xm} {L : List Int} (h : orM M L) (x : Int) : orM (wA M amOr L.length x) (L ++ [x]) := fun i hi => by
  rw [List.length_append] at hi
  have hi' : i < L.length + 1 := hi
  by_cases e : i = L.length
  · rw [e, wA_e, List.getD_eq_getElem?_getD, List.getElem?_append_right (Nat.le_refl _), Nat.sub_self]
    rfl
  · rw [wA_o _ _ (fun q => e q.2), List.getD_eq_getElem?_getD, List.getElem?_append_left (by omega), ← List.getD_eq_getElem?_getD]
    exact h i (by omega)
theorem l_ord1 {M0 : xm} {N : Int} (hs : mSt M0) (eN : mA M0 aM 3 = N) (hN : 0 ≤ N ∧ N ≤ 24) (Q : Option xv → xm → Prop) (hg : ∀ M x2, oG M0 M → orM M (dlL (mA M0 amKd) N.toNat) → Wp qX10_setOrder 39 [vR aM, vI ((dlL (mA M0 amKd) N.toNat).length : Int), x2, vX, vX] [] M Q) :
    ∀ (d : Nat) (k : Int) (M : xm), k + d = N → 0 ≤ k → oG M0 M → orM M (dlL (mA M0 amKd) k.toNat) → Wp qX10_setOrder 4 [vR aM, vI ((dlL (mA M0 amKd) k.toNat).length : Int), vI k, vX, vX] [] M Q
  | 0, k, M, hd, h0, hG, ho => by
    have hR' : ∀ L k, wr (mA M L k) = mA M L k := hG.2.2.2.2.2
    have hsM : mSt M := by
      unfold mSt at hs ⊢
      rw [hG.2.2.1]
      exact hs
    have e3 : mA M aM 3 = N := by rw [hG.1 _ _ (by decide)]; exact eN
    obtain rfl : k = N := by omega
    rw [HX10_setOrder_4]
    simp (disch := first | omega | (simp only [DT, DS, ne_eq, Nat.reduceEqDiff, not_false_eq_true]; done)) only [RX10_setOrder, BW, wr_id, OM, OE, PL, ↓reduceIte, mSt.e hsM, hR', TGs, e3, Nat.reduceLeDiff, Nat.reduceAdd]
    exact hg M _ hG ho
  | d + 1, k, M, hd, h0, hG, ho => by
    have hR' : ∀ L k, wr (mA M L k) = mA M L k := hG.2.2.2.2.2
    have hsM : mSt M := by
      unfold mSt at hs ⊢
      rw [hG.2.2.1]
      exact hs
    have e3 : mA M aM 3 = N := by rw [hG.1 _ _ (by decide)]; exact eN
    have ek : mA M amKd k.toNat = mA M0 amKd k.toNat := hG.1 _ _ (by decide)
    have ek6 : wr (mA M0 amKd k.toNat) = mA M0 amKd k.toNat := by rw [← ek]; exact hG.2.2.2.2.2 _ _
    have hl := dlL_le (mA M0 amKd) k.toNat
    have ih := fun M' => l_ord1 hs eN hN Q hg d (k + 1) M' (by omega) (by omega)
    rw [show (k + 1).toNat = k.toNat + 1 by omega] at ih
    rw [HX10_setOrder_4]
    by_cases c6 : mA M0 amKd k.toNat = 6
    · have e : dlL (mA M0 amKd) (k.toNat + 1) = dlL (mA M0 amKd) k.toNat ++ [k] := by
        rw [dlL, if_pos c6, show ((k.toNat : Nat) : Int) = k by omega]
      rw [e, List.length_append] at ih
      generalize dlL (mA M0 amKd) k.toNat = L at *
      have g := ih _ (hG.w L.length (wr_id (by omega) (by omega))) (orM_a ho k)
      simp (disch := first | omega | (simp only [DT, DS, ne_eq, Nat.reduceEqDiff, not_false_eq_true]; done)) only [RX10_setOrder, BW, wr_id, OM, OE, PL, ↓reduceIte, mSt.e hsM, hR', TGs, e3, ek, c6, Int.toNat_natCast, Nat.reduceLeDiff, Nat.reduceAdd]
      exact g
    · have e : dlL (mA M0 amKd) (k.toNat + 1) = dlL (mA M0 amKd) k.toNat := by
        rw [dlL, if_neg c6]
      rw [e] at ih
      simp (disch := first | omega | (simp only [DT, DS, ne_eq, Nat.reduceEqDiff, not_false_eq_true]; done)) only [RX10_setOrder, BW, wr_id, OM, OE, PL, ↓reduceIte, mSt.e hsM, hR', TGs, e3, ek, ek6, c6, Nat.reduceLeDiff, Nat.reduceAdd]
      exact ih M hG ho
