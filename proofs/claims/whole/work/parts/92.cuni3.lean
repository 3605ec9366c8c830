/-! 92.cuni3: the developers' own: a new module, whole -/
section UK
variable {M : xm} {n : Nat} {kd rk : Int}
theorem c_unit (hR : inR M) (h : cnt M n) (hn : (n : Int) ≤ 23) (hk : 0 ≤ kd ∧ kd ≤ 10) (hr : 0 ≤ rk ∧ rk ≤ 4) (Q : Option xv → xm → Prop) (hg : ∀ M' I, uS M M' n kd rk I 9 → inK M' I (nin kd) → Q none M') : Wp qX8_init 0 [vR (uA n), vI n, vI kd, vI rk, vX] [] M Q := by
  obtain ⟨e1, e2, e3, e4⟩ := h.e
  have uz : ¬ uA n = 0 := tg_ne (TGf.1 _) (by decide)
  have q5 := fun M Q => c_init5 (M := M) (L := nowA n) (no_t _) Q
  have hb := nin_b kd
  have g : ∀ nn : Nat, (nn = 3 ∧ kd = 5) ∨ (nn = 2 ∧ ¬ kd = 5) → Wp qX8_init 65 [vR (uA n), vI n, vI kd, vI rk, vI 0] [] (unM M n kd rk nn) Q := fun nn q => l_ins n hk Q (fun M1 u1 i1 => l_past n Q (fun M2 u2 i2 => hg M2 _ u2 i2) 9 0 M1 (by decide) (by decide) u1 i1) (nin kd).toNat 0 _ (by omega) (by omega) (uS_0 hR h hn hk hr q) (fun j a b => by omega)
  unfold unM at g
  by_cases c5 : kd = 5
  · have g := g 3 (Or.inl ⟨rfl, c5⟩)
    simp (disch := first | omega | decide | (simp only [DT, DS, ne_eq, Nat.reduceEqDiff, not_false_eq_true]; done)) only [RX8_init, TGf, uz, no_t, q5, NW, e1, e2, e3, e4, c5, BW, wr_id, ↓reduceIte, TGs, Nat.reduceLeDiff, Nat.reduceLT, Nat.reduceAdd, OM, OE, PL, Int.toNat_natCast, Int.reduceToNat]
    rw [c5] at g
    exact g
  · have g := g 2 (Or.inr ⟨rfl, c5⟩)
    simp (disch := first | omega | decide | (simp only [DT, DS, ne_eq, Nat.reduceEqDiff, not_false_eq_true]; done)) only [RX8_init, TGf, uz, no_t, q5, NW, e1, e2, e3, e4, c5, BW, wr_id, ↓reduceIte, TGs, Nat.reduceLeDiff, Nat.reduceLT, Nat.reduceAdd, OM, OE, PL, Int.toNat_natCast, Int.reduceToNat]
    exact g
end UK
