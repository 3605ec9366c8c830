/-! 83.tset: both answer alike: knob, table, write, keep, recall, take -/
section F32
variable {M M' : xm} {N c : Int}
theorem Rel_32 {D : Nat → Prop} {A : Int → SS} {H : Int → Int → SS} {T : Int} {TK : Int → Rw} (hD : ∀ l, D l → tg l = 32 ∧ ¬ l = amIn ∧ ¬ l = amTn ∧ ¬ l = amTk ∧ ¬ l = amTl ∧ ¬ l = amTo ∧ ¬ l = aMarks ∧ ¬ l = amTr) (ha : ∀ l j, ¬ D l → mA M' l j = mA M l j) (e : mB M' = mB M ∧ mR M' = mR M ∧ mC M' = mC M ∧ mK M' = mK M ∧ mS M' = mS M) (r3 : R3 M N c A H) (r4 : R4 M T TK) (r6 : R6 M) (r7 : R7 M N) (r8 : R8 M c) : R3 M' N c A H ∧ R4 M' T TK ∧ R6 M' ∧ R7 M' N ∧ R8 M' c := by
  obtain ⟨e1, e2, e3, e4, e5⟩ := e
  have tx : ∀ l j, ¬ tg l = 32 → mA M' l j = mA M l j := fun l j t => ha l j (fun q => t (hD l q).1)
  have hrow : rowG M M' := ⟨fun k => by rw [e3]; exact Nat.le_refl _, fun l j _ t => ⟨tx l j (by rw [t]; decide), by rw [e2]⟩, fun _ _ _ _ _ => by rw [e1]⟩
  refine ⟨R3_c r3 hrow (fun j => ha _ _ (fun q => (hD _ q).2.1 rfl)) (fun j => by rw [e1]) (fun l j t => ⟨tx l j (by rw [t]; decide), by rw [e1], by rw [e2]⟩) (fun i j => by rw [e2]) (fun j _ => tx _ _ (by decide)) (fun j => tx _ _ (by decide)), R4_c r4 hrow ⟨tx _ _ (by decide), tx _ _ (by decide), tx _ _ (by decide)⟩ (fun l j q => ha l j (fun z => by
    have := hD l z
    rcases q with q | q | q | q
    · exact this.2.2.1 q
    · exact this.2.2.2.1 q
    · exact this.2.2.2.2.1 q
    · exact this.2.2.2.2.2.1 q)) (fun j => by rw [e1]) (fun j => by rw [e2]), R6_c r6 (fun j => tx _ _ (by decide)) (fun j _ => tx _ _ (by decide)) (fun j => ha _ _ (fun q => (hD _ q).2.2.2.2.2.2.1 rfl)) (fun j => ha _ _ (fun q => (hD _ q).2.2.2.2.2.2.2 rfl)), R7_c r7 (fun k => by rw [e3]; exact ⟨Nat.le_refl _, fun _ _ => rfl⟩) (fun i => by rw [e2]), ?_⟩
  unfold R8 at r8 ⊢
  rw [e4, e5]
  exact r8
theorem cS_k (h : cS M N) (hR : inR M') (hr : mR M' = mR M) (ha : ∀ l j, ¬ l = amKn → ¬ l = amTm → ¬ l = amTb → ¬ l = aLens → ¬ l % 274877906944 = 83764445408 → ¬ l % 274877906944 = 70885835808 → mA M' l j = mA M l j) (hk : ∀ m k : Int, 0 ≤ m → m < N → 0 ≤ k → k ≤ 2 → mA M' (knA m.toNat) k.toNat = mA M' amKn (3 * m + k).toNat) (hkr : ∀ j, -1000 ≤ mA M' amKn j ∧ mA M' amKn j ≤ 1000) (htr : ∀ j, 0 ≤ mA M' amTm j ∧ mA M' amTm j ≤ 17) : cS M' N := by
  obtain ⟨p, ⟨s1, s2, s3, s4, s5, s6, s7⟩, ⟨n1, n2, n3⟩, u, z, cc⟩ := h
  have aCo : ∀ j, mA M' amCo j = mA M amCo j := fun j => ha _ _ (by decide) (by decide) (by decide) (by decide) (by decide) (by decide)
  have aKd : ∀ j, mA M' amKd j = mA M amKd j := fun j => ha _ _ (by decide) (by decide) (by decide) (by decide) (by decide) (by decide)
  have aRk : ∀ j, mA M' amRk j = mA M amRk j := fun j => ha _ _ (by decide) (by decide) (by decide) (by decide) (by decide) (by decide)
  have aU : ∀ i j, mA M' (uA i) j = mA M (uA i) j := fun i j => by
    have e := DS.2.1 i
    refine ha _ _ ?_ ?_ ?_ ?_ (by omega) (by omega) <;> (intro q; rw [q] at e; exact absurd e (by decide))
  refine ⟨?_, ⟨?_, hR, fun j => by rw [aCo]; exact s3 j, fun j => by rw [aKd]; exact s4 j, fun j => by rw [aRk]; exact s5 j, hkr, htr⟩, ⟨?_, ?_, n3⟩, fun m m0 m1 => ?_, fun m m0 m1 k5 => ?_, fun m i m0 m1 i0 i1 => ?_⟩
  · unfold cP at p ⊢
    rw [hr]
    exact p
  · unfold mSt at s1 ⊢
    rw [hr]
    exact s1
  · rw [ha _ _ (by decide) (by decide) (by decide) (by decide) (by decide) (by decide)]; exact n1
  · rw [ha _ _ (by decide) (by decide) (by decide) (by decide) (by decide) (by decide)]; exact n2
  · obtain ⟨g1, g2, g3, g4, g5, g6⟩ := u m m0 m1
    refine ⟨by rw [hr]; exact g1, by rw [hr]; exact g2, by rw [hr, aKd]; exact g3, by rw [aU, aU, aU, aKd, aRk]; exact g4, fun k a b => hk m k m0 m1 a b, fun i a b => ?_⟩
    rw [aKd] at b
    rw [hr, aCo]
    have e := g6 i a b
    have gi : mR M (uA m.toNat) 5 % 274877906944 = 83871400160 ∨ mR M (uA m.toNat) 5 % 274877906944 = 83871400096 := by
      split at g3
      · exact Or.inl g3
      · exact Or.inr g3
    rw [ha _ _ ?_ ?_ ?_ ?_ (by omega) (by omega)]
    · exact e
    all_goals (intro q; rw [q] at gi; exact absurd gi (by decide))
  · rw [aKd] at k5
    rw [aCo]
    exact z m m0 m1 k5
  · rw [aCo]
    exact cc m i m0 m1 i0 i1
theorem R1_k {rk : Int → Nat} (h : R1 M N rk) (hR : inR M') (hr : mR M' = mR M) (ha : ∀ l j, ¬ l = amKn → ¬ l = amTm → ¬ l = amTb → ¬ l = aLens → ¬ l % 274877906944 = 83764445408 → ¬ l % 274877906944 = 70885835808 → mA M' l j = mA M l j) (hk : ∀ m k : Int, 0 ≤ m → m < N → 0 ≤ k → k ≤ 2 → mA M' (knA m.toNat) k.toNat = mA M' amKn (3 * m + k).toNat) (hkr : ∀ j, -1000 ≤ mA M' amKn j ∧ mA M' amKn j ≤ 1000) (htr : ∀ j, 0 ≤ mA M' amTm j ∧ mA M' amTm j ≤ 17) (hT : cTb M') (hkz : ∀ j : Nat, 3 * N ≤ (j : Int) → mA M' amKn j = 0) : R1 M' N rk := by
  obtain ⟨a, b, d, e, f⟩ := h
  have aCo : ∀ j, mA M' amCo j = mA M amCo j := fun j => ha _ _ (by decide) (by decide) (by decide) (by decide) (by decide) (by decide)
  have aKd : ∀ j, mA M' amKd j = mA M amKd j := fun j => ha _ _ (by decide) (by decide) (by decide) (by decide) (by decide) (by decide)
  refine ⟨cS_k a hR hr ha hk hkr htr, hT, fun m i x y z w => by rw [aCo, aKd, aKd]; exact d m i x y z w, fun j x => by rw [aCo]; exact ⟨(e j x).1, hkz j x⟩, fun i x => ?_⟩
  rw [ha _ _ (by decide) (by decide) (by decide) (by decide) (by decide) (by decide), f i x]
  unfold ofn
  rw [ordL_c aCo aKd]
/-- knobs alone are others -/
theorem Rel_kn (h : Rel M c) (hR : inR M') (e : mB M' = mB M ∧ mR M' = mR M ∧ mC M' = mC M ∧ mK M' = mK M ∧ mS M' = mS M) (ha : ∀ l j, ¬ l = amKn → ¬ l % 274877906944 = 83764445408 → mA M' l j = mA M l j) (hk : ∀ N, mA M aM 3 = N → ∀ m k : Int, 0 ≤ m → m < N → 0 ≤ k → k ≤ 2 → mA M' (knA m.toNat) k.toNat = mA M' amKn (3 * m + k).toNat) (hkr : ∀ j, -1000 ≤ mA M' amKn j ∧ mA M' amKn j ≤ 1000) (hkz : ∀ N, mA M aM 3 = N → ∀ j : Nat, 3 * N ≤ (j : Int) → mA M amKn j = 0 → mA M' amKn j = 0) : Rel M' c := by
  obtain ⟨N, A, H, T, TK, rk, r1, r3, r4, r5, r6, r7, r8⟩ := h
  obtain ⟨g3, g4, g6, g7, g8⟩ := Rel_32 (D := fun l => l = amKn ∨ l % 274877906944 = 83764445408) (M' := M') (fun l q => by
    rcases q with q | q
    · rw [q]; decide
    · refine ⟨by unfold tg; omega, ?_, ?_, ?_, ?_, ?_, ?_, ?_⟩ <;> (intro z; rw [z] at q; exact absurd q (by decide))) (fun l j q => ha l j (fun z => q (Or.inl z)) (fun z => q (Or.inr z))) e r3 r4 r6 r7 r8
  refine ⟨N, A, H, T, TK, rk, R1_k r1 hR e.2.1 (fun l j a _ _ _ b _ => ha l j a b) (hk N r1.1.2.2.1.2.1) hkr (fun j => by rw [ha _ _ (by decide) (by decide)]; exact r1.1.2.1.2.2.2.2.2.2 j) ?_ (fun j x => hkz N r1.1.2.2.1.2.1 j x (r1.2.2.2.1 j x).2), g3, g4, R5_c r5 (fun l j q => ha l j (by rcases q with q | q | q <;> rw [q] <;> decide) (by rcases q with q | q | q <;> rw [q] <;> decide)) (fun i j => ha _ _ (by
      intro q
      have e : pkA i % 274877906944 = 32231133728 := by unfold pkA; omega
      rw [q] at e
      exact absurd e (by decide)) (by unfold pkA; omega)), g6, g7, g8⟩
  obtain ⟨t1, t2⟩ := r1.2.1
  refine ⟨fun t a b => ?_, fun t i a b x y => ?_⟩
  · rw [ha _ _ (by decide) (by decide), ha _ _ (by decide) (by decide)]; exact t1 t a b
  · rw [ha (tbA t.toNat) _ (by
      intro q
      have e : tbA t.toNat % 274877906944 = 70885835808 := by unfold tbA; omega
      rw [q] at e
      exact absurd e (by decide)) (by unfold tbA; omega), ha _ _ (by decide) (by decide)]
    exact t2 t i a b x y
/-- tables alone are others -/
theorem Rel_tb (h : Rel M c) (hR : inR M') (e : mB M' = mB M ∧ mR M' = mR M ∧ mC M' = mC M ∧ mK M' = mK M ∧ mS M' = mS M) (ha : ∀ l j, ¬ l = amTm → ¬ l = amTb → ¬ l = aLens → ¬ l % 274877906944 = 70885835808 → mA M' l j = mA M l j) (htr : ∀ j, 0 ≤ mA M' amTm j ∧ mA M' amTm j ≤ 17) (hT : cTb M') : Rel M' c := by
  obtain ⟨N, A, H, T, TK, rk, r1, r3, r4, r5, r6, r7, r8⟩ := h
  obtain ⟨g3, g4, g6, g7, g8⟩ := Rel_32 (D := fun l => l = amTm ∨ l = amTb ∨ l = aLens ∨ l % 274877906944 = 70885835808) (M' := M') (fun l q => by
    rcases q with q | q | q | q
    · rw [q]; decide
    · rw [q]; decide
    · rw [q]; decide
    · refine ⟨by unfold tg; omega, ?_, ?_, ?_, ?_, ?_, ?_, ?_⟩ <;> (intro z; rw [z] at q; exact absurd q (by decide))) (fun l j q => ha l j (fun z => q (by simp [z])) (fun z => q (by simp [z])) (fun z => q (by simp [z])) (fun z => q (by simp [z]))) e r3 r4 r6 r7 r8
  have aKn : ∀ j, mA M' amKn j = mA M amKn j := fun j => ha _ _ (by decide) (by decide) (by decide) (by decide)
  refine ⟨N, A, H, T, TK, rk, R1_k r1 hR e.2.1 (fun l j _ a b d _ f => ha l j a b d f) (fun m k m0 m1 k0 k2 => ?_) (fun j => by rw [aKn]; exact r1.1.2.1.2.2.2.2.2.1 j) htr hT (fun j x => by rw [aKn]; exact (r1.2.2.2.1 j x).2), g3, g4, R5_c r5 (fun l j q => ha l j (by rcases q with q | q | q <;> rw [q] <;> decide) (by rcases q with q | q | q <;> rw [q] <;> decide) (by rcases q with q | q | q <;> rw [q] <;> decide) (by rcases q with q | q | q <;> rw [q] <;> decide)) (fun i j => ?_), g6, g7, g8⟩
  · have e1 : knA m.toNat % 274877906944 = 83764445408 := by unfold knA; omega
    rw [aKn, ha (knA m.toNat) _ ?_ ?_ ?_ (by omega)]
    · exact (r1.1.2.2.2.1 m m0 m1).2.2.2.2.1 k k0 k2
    all_goals (intro q; rw [q] at e1; exact absurd e1 (by decide))
  · have e1 : pkA i % 274877906944 = 32231133728 := by unfold pkA; omega
    refine ha _ _ ?_ ?_ ?_ (by omega) <;> (intro q; rw [q] at e1; exact absurd e1 (by decide))
/-- presets alone are others -/
theorem Rel_pr (h : Rel M c) (hR : inR M') (e : mB M' = mB M ∧ mR M' = mR M ∧ mC M' = mC M ∧ mK M' = mK M ∧ mS M' = mS M) (ha : ∀ l j, ¬ l = amPr → ¬ l = amPm → ¬ l = aPSz → ¬ l % 274877906944 = 32231133728 → mA M' l j = mA M l j) (h5 : ∀ N, mA M aM 3 = N → R5 M N → R5 M' N) : Rel M' c := by
  obtain ⟨N, A, H, T, TK, rk, r1, r3, r4, r5, r6, r7, r8⟩ := h
  obtain ⟨g3, g4, g6, g7, g8⟩ := Rel_32 (D := fun l => l = amPr ∨ l = amPm ∨ l = aPSz ∨ l % 274877906944 = 32231133728) (M' := M') (fun l q => by
    rcases q with q | q | q | q
    · rw [q]; decide
    · rw [q]; decide
    · rw [q]; decide
    · refine ⟨by unfold tg; omega, ?_, ?_, ?_, ?_, ?_, ?_, ?_⟩ <;> (intro z; rw [z] at q; exact absurd q (by decide))) (fun l j q => ha l j (fun z => q (by simp [z])) (fun z => q (by simp [z])) (fun z => q (by simp [z])) (fun z => q (by simp [z]))) e r3 r4 r6 r7 r8
  exact ⟨N, A, H, T, TK, rk, R1_c r1 hR (fun l j _ _ _ _ => by rw [e.2.1]) (fun l j q _ => ha l j (fun z => q (by unfold nonX; simp [z])) (fun z => q (by unfold nonX; simp [z])) (fun z => q (by unfold nonX; simp [z])) (fun z => q (by unfold nonX; simp [z]))) (fun j => ha _ _ (by decide) (by decide) (by decide) (by decide)), g3, g4, h5 N r1.1.2.2.1.2.1 r5, g6, g7, g8⟩
end F32
section TS
variable {M : xm} {c : Int}
theorem t_knob (h : Rel M c) (m k v : Int) (hm : -2147483648 ≤ m ∧ m ≤ 2147483647) (hk : -2147483648 ≤ k ∧ k ≤ 2147483647) (hv : -2147483648 ≤ v ∧ v ≤ 2147483647) : Wp qX9_knob 0 [vR aX, vI m, vI k, vI v, vX, vX] [] M (Two c qX10_knob [vR aM, vI m, vI k, vI v, vX]) := by
  have hm' := Rel_m h (show c ≤ c + 1 by omega)
  obtain ⟨N, A, H, T, TK, rk, r1, r3, r4, r5, r6, r7, r8⟩ := id h
  have hC := r1.1
  have eN := hC.2.2.1
  have hN := eN.2.2
  have hR' := hC.r
  have qa := c_at hC m hm
  have qs := s_knob m k v M hC.2.1.1 hC.2.1.2.1 hm hk hv (by rw [eN.2.1]; exact hN)
  rw [eN.2.1] at qs
  have bad : ¬ ((0 ≤ m ∧ m < N) ∧ (0 ≤ k ∧ k ≤ 2) ∧ -1000 ≤ v ∧ v ≤ 1000) → Two c qX10_knob [vR aM, vI m, vI k, vI v, vX] (some (vI (-2000))) M := fun q => ⟨-2000, rfl, by
    rw [qs]
    by_cases a1 : 0 ≤ m ∧ m ≤ N - 1
    · rw [if_pos a1]
      by_cases a2 : 0 ≤ k ∧ k ≤ 2
      · rw [if_pos a2, if_neg (fun z => q ⟨by omega, a2, z⟩)]
        exact ⟨rfl, hm'⟩
      · rw [if_neg a2]
        exact ⟨rfl, hm'⟩
    · rw [if_neg a1]
      exact ⟨rfl, hm'⟩⟩
  by_cases c1 : 0 ≤ m ∧ m < N
  · rw [show uR N m = uA m.toNat from if_pos c1] at qa
    have uz : ¬ uA m.toNat = 0 := tg_ne (TGf.1 _) (by decide)
    have hu := hC.2.2.2.1 m c1.1 c1.2
    by_cases c2 : k < 0
    · simp (disch := first | omega | (simp only [DT, DS, ne_eq, Nat.reduceEqDiff, not_false_eq_true]; done)) only [RX9_knob, cP.e hC.1, qa, uz, BW, wr_id, OM, OE, PL, ↓reduceIte, TGs, bi_T, bi_F, bi_ff, Nat.reduceLeDiff, Nat.reduceLT, Nat.reduceAdd]
      exact bad (by omega)
    · by_cases c3 : 2 < k
      · simp (disch := first | omega | (simp only [DT, DS, ne_eq, Nat.reduceEqDiff, not_false_eq_true]; done)) only [RX9_knob, cP.e hC.1, qa, uz, BW, wr_id, OM, OE, PL, ↓reduceIte, TGs, bi_T, bi_F, bi_ff, Nat.reduceLeDiff, Nat.reduceLT, Nat.reduceAdd]
        exact bad (by omega)
      · by_cases c4 : v < -1000
        · simp (disch := first | omega | (simp only [DT, DS, ne_eq, Nat.reduceEqDiff, not_false_eq_true]; done)) only [RX9_knob, cP.e hC.1, qa, uz, BW, wr_id, OM, OE, PL, ↓reduceIte, TGs, bi_T, bi_F, bi_ff, Nat.reduceLeDiff, Nat.reduceLT, Nat.reduceAdd]
          exact bad (by omega)
        · by_cases c5 : 1000 < v
          · simp (disch := first | omega | (simp only [DT, DS, ne_eq, Nat.reduceEqDiff, not_false_eq_true]; done)) only [RX9_knob, cP.e hC.1, qa, uz, BW, wr_id, OM, OE, PL, ↓reduceIte, TGs, bi_T, bi_F, bi_ff, Nat.reduceLeDiff, Nat.reduceLT, Nat.reduceAdd]
            exact bad (by omega)
          · have ek := hu.2.2.2.2.1 k (by omega) (by omega)
            simp (disch := first | omega | (simp only [DT, DS, ne_eq, Nat.reduceEqDiff, not_false_eq_true]; done)) only [RX9_knob, cP.e hC.1, qa, uz, TGf, hu.1.2.1, ek, BW, wr_id, OM, OE, PL, ↓reduceIte, TGs, bi_T, bi_F, bi_ff, Nat.reduceLeDiff, Nat.reduceLT, Nat.reduceAdd]
            have dk : ∀ i, knA i % 274877906944 = 83764445408 := fun i => by unfold knA; omega
            have nk : ∀ i, ¬ knA i = amKn := fun i q => by have := dk i; rw [q] at this; exact absurd this (by decide)
            have nk2 : ∀ i, ¬ knA i = aM := fun i q => by have := dk i; rw [q] at this; exact absurd this (by decide)
            have hR1 : inR (wA M (knA m.toNat) k.toNat v) := hC.2.1.2.1.wA _ _ (wr_id (by omega) (by omega))
            refine ⟨_, rfl, ?_⟩
            have q1 := s_knob m k v (wA M (knA m.toNat) k.toNat v) hC.2.1.1 hR1 hm hk hv (by rw [wA_o _ _ (fun q => nk2 _ q.1.symm), eN.2.1]; exact hN)
            rw [q1, wA_o _ _ (fun q => nk2 _ q.1.symm), eN.2.1, if_pos (by omega), if_pos (by omega), if_pos (by omega), wA_o _ _ (fun q => nk _ q.1.symm)]
            refine ⟨rfl, Rel_kn hm' (hR1.wA _ _ (wr_id (by omega) (by omega))) ⟨rfl, rfl, rfl, rfl, rfl⟩ (fun l j a b => ?_) (fun N' eN' m' k' m0 m1 k0 k2 => ?_) (fun j => ?_) (fun N' eN' j x y => ?_)⟩
            · rw [wA_o _ _ (fun q => a q.1), wA_o _ _ (fun q => b (by rw [q.1]; exact dk _))]
            · rw [eN.2.1] at eN'
              subst eN'
              by_cases e : m' = m ∧ k' = k
              · rw [e.1, e.2, wA_o _ _ (fun q => nk _ q.1), wA_e, wA_e]
              · have e1 : ¬ (knA m'.toNat = knA m.toNat ∧ k'.toNat = k.toNat) := fun q => e (by
                  have z : m'.toNat = m.toNat := by have := q.1; unfold knA at this; omega
                  have := q.2
                  omega)
                rw [wA_o _ _ (fun q => nk _ q.1), wA_o _ _ e1, wA_o _ _ (fun q => by have := q.2; omega), wA_o _ _ (fun q => nk _ q.1.symm)]
                exact (hC.2.2.2.1 m' m0 m1).2.2.2.2.1 k' k0 k2
            · have kb := hC.2.1.2.2.2.2.2.1 j
              by_cases e : j = (3 * m + k).toNat
              · rw [e, wA_e]
                omega
              · rw [wA_o _ _ (fun q => e q.2), wA_o _ _ (fun q => nk _ q.1.symm)]
                exact kb
            · rw [eN.2.1] at eN'
              subst eN'
              rw [wA_o _ _ (fun q => by have := q.2; omega), wA_o _ _ (fun q => nk _ q.1.symm)]
              exact y
  · rw [show uR N m = 0 from if_neg c1] at qa
    simp (disch := first | omega | (simp only [DT, DS, ne_eq, Nat.reduceEqDiff, not_false_eq_true]; done)) only [RX9_knob, cP.e hC.1, qa, BW, wr_id, OM, OE, PL, ↓reduceIte, TGs, bi_T, bi_F, bi_ff, Nat.reduceLeDiff, Nat.reduceLT, Nat.reduceAdd]
    exact bad (fun q => c1 q.1)
theorem tb_k (i : Nat) : tbA i % 274877906944 = 70885835808 := by unfold tbA; omega
theorem tb_n {i l : Nat} (h : ¬ l % 274877906944 = 70885835808) : ¬ l = tbA i := fun q => h (by rw [q]; exact tb_k i)
theorem tb_e {i j : Nat} (h : tbA i = tbA j) : i = j := by unfold tbA at h; omega
theorem t_write (h : Rel M c) (t i v : Int) (ht : -2147483648 ≤ t ∧ t ≤ 2147483647) (hi : -2147483648 ≤ i ∧ i ≤ 2147483647) (hv : -2147483648 ≤ v ∧ v ≤ 2147483647) : Wp qX9_write 0 [vR aX, vI t, vI i, vI v] [] M (Two c qX10_write [vR aM, vI t, vI i, vI v]) := by
  have hm' := Rel_m h (show c ≤ c + 1 by omega)
  obtain ⟨N, A, H, T, TK, rk, r1, r3, r4, r5, r6, r7, r8⟩ := id h
  have hC := r1.1
  have hT := r1.2.1
  have hR' := hC.r
  have q1 := c_thas (M := M) t ht
  have q2 := c_isMissing hC hT t ht
  have q3 := c_hasPlace hC hT t i ht hi
  have tb := hC.2.1.2.2.2.2.2.2
  have qs := s_write t i v M hC.2.1.1 hC.2.1.2.1 ht hi hv tb
  by_cases c1 : 0 ≤ t ∧ t ≤ 7
  · simp only [bi_t c1] at q1
    have etl : tlF M t = mA M amTm t.toNat - 1 := if_pos c1
    have tbt := tb t.toNat
    by_cases c2 : tlF M t = -1
    · simp only [bi_t c2] at q2
      simp (disch := first | omega | (simp only [DT, DS, ne_eq, Nat.reduceEqDiff, not_false_eq_true]; done)) only [RX9_write, cP.e hC.1, q1, q2, BW, wr_id, OM, OE, PL, ↓reduceIte, TGs, bi_T, bi_F, bi_ff, Nat.reduceLeDiff, Nat.reduceLT, Nat.reduceAdd]
      refine ⟨_, rfl, ?_⟩
      rw [qs, if_neg (not_not_intro c1), if_pos (by omega)]
      exact ⟨rfl, hm'⟩
    · simp only [bi_f c2] at q2
      by_cases c3 : 0 ≤ i ∧ i < tlF M t
      · simp only [bi_t c3] at q3
        have et := hT.2 t i c1.1 c1.2 c3.1 (by omega)
        simp (disch := first | omega | (simp only [DT, DS, ne_eq, Nat.reduceEqDiff, not_false_eq_true]; done)) only [RX9_write, RX6_put, cP.e hC.1, q1, q2, q3, TGf, BW, wr_id, OM, OE, PL, ↓reduceIte, TGs, bi_T, bi_F, bi_ff, Nat.reduceLeDiff, Nat.reduceLT, Nat.reduceAdd]
        have hR1 : inR (wA M (tbA t.toNat) i.toNat v) := hC.2.1.2.1.wA _ _ (wr_id (by omega) (by omega))
        have em : ∀ j, mA (wA M (tbA t.toNat) i.toNat v) amTm j = mA M amTm j := fun j => wA_o _ _ (fun q => tb_n (by decide) q.1)
        refine ⟨_, rfl, ?_⟩
        have q4 := s_write t i v (wA M (tbA t.toNat) i.toNat v) hC.2.1.1 hR1 ht hi hv (fun j => by rw [em]; exact tb j)
        rw [q4, if_neg (not_not_intro c1), em, if_neg (by omega), if_neg (not_not_intro (by omega))]
        refine ⟨rfl, Rel_tb hm' (hR1.wA _ _ (wr_id (by omega) (by omega))) ⟨rfl, rfl, rfl, rfl, rfl⟩ (fun l j a b d e => ?_) (fun j => ?_) ⟨fun t' a b => ?_, fun t' i' a b x y => ?_⟩⟩
        · rw [wA_o _ _ (fun q => b q.1), wA_o _ _ (fun q => tb_n e q.1)]
        · rw [wA_o _ _ (fun q => absurd q.1 (by decide)), em]; exact tb j
        · rw [wA_o _ _ (fun q => absurd q.1 (by decide)), wA_o _ _ (fun q => tb_n (by decide) q.1), wA_o _ _ (fun q => absurd q.1 (by decide)), em]
          exact hT.1 t' a b
        · by_cases e : t' = t ∧ i' = i
          · rw [e.1, e.2, wA_o _ _ (fun q => tb_n (by decide) q.1.symm), wA_e, wA_e]
          · have e1 : ¬ (tbA t'.toNat = tbA t.toNat ∧ i'.toNat = i.toNat) := fun q => e (by
              have z := tb_e q.1
              have := q.2
              omega)
            rw [wA_o _ _ (fun q => tb_n (by decide) q.1.symm), wA_o _ _ e1, wA_o _ _ (fun q => by have := q.2; omega), wA_o _ _ (fun q => tb_n (by decide) q.1)]
            exact hT.2 t' i' a b x y
      · simp only [bi_f c3] at q3
        simp (disch := first | omega | (simp only [DT, DS, ne_eq, Nat.reduceEqDiff, not_false_eq_true]; done)) only [RX9_write, cP.e hC.1, q1, q2, q3, BW, wr_id, OM, OE, PL, ↓reduceIte, TGs, bi_T, bi_F, bi_ff, Nat.reduceLeDiff, Nat.reduceLT, Nat.reduceAdd]
        refine ⟨_, rfl, ?_⟩
        rw [qs, if_neg (not_not_intro c1), if_neg (by omega), if_pos (by omega)]
        exact ⟨rfl, hm'⟩
  · simp only [bi_f c1] at q1
    simp (disch := first | omega | (simp only [DT, DS, ne_eq, Nat.reduceEqDiff, not_false_eq_true]; done)) only [RX9_write, cP.e hC.1, q1, BW, wr_id, OM, OE, PL, ↓reduceIte, TGs, bi_T, bi_F, bi_ff, Nat.reduceLeDiff, Nat.reduceLT, Nat.reduceAdd]
    refine ⟨_, rfl, ?_⟩
    rw [qs, if_pos c1]
    exact ⟨rfl, hm'⟩
theorem t_table (h : Rel M c) (t n : Int) (ht : -2147483648 ≤ t ∧ t ≤ 2147483647) (hn : -2147483648 ≤ n ∧ n ≤ 2147483647) : Wp qX9_table 0 [vR aX, vI t, vI n] [] M (Two c qX10_table [vR aM, vI t, vI n, vX]) := by
  have hm' := Rel_m h (show c ≤ c + 1 by omega)
  obtain ⟨N, A, H, T, TK, rk, r1, r3, r4, r5, r6, r7, r8⟩ := id h
  have hC := r1.1
  have hT := r1.2.1
  have hR' := hC.r
  have q1 := c_thas (M := M) t ht
  have tb := hC.2.1.2.2.2.2.2.2
  have qs := s_table hC.2.1.1 hC.2.1.2.1 t n ht hn
  by_cases c1 : 0 ≤ t ∧ t ≤ 7
  · simp only [bi_t c1] at q1
    by_cases c2 : n < -1
    · simp (disch := first | omega | (simp only [DT, DS, ne_eq, Nat.reduceEqDiff, not_false_eq_true]; done)) only [RX9_table, cP.e hC.1, q1, BW, wr_id, OM, OE, PL, ↓reduceIte, TGs, bi_T, bi_F, bi_ff, Nat.reduceLeDiff, Nat.reduceLT, Nat.reduceAdd]
      refine ⟨_, rfl, ?_⟩
      rw [qs, if_neg (by omega)]
      exact ⟨rfl, hm'⟩
    · by_cases c3 : 16 < n
      · simp (disch := first | omega | (simp only [DT, DS, ne_eq, Nat.reduceEqDiff, not_false_eq_true]; done)) only [RX9_table, cP.e hC.1, q1, BW, wr_id, OM, OE, PL, ↓reduceIte, TGs, bi_T, bi_F, bi_ff, Nat.reduceLeDiff, Nat.reduceLT, Nat.reduceAdd]
        refine ⟨_, rfl, ?_⟩
        rw [qs, if_neg (by omega)]
        exact ⟨rfl, hm'⟩
      · have hR1 : inR (wA M aLens t.toNat n) := hC.2.1.2.1.wA _ _ (wr_id (by omega) (by omega))
        have hC1 : cP (wA M aLens t.toNat n) := hC.1
        have q1' := c_thas (M := M) t ht
        have ren : ∀ Q, Wp qX6_renew 17 [vR aTabs, vI t, vI n, vI 0] [] (wA M aLens t.toNat n) Q ↔ Q none (wF (wA M aLens t.toNat n) (tbA t.toNat) 0 16 (fun _ => 0)) := fun Q => by
          have key : ∀ (d : Nat) (k : Int) (M' : xm), k + d = 16 → 0 ≤ k → M' = wF (wA M aLens t.toNat n) (tbA t.toNat) 0 k.toNat (fun _ => 0) → (Wp qX6_renew 17 [vR aTabs, vI t, vI n, vI k] [] M' Q ↔ Q none (wF (wA M aLens t.toNat n) (tbA t.toNat) 0 16 (fun _ => 0))) := fun d => by
            induction d with
            | zero =>
              intro k M' hk h0 hM
              obtain rfl : k = 16 := by omega
              rw [HX6_renew_17]
              simp (disch := first | omega | (simp only [DT, DS, ne_eq, Nat.reduceEqDiff, not_false_eq_true]; done)) only [RX6_renew, BW, wr_id, OM, OE, PL, ↓reduceIte, TGs, bi_T, bi_F, bi_ff, Nat.reduceLeDiff, Nat.reduceLT, Nat.reduceAdd]
              rw [hM]
              rfl
            | succ d ih =>
              intro k M' hk h0 hM
              have hp : cP M' := by rw [hM]; exact hC1
              rw [HX6_renew_17]
              simp (disch := first | omega | (simp only [DT, DS, ne_eq, Nat.reduceEqDiff, not_false_eq_true]; done)) only [RX6_renew, cP.e hp, TGf, BW, wr_id, OM, OE, PL, ↓reduceIte, TGs, bi_T, bi_F, bi_ff, Nat.reduceLeDiff, Nat.reduceLT, Nat.reduceAdd]
              refine ih (k + 1) _ (by omega) (by omega) ?_
              rw [hM, show (k + 1).toNat = k.toNat + 1 by omega]
              exact wF_e (f := fun _ => 0) (by omega)
          exact key 16 0 _ (by omega) (by omega) (by rw [show (0 : Int).toNat = 0 from rfl, wF_0])
        simp (disch := first | omega | (simp only [DT, DS, ne_eq, Nat.reduceEqDiff, not_false_eq_true]; done)) only [RX9_table, RX6_renew, cP.e hC.1, q1, ren, BW, wr_id, OM, OE, PL, ↓reduceIte, TGs, bi_T, bi_F, bi_ff, Nat.reduceLeDiff, Nat.reduceLT, Nat.reduceAdd]
        have hR2 : inR (wF (wA M aLens t.toNat n) (tbA t.toNat) 0 16 (fun _ => 0)) := hR1.wF _ _ _ (fun j => rfl)
        refine ⟨_, rfl, ?_⟩
        have q4 := s_table (M := wF (wA M aLens t.toNat n) (tbA t.toNat) 0 16 (fun _ => 0)) hC.2.1.1 hR2 t n ht hn
        rw [q4, if_pos ⟨c1, by omega⟩]
        have rd : ∀ l j, mA (wF (wA (wF (wA M aLens t.toNat n) (tbA t.toNat) 0 16 (fun _ => 0)) amTm t.toNat (n + 1)) amTb (16 * t).toNat (16 * t + 16).toNat (fun _ => 0)) l j = if l = amTb ∧ (16 * t).toNat ≤ j ∧ j < (16 * t + 16).toNat then 0 else if l = amTm ∧ j = t.toNat then n + 1 else if l = tbA t.toNat ∧ 0 ≤ j ∧ j < 16 then 0 else if l = aLens ∧ j = t.toNat then n else mA M l j := fun l j => rfl
        refine ⟨rfl, Rel_tb hm' ((hR2.wA _ _ (wr_id (by omega) (by omega))).wF _ _ _ (fun j => rfl)) ⟨rfl, rfl, rfl, rfl, rfl⟩ (fun l j a b d e => ?_) (fun j => ?_) ⟨fun t' a b => ?_, fun t' i' a b x y => ?_⟩⟩
        · rw [rd, if_neg (fun q => b q.1), if_neg (fun q => a q.1), if_neg (fun q => tb_n e q.1), if_neg (fun q => d q.1)]
        · rw [rd, if_neg (fun q => absurd q.1 (by decide))]
          by_cases e : j = t.toNat
          · rw [if_pos ⟨rfl, e⟩]; omega
          · rw [if_neg (fun q => e q.2), if_neg (fun q => tb_n (by decide) q.1), if_neg (fun q => absurd q.1 (by decide))]
            exact tb j
        · have l1 := rd aLens t'.toNat
          have l2 := rd amTm t'.toNat
          rw [if_neg (fun q => absurd q.1 (by decide)), if_neg (fun q => absurd q.1 (by decide)), if_neg (fun q => tb_n (by decide) q.1)] at l1
          rw [if_neg (fun q => absurd q.1 (by decide))] at l2
          rw [l1, l2]
          by_cases e : t' = t
          · rw [e, if_pos ⟨rfl, rfl⟩, if_pos ⟨rfl, rfl⟩]; omega
          · rw [if_neg (fun q => by have := q.2; omega), if_neg (fun q => by have := q.2; omega), if_neg (fun q => tb_n (by decide) q.1), if_neg (fun q => absurd q.1 (by decide))]
            exact hT.1 t' a b
        · rw [rd, rd, if_neg (fun q => tb_n (by decide) q.1.symm), if_neg (fun q => tb_n (by decide) q.1.symm)]
          by_cases e : t' = t
          · rw [e, if_pos ⟨rfl, by omega, by omega⟩, if_pos ⟨rfl, by omega, by omega⟩]
          · rw [if_neg (fun q => by have := tb_e q.1; omega), if_neg (fun q => tb_n (by decide) q.1.symm), if_neg (fun q => by have := q.2; omega), if_neg (fun q => absurd q.1 (by decide)), if_neg (fun q => tb_n (by decide) q.1), if_neg (fun q => absurd q.1 (by decide))]
            exact hT.2 t' i' a b x y
  · simp only [bi_f c1] at q1
    simp (disch := first | omega | (simp only [DT, DS, ne_eq, Nat.reduceEqDiff, not_false_eq_true]; done)) only [RX9_table, cP.e hC.1, q1, BW, wr_id, OM, OE, PL, ↓reduceIte, TGs, bi_T, bi_F, bi_ff, Nat.reduceLeDiff, Nat.reduceLT, Nat.reduceAdd]
    refine ⟨_, rfl, ?_⟩
    rw [qs, if_neg (fun q => c1 q.1)]
    exact ⟨rfl, hm'⟩
end TS
