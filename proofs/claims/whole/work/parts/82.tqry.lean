/-! 82.tqry: both answer alike: the questions -/
def Two (c : Int) (q : xq) (lv : List xv) (r : Option xv) (M1 : xm) : Prop := ∃ v : Int, r = some (vI v) ∧ Wp q 0 lv [] M1 (fun r' M2 => r' = some (vI v) ∧ Rel M2 (c + 1))
def TwoD (c : Int) (q : xq) (lv : List xv) (r : Option xv) (M1 : xm) : Prop := ∃ v : UInt64, r = some (vD v) ∧ isNaN64 v = false ∧ Wp q 0 lv [] M1 (fun r' M2 => r' = some (vD v) ∧ Rel M2 (c + 1))
theorem R3.m {M : xm} {N c : Int} {A : Int → SS} {H : Int → Int → SS} (h : R3 M N c A H) : mAs M (24 * c) A := fun o a b => ⟨mSl_0.mp h.1.1 o a b, h.1.2.2.1 o a b⟩
theorem gv_c {M : xm} {N t : Int} {A : Int → SS} (hA : cA M N t A) (m : Int) : cRw M (gR M N m) (gvO A N m) ∧ okO (gvO A N m) := by
  unfold gR gvO
  by_cases c : 0 ≤ m ∧ m < N
  · rw [if_pos c, if_pos (by omega)]
    exact hA.g m c.1 c.2
  · rw [if_neg c, if_neg (by omega)]
    exact ⟨rfl, okO_n⟩
section TQ
variable {M : xm} {c : Int}
theorem t_from (h : Rel M c) (m i : Int) (hm : -2147483648 ≤ m ∧ m ≤ 2147483647) (hi : -2147483648 ≤ i ∧ i ≤ 2147483647) : Wp qX9_from 0 [vR aX, vI m, vI i, vX] [] M (Two c qX10_from [vR aM, vI m, vI i]) := by
  have hm' := Rel_m h (show c ≤ c + 1 by omega)
  obtain ⟨N, A, H, T, TK, rk, r1, r3, r4, r5, r6, r7, r8⟩ := h
  have hC := r1.1
  have eN := hC.2.2.1
  have qa := c_at hC m hm
  have qs := fun Q => s_from m i M hC.2.1.1 hC.2.1.2.1 hm hi (by rw [eN.2.1]; exact eN.2.2) hC.2.1.2.2.1 Q
  rw [eN.2.1] at qs
  by_cases c1 : 0 ≤ m ∧ m < N
  · rw [show uR N m = uA m.toNat from if_pos c1] at qa
    have hu := hC.2.2.2.1 m c1.1 c1.2
    have uz : ¬ uA m.toNat = 0 := tg_ne (TGf.1 _) (by decide)
    have qh := c_hasIn hu hC.2.1.2.1 i hi
    have hb := nin_b (mA M amKd m.toNat)
    by_cases c2 : 0 ≤ i ∧ i < nin (mA M amKd m.toNat)
    · simp only [bi_t c2] at qh
      have qc := c_cordOf hC c1 (i := i) (by omega)
      simp (disch := first | omega | (simp only [DT, DS, ne_eq, Nat.reduceEqDiff, not_false_eq_true]; done)) only [RX9_from, cP.e hC.1, qa, uz, TGf, qh, qc, BW, wr_id, OM, OE, PL, ↓reduceIte, TGs, bi_T, bi_F, bi_ff, Nat.reduceLeDiff, Nat.reduceLT, Nat.reduceAdd]
      refine ⟨_, rfl, ?_⟩
      rw [qs, if_pos ⟨by omega, c2.1, by unfold nin at c2; split at c2 <;> split <;> omega⟩]
      exact ⟨rfl, hm'⟩
    · simp only [bi_f c2] at qh
      simp (disch := first | omega | (simp only [DT, DS, ne_eq, Nat.reduceEqDiff, not_false_eq_true]; done)) only [RX9_from, cP.e hC.1, qa, uz, TGf, qh, BW, wr_id, OM, OE, PL, ↓reduceIte, TGs, bi_T, bi_F, bi_ff, Nat.reduceLeDiff, Nat.reduceLT, Nat.reduceAdd]
      refine ⟨_, rfl, ?_⟩
      rw [qs, if_neg (fun q => c2 ⟨q.2.1, by have := q.2.2; unfold nin; split at this <;> split <;> omega⟩)]
      exact ⟨rfl, hm'⟩
  · rw [show uR N m = 0 from if_neg c1] at qa
    simp (disch := first | omega | (simp only [DT, DS, ne_eq, Nat.reduceEqDiff, not_false_eq_true]; done)) only [RX9_from, cP.e hC.1, qa, BW, wr_id, OM, OE, PL, ↓reduceIte, TGs, bi_T, bi_F, bi_ff, Nat.reduceLeDiff, Nat.reduceLT, Nat.reduceAdd]
    refine ⟨_, rfl, ?_⟩
    rw [qs, if_neg (fun q => c1 (by omega))]
    exact ⟨rfl, hm'⟩
theorem t_sample (h : Rel M c) (m i : Int) (hm : -2147483648 ≤ m ∧ m ≤ 2147483647) (hi : -2147483648 ≤ i ∧ i ≤ 2147483647) : Wp qX9_sample 0 [vR aX, vI m, vI i, vX] [] M (TwoD c qX10_sample [vR aM, vI m, vI i]) := by
  have hm' := Rel_m h (show c ≤ c + 1 by omega)
  obtain ⟨N, A, H, T, TK, rk, r1, r3, r4, r5, r6, r7, r8⟩ := h
  have hC := r1.1
  have eN := hC.2.2.1
  have qg := c_givenBy hC m hm
  have qs := s_sample hC.2.1.1 hC.2.1.2.1 eN.2.1 eN.2.2 r3.m m i hm hi
  obtain ⟨g1, g2⟩ := gv_c r3.1.2.1 m
  cases e : gvO A N m with
  | none =>
    rw [e] at g1 qs
    have z : gR M N m = 0 := g1
    rw [z] at qg
    simp (disch := first | omega | (simp only [DT, DS, ne_eq, Nat.reduceEqDiff, not_false_eq_true]; done)) only [RX9_sample, cP.e hC.1, qg, BW, wr_id, OM, OE, PL, ↓reduceIte, TGs, bi_T, bi_F, bi_ff, Nat.reduceLeDiff, Nat.reduceLT, Nat.reduceAdd]
    refine ⟨FP.dconst0, rfl, by decide, ?_⟩
    rw [qs]
    exact ⟨rfl, hm'⟩
  | some w =>
    rw [e] at g1 qs
    have ow := g2 w e
    have tz := tg_ne g1.1.2 (by decide)
    have tw := g1.1.2
    have qv := c_valueAt g1 ow i hi
    simp (disch := first | omega | (simp only [DT, DS, ne_eq, Nat.reduceEqDiff, not_false_eq_true]; done)) only [RX9_sample, cP.e hC.1, qg, tz, tw, qv, BW, wr_id, OM, OE, PL, ↓reduceIte, TGs, bi_T, bi_F, bi_ff, Nat.reduceLeDiff, Nat.reduceLT, Nat.reduceAdd]
    refine ⟨smV (some w) i, rfl, ?_, ?_⟩
    · unfold smV
      dsimp only
      have hl := ow.2.1
      split
      · exact sv_nn (ow.2.2.2.2.1 i (by omega) (by omega))
      · decide
    · rw [qs]
      exact ⟨rfl, hm'⟩
theorem t_isNone (h : Rel M c) (m i : Int) (hm : -2147483648 ≤ m ∧ m ≤ 2147483647) (hi : -2147483648 ≤ i ∧ i ≤ 2147483647) : Wp qX9_isNone 0 [vR aX, vI m, vI i, vX] [] M (Two c qX10_isNone [vR aM, vI m, vI i]) := by
  have hm' := Rel_m h (show c ≤ c + 1 by omega)
  obtain ⟨N, A, H, T, TK, rk, r1, r3, r4, r5, r6, r7, r8⟩ := h
  have hC := r1.1
  have eN := hC.2.2.1
  have qg := c_givenBy hC m hm
  have qs := s_isNone hC.2.1.1 hC.2.1.2.1 eN.2.1 eN.2.2 r3.m m i hm hi
  obtain ⟨g1, g2⟩ := gv_c r3.1.2.1 m
  cases e : gvO A N m with
  | none =>
    rw [e] at g1 qs
    have z : gR M N m = 0 := g1
    rw [z] at qg
    simp (disch := first | omega | (simp only [DT, DS, ne_eq, Nat.reduceEqDiff, not_false_eq_true]; done)) only [RX9_isNone, cP.e hC.1, qg, BW, wr_id, OM, OE, PL, ↓reduceIte, TGs, bi_T, bi_F, bi_ff, Nat.reduceLeDiff, Nat.reduceLT, Nat.reduceAdd]
    refine ⟨_, rfl, ?_⟩
    rw [qs, show noB none i = false from rfl, bi_ff]
    exact ⟨rfl, hm'⟩
  | some w =>
    rw [e] at g1 qs
    have ow := g2 w e
    have tz := tg_ne g1.1.2 (by decide)
    have tw := g1.1.2
    have ql := c_lacks g1 ow i hi
    cases b : noB (some w) i
    · simp only [b, bi_ff] at ql
      simp (disch := first | omega | (simp only [DT, DS, ne_eq, Nat.reduceEqDiff, not_false_eq_true]; done)) only [RX9_isNone, cP.e hC.1, qg, tz, tw, ql, BW, wr_id, OM, OE, PL, ↓reduceIte, TGs, bi_T, bi_F, bi_ff, Nat.reduceLeDiff, Nat.reduceLT, Nat.reduceAdd]
      refine ⟨_, rfl, ?_⟩
      rw [qs, b, bi_ff]
      exact ⟨rfl, hm'⟩
    · simp only [b, bi_T] at ql
      simp (disch := first | omega | (simp only [DT, DS, ne_eq, Nat.reduceEqDiff, not_false_eq_true]; done)) only [RX9_isNone, cP.e hC.1, qg, tz, tw, ql, BW, wr_id, OM, OE, PL, ↓reduceIte, TGs, bi_T, bi_F, bi_ff, Nat.reduceLeDiff, Nat.reduceLT, Nat.reduceAdd]
      refine ⟨_, rfl, ?_⟩
      rw [qs, b, bi_t rfl]
      exact ⟨rfl, hm'⟩
theorem t_row (h : Rel M c) (m what : Int) (hm : -2147483648 ≤ m ∧ m ≤ 2147483647) (hw : -2147483648 ≤ what ∧ what ≤ 2147483647) : Wp qX9_row 0 [vR aX, vI m, vI what, vX] [] M (Two c qX10_row [vR aM, vI m, vI what, vX, vX, vX, vX, vX]) := by
  have hm' := Rel_m h (show c ≤ c + 1 by omega)
  obtain ⟨N, A, H, T, TK, rk, r1, r3, r4, r5, r6, r7, r8⟩ := h
  have hC := r1.1
  have eN := hC.2.2.1
  have hR' := hC.r
  have qa := c_at hC m hm
  have qg := c_givenBy hC m hm
  have qs := s_row hC.2.1.1 hC.2.1.2.1 eN.2.1 eN.2.2 r3.m m what hm hw
  have fin : ∀ v, rowF A N m what = v → Two c qX10_row [vR aM, vI m, vI what, vX, vX, vX, vX, vX] (some (vI v)) M := fun v e => ⟨v, rfl, by
    rw [qs, e]
    exact ⟨rfl, hm'⟩⟩
  unfold rowF at fin
  by_cases c1 : 0 ≤ m ∧ m < N
  · rw [show uR N m = uA m.toNat from if_pos c1] at qa
    have uz : ¬ uA m.toNat = 0 := tg_ne (TGf.1 _) (by decide)
    by_cases c2 : 0 ≤ what ∧ what ≤ 3
    · rw [if_pos ⟨by omega, c2⟩] at fin
      obtain ⟨g1, g2⟩ := r3.1.2.1.g m c1.1 c1.2
      rw [show gR M N m = mR M (nowA m.toNat) 0 from if_pos c1] at qg
      cases e : sR (A m) with
      | none =>
        rw [e] at g1 fin
        have z : mR M (nowA m.toNat) 0 = 0 := g1
        rw [z] at qg
        simp (disch := first | omega | (simp only [DT, DS, ne_eq, Nat.reduceEqDiff, not_false_eq_true]; done)) only [RX9_row, cP.e hC.1, qa, uz, qg, BW, wr_id, OM, OE, PL, ↓reduceIte, TGs, bi_T, bi_F, bi_ff, Nat.reduceLeDiff, Nat.reduceLT, Nat.reduceAdd]
        exact fin _ rfl
      | some w =>
        rw [e] at g1 fin
        have ow := g2 w e
        have tz := tg_ne g1.1.2 (by decide)
        have tw := g1.1.2
        have b := g1.2.1
        unfold roF at fin
        dsimp only at fin
        rcases (show what = 0 ∨ what = 1 ∨ what = 2 ∨ what = 3 by omega) with rfl | rfl | rfl | rfl
        · simp (disch := first | omega | (simp only [DT, DS, ne_eq, Nat.reduceEqDiff, not_false_eq_true]; done)) only [RX9_row, cP.e hC.1, qa, uz, qg, tz, tw, b.1, BW, wr_id, OM, OE, PL, ↓reduceIte, TGs, bi_T, bi_F, bi_ff, Nat.reduceLeDiff, Nat.reduceLT, Nat.reduceAdd]
          exact fin _ rfl
        · simp (disch := first | omega | (simp only [DT, DS, ne_eq, Nat.reduceEqDiff, not_false_eq_true]; done)) only [RX9_row, cP.e hC.1, qa, uz, qg, tz, tw, b.2.1, BW, wr_id, OM, OE, PL, ↓reduceIte, TGs, bi_T, bi_F, bi_ff, Nat.reduceLeDiff, Nat.reduceLT, Nat.reduceAdd]
          exact fin _ rfl
        · have qq := c_isSilent g1 ow
          cases z : slF (rwN w) (rwV w) (rwL w).toNat
          · simp only [z, bi_ff] at qq
            simp (disch := first | omega | (simp only [DT, DS, ne_eq, Nat.reduceEqDiff, not_false_eq_true]; done)) only [RX9_row, cP.e hC.1, qa, uz, qg, tz, tw, qq, BW, wr_id, OM, OE, PL, ↓reduceIte, TGs, bi_T, bi_F, bi_ff, Nat.reduceLeDiff, Nat.reduceLT, Nat.reduceAdd]
            exact fin _ (by rw [z]; rfl)
          · simp only [z, bi_T] at qq
            simp (disch := first | omega | (simp only [DT, DS, ne_eq, Nat.reduceEqDiff, not_false_eq_true]; done)) only [RX9_row, cP.e hC.1, qa, uz, qg, tz, tw, qq, BW, wr_id, OM, OE, PL, ↓reduceIte, TGs, bi_T, bi_F, bi_ff, Nat.reduceLeDiff, Nat.reduceLT, Nat.reduceAdd]
            exact fin _ (by rw [z]; rfl)
        · have qq := c_noneCount g1 ow
          simp (disch := first | omega | (simp only [DT, DS, ne_eq, Nat.reduceEqDiff, not_false_eq_true]; done)) only [RX9_row, cP.e hC.1, qa, uz, qg, tz, tw, qq, BW, wr_id, OM, OE, PL, ↓reduceIte, TGs, bi_T, bi_F, bi_ff, Nat.reduceLeDiff, Nat.reduceLT, Nat.reduceAdd]
          exact fin _ rfl
    · rw [if_neg (fun q => c2 q.2)] at fin
      by_cases c3 : what < 0
      · simp (disch := first | omega | (simp only [DT, DS, ne_eq, Nat.reduceEqDiff, not_false_eq_true]; done)) only [RX9_row, cP.e hC.1, qa, uz, BW, wr_id, OM, OE, PL, ↓reduceIte, TGs, bi_T, bi_F, bi_ff, Nat.reduceLeDiff, Nat.reduceLT, Nat.reduceAdd]
        exact fin _ rfl
      · simp (disch := first | omega | (simp only [DT, DS, ne_eq, Nat.reduceEqDiff, not_false_eq_true]; done)) only [RX9_row, cP.e hC.1, qa, uz, BW, wr_id, OM, OE, PL, ↓reduceIte, TGs, bi_T, bi_F, bi_ff, Nat.reduceLeDiff, Nat.reduceLT, Nat.reduceAdd]
        exact fin _ rfl
  · rw [show uR N m = 0 from if_neg c1] at qa
    rw [if_neg (fun q => c1 (by omega))] at fin
    simp (disch := first | omega | (simp only [DT, DS, ne_eq, Nat.reduceEqDiff, not_false_eq_true]; done)) only [RX9_row, cP.e hC.1, qa, BW, wr_id, OM, OE, PL, ↓reduceIte, TGs, bi_T, bi_F, bi_ff, Nat.reduceLeDiff, Nat.reduceLT, Nat.reduceAdd]
    exact fin _ rfl
theorem t_order (h : Rel M c) (i : Int) (hi : -2147483648 ≤ i ∧ i ≤ 2147483647) : Wp qX9_order 0 [vR aX, vI i] [] M (Two c qX10_order [vR aM, vI i]) := by
  have hm' := Rel_m h (show c ≤ c + 1 by omega)
  obtain ⟨N, A, H, T, TK, rk, r1, r3, r4, r5, r6, r7, r8⟩ := h
  have hC := r1.1
  have eN := hC.2.2.1
  have ql := c_inLine hC i hi
  have qs := fun Q => s_order hC.2.1.1 hC.2.1.2.1 eN.2.1 eN.2.2 hC.2.1.2.2.1 r1.2.2.1 i hi Q
  have e : (if 0 ≤ i ∧ i < N then mA M aLine i.toNat else -1) = odF (mA M) N i := by
    unfold odF
    by_cases c : 0 ≤ i ∧ i < N
    · rw [if_pos c, if_pos (by omega)]
      exact r1.2.2.2.2 i.toNat (by omega)
    · rw [if_neg c, if_neg (by omega)]
  rw [e] at ql
  simp (disch := first | omega | (simp only [DT, DS, ne_eq, Nat.reduceEqDiff, not_false_eq_true]; done)) only [RX9_order, cP.e hC.1, ql, BW, wr_id, OM, OE, PL, ↓reduceIte, TGs, bi_T, bi_F, bi_ff, Nat.reduceLeDiff, Nat.reduceLT, Nat.reduceAdd]
  refine ⟨_, rfl, qs _ (fun M' hG => ⟨rfl, Rel_c hm' hG.2.2.2.2.2 (fun l j a _ _ _ => hG.1 l j a) ⟨hG.2.1, hG.2.2.1, hG.2.2.2.1, hG.2.2.2.2.1.1, hG.2.2.2.2.1.2⟩⟩)⟩
theorem t_trace (h : Rel M c) (i : Int) (hi : -2147483648 ≤ i ∧ i ≤ 2147483647) : Wp qX9_trace 0 [vR aX, vI i] [] M (Two c qX10_trace [vR aM, vI i]) := by
  have hm' := Rel_m h (show c ≤ c + 1 by omega)
  obtain ⟨N, A, H, T, TK, rk, r1, r3, r4, r5, r6, r7, r8⟩ := h
  have hC := r1.1
  have hR' := hC.r
  obtain ⟨b1, b2, b3, b4, b5⟩ := r6
  have qs := s_trace i M hC.2.1.1 hC.2.1.2.1 hi b4
  have mz : ¬ aMarks = 0 := by decide
  by_cases c1 : i < 0
  · simp (disch := first | omega | (simp only [DT, DS, ne_eq, Nat.reduceEqDiff, not_false_eq_true]; done)) only [RX9_trace, RX0_markAt, cP.e hC.1, BW, wr_id, OM, OE, PL, ↓reduceIte, TGs, bi_T, bi_F, bi_ff, Nat.reduceLeDiff, Nat.reduceLT, Nat.reduceAdd]
    refine ⟨_, rfl, ?_⟩
    rw [qs, if_neg (by omega)]
    exact ⟨rfl, hm'⟩
  · by_cases c2 : i < mA M aM 15
    · have e := b5 i.toNat (by omega)
      simp (disch := first | omega | (simp only [DT, DS, ne_eq, Nat.reduceEqDiff, not_false_eq_true]; done)) only [RX9_trace, RX0_markAt, cP.e hC.1, b3, e, BW, wr_id, OM, OE, PL, ↓reduceIte, TGs, bi_T, bi_F, bi_ff, Nat.reduceLeDiff, Nat.reduceLT, Nat.reduceAdd]
      refine ⟨_, rfl, ?_⟩
      rw [qs, if_pos (by omega)]
      exact ⟨rfl, hm'⟩
    · simp (disch := first | omega | (simp only [DT, DS, ne_eq, Nat.reduceEqDiff, not_false_eq_true]; done)) only [RX9_trace, RX0_markAt, cP.e hC.1, b3, BW, wr_id, OM, OE, PL, ↓reduceIte, TGs, bi_T, bi_F, bi_ff, Nat.reduceLeDiff, Nat.reduceLT, Nat.reduceAdd]
      refine ⟨_, rfl, ?_⟩
      rw [qs, if_neg (by omega)]
      exact ⟨rfl, hm'⟩
theorem t_finding (h : Rel M c) (w : Int) (hw : -2147483648 ≤ w ∧ w ≤ 2147483647) : Wp qX9_finding 0 [vR aX, vI w] [] M (Two c qX10_finding [vR aM, vI w]) := by
  have hm' := Rel_m h (show c ≤ c + 1 by omega)
  obtain ⟨N, A, H, T, TK, rk, r1, r3, r4, r5, r6, r7, r8⟩ := h
  have hC := r1.1
  have hR' := hC.r
  obtain ⟨b1, b2, b3, b4, b5⟩ := r6
  have qs := s_finding w M hC.2.1.1 hC.2.1.2.1 hw
  have wf : wr (mA M aM 16) = mA M aM 16 := hR' _ _
  by_cases c0 : mA M aM 16 = 0
  · rw [c0] at b1
    simp (disch := first | omega | (simp only [DT, DS, ne_eq, Nat.reduceEqDiff, not_false_eq_true]; done)) only [RX9_finding, cP.e hC.1, b1, BW, wr_id, OM, OE, PL, ↓reduceIte, TGs, bi_T, bi_F, bi_ff, Nat.reduceLeDiff, Nat.reduceLT, Nat.reduceAdd]
    refine ⟨_, rfl, ?_⟩
    rw [qs, if_pos c0]
    exact ⟨rfl, hm'⟩
  · obtain ⟨d1, d2⟩ := b2 c0
    simp only [if_neg c0] at qs
    by_cases c1 : 0 ≤ w ∧ w ≤ 2
    · simp only [if_neg (not_not_intro c1)] at qs
      rcases (show w = 0 ∨ w = 1 ∨ w = 2 by omega) with rfl | rfl | rfl
      · simp (disch := first | omega | (simp only [DT, DS, ne_eq, Nat.reduceEqDiff, not_false_eq_true]; done)) only [RX9_finding, cP.e hC.1, b1, wf, c0, BW, wr_id, OM, OE, PL, ↓reduceIte, TGs, bi_T, bi_F, bi_ff, Nat.reduceLeDiff, Nat.reduceLT, Nat.reduceAdd]
        refine ⟨_, rfl, ?_⟩
        rw [qs, if_pos rfl]
        exact ⟨rfl, hm'⟩
      · simp (disch := first | omega | (simp only [DT, DS, ne_eq, Nat.reduceEqDiff, not_false_eq_true]; done)) only [RX9_finding, cP.e hC.1, b1, wf, c0, d1, BW, wr_id, OM, OE, PL, ↓reduceIte, TGs, bi_T, bi_F, bi_ff, Nat.reduceLeDiff, Nat.reduceLT, Nat.reduceAdd]
        refine ⟨_, rfl, ?_⟩
        rw [qs, if_neg (by decide), if_pos rfl]
        exact ⟨rfl, hm'⟩
      · simp (disch := first | omega | (simp only [DT, DS, ne_eq, Nat.reduceEqDiff, not_false_eq_true]; done)) only [RX9_finding, cP.e hC.1, b1, wf, c0, d2, BW, wr_id, OM, OE, PL, ↓reduceIte, TGs, bi_T, bi_F, bi_ff, Nat.reduceLeDiff, Nat.reduceLT, Nat.reduceAdd]
        refine ⟨_, rfl, ?_⟩
        rw [qs, if_neg (by decide), if_neg (by decide)]
        exact ⟨rfl, hm'⟩
    · simp (disch := first | omega | (simp only [DT, DS, ne_eq, Nat.reduceEqDiff, not_false_eq_true]; done)) only [RX9_finding, cP.e hC.1, b1, wf, c0, BW, wr_id, OM, OE, PL, ↓reduceIte, TGs, bi_T, bi_F, bi_ff, Nat.reduceLeDiff, Nat.reduceLT, Nat.reduceAdd]
      refine ⟨_, rfl, ?_⟩
      rw [qs, if_pos c1]
      exact ⟨rfl, hm'⟩
theorem c_tkat {T : Int} {TK : Int → Rw} {N : Int} (hC : cS M N) (r4 : R4 M T TK) (t : Int) (ht : -2147483648 ≤ t ∧ t ≤ 2147483647) (Q : Option xv → xm → Prop) : Wp qX7_at 0 [vR aTaks, vI t] [] M Q ↔ Q (some (vR (if 1 ≤ t ∧ t ≤ T then mR M aTRows (t - 1).toNat else 0))) M := by
  have e := r4.1
  have hR' := hC.r
  by_cases c1 : t < 1
  · rw [if_neg (by omega)]
    simp (disch := first | omega | (simp only [DT, DS, ne_eq, Nat.reduceEqDiff, not_false_eq_true]; done)) only [RX7_at, BW, wr_id, OM, OE, PL, ↓reduceIte, TGs, bi_T, bi_F, bi_ff, Nat.reduceLeDiff, Nat.reduceLT, Nat.reduceAdd]
  · by_cases c2 : t ≤ T
    · rw [if_pos (by omega)]
      simp (disch := first | omega | (simp only [DT, DS, ne_eq, Nat.reduceEqDiff, not_false_eq_true]; done)) only [RX7_at, e.2.2.1, cP.e hC.1, BW, wr_id, OM, OE, PL, ↓reduceIte, TGs, bi_T, bi_F, bi_ff, Nat.reduceLeDiff, Nat.reduceLT, Nat.reduceAdd]
    · rw [if_neg (by omega)]
      simp (disch := first | omega | (simp only [DT, DS, ne_eq, Nat.reduceEqDiff, not_false_eq_true]; done)) only [RX7_at, e.2.2.1, BW, wr_id, OM, OE, PL, ↓reduceIte, TGs, bi_T, bi_F, bi_ff, Nat.reduceLeDiff, Nat.reduceLT, Nat.reduceAdd]
theorem t_equal (h : Rel M c) (t u : Int) (ht : -2147483648 ≤ t ∧ t ≤ 2147483647) (hu : -2147483648 ≤ u ∧ u ≤ 2147483647) : Wp qX9_equal 0 [vR aX, vI t, vI u, vX, vX] [] M (Two c qX10_equal [vR aM, vI t, vI u, vX, vX, vX, vX, vX, vX, vX, vX]) := by
  have hm' := Rel_m h (show c ≤ c + 1 by omega)
  obtain ⟨N, A, H, T, TK, rk, r1, r3, r4, r5, r6, r7, r8⟩ := h
  have hC := r1.1
  have hT := r4.1
  have q1 := c_tkat hC r4 t ht
  have q2 := c_tkat hC r4 u hu
  have qs := s_equal hC.2.1.1 hC.2.1.2.1 hT.1 hT.2.2.2 r4.2.1 (fun k a b => ⟨(r4.2.2 k a b).1, (r4.2.2 k a b).2.1⟩) t u ht hu
  unfold eqF at qs
  by_cases c1 : 1 ≤ t ∧ t ≤ T
  · simp only [if_pos c1] at q1
    obtain ⟨_, o1, g1⟩ := r4.2.2 (t - 1) (by omega) (by omega)
    have tz1 := tg_ne g1.1.2 (by decide)
    have tw1 := g1.1.2
    by_cases c2 : 1 ≤ u ∧ u ≤ T
    · simp only [if_pos c2] at q2
      obtain ⟨_, o2, g2⟩ := r4.2.2 (u - 1) (by omega) (by omega)
      have tz2 := tg_ne g2.1.2 (by decide)
      have qq := c_isSameAs g1 g2 o1 o2
      rw [if_pos ⟨c1, c2⟩] at qs
      cases b : eqB (TK (t - 1)) (TK (u - 1))
      · simp only [b, bi_ff] at qq
        simp (disch := first | omega | (simp only [DT, DS, ne_eq, Nat.reduceEqDiff, not_false_eq_true]; done)) only [RX9_equal, cP.e hC.1, q1, q2, tz1, tz2, tw1, qq, BW, wr_id, OM, OE, PL, ↓reduceIte, TGs, bi_T, bi_F, bi_ff, Nat.reduceLeDiff, Nat.reduceLT, Nat.reduceAdd]
        refine ⟨_, rfl, ?_⟩
        rw [qs, b, if_neg (by decide)]
        exact ⟨rfl, hm'⟩
      · simp only [b, bi_T] at qq
        simp (disch := first | omega | (simp only [DT, DS, ne_eq, Nat.reduceEqDiff, not_false_eq_true]; done)) only [RX9_equal, cP.e hC.1, q1, q2, tz1, tz2, tw1, qq, BW, wr_id, OM, OE, PL, ↓reduceIte, TGs, bi_T, bi_F, bi_ff, Nat.reduceLeDiff, Nat.reduceLT, Nat.reduceAdd]
        refine ⟨_, rfl, ?_⟩
        rw [qs, b, if_pos rfl]
        exact ⟨rfl, hm'⟩
    · simp only [if_neg c2] at q2
      simp (disch := first | omega | (simp only [DT, DS, ne_eq, Nat.reduceEqDiff, not_false_eq_true]; done)) only [RX9_equal, cP.e hC.1, q1, q2, tz1, BW, wr_id, OM, OE, PL, ↓reduceIte, TGs, bi_T, bi_F, bi_ff, Nat.reduceLeDiff, Nat.reduceLT, Nat.reduceAdd]
      refine ⟨_, rfl, ?_⟩
      rw [qs, if_neg (fun q => c2 q.2)]
      exact ⟨rfl, hm'⟩
  · simp only [if_neg c1] at q1
    by_cases c2 : 1 ≤ u ∧ u ≤ T
    · simp only [if_pos c2] at q2
      simp (disch := first | omega | (simp only [DT, DS, ne_eq, Nat.reduceEqDiff, not_false_eq_true]; done)) only [RX9_equal, cP.e hC.1, q1, q2, BW, wr_id, OM, OE, PL, ↓reduceIte, TGs, bi_T, bi_F, bi_ff, Nat.reduceLeDiff, Nat.reduceLT, Nat.reduceAdd]
      refine ⟨_, rfl, ?_⟩
      rw [qs, if_neg (fun q => c1 q.1)]
      exact ⟨rfl, hm'⟩
    · simp only [if_neg c2] at q2
      simp (disch := first | omega | (simp only [DT, DS, ne_eq, Nat.reduceEqDiff, not_false_eq_true]; done)) only [RX9_equal, cP.e hC.1, q1, q2, BW, wr_id, OM, OE, PL, ↓reduceIte, TGs, bi_T, bi_F, bi_ff, Nat.reduceLeDiff, Nat.reduceLT, Nat.reduceAdd]
      refine ⟨_, rfl, ?_⟩
      rw [qs, if_neg (fun q => c1 q.1)]
      exact ⟨rfl, hm'⟩
end TQ
section CC
variable {M : xm} {N : Int}
theorem cn_s (C : Nat → Nat → Int) (j : Int) (hj : 0 ≤ j) : cnF C (j + 1).toNat = cnF C j.toNat + if 0 < C amCo j.toNat then 1 else 0 := by
  rw [show (j + 1).toNat = j.toNat + 1 by omega]
  rfl
theorem l_cc2 (hC : cS M N) {m : Int} (hm : 0 ≤ m ∧ m < N) (Q : Option xv → xm → Prop) (hg : ∀ x3 x4, Wp qX3_cordCount 4 [vR aRack, vI (cnF (mA M) (3 * (m + 1)).toNat), vI (m + 1), x3, x4] [] M Q) : ∀ (d : Nat) (i : Int), i + d = nin (mA M amKd m.toNat) → 0 ≤ i → Wp qX3_cordCount 22 [vR aRack, vI (cnF (mA M) (3 * m + i).toNat), vI m, vR (uA m.toNat), vI i] [] M Q
  | 0, i, hd, h0 => by
    have hu := hC.2.2.2.1 m hm.1 hm.2
    have q := c_inCount hu
    have hb := nin_b (mA M amKd m.toNat)
    have hN := hC.2.2.1.2.2
    have g := hg (vR (uA m.toNat)) (vI i)
    have e : cnF (mA M) (3 * (m + 1)).toNat = cnF (mA M) (3 * m + i).toNat := by
      by_cases k5 : mA M amKd m.toNat = 5
      · have : nin (mA M amKd m.toNat) = 3 := by rw [k5]; rfl
        rw [show 3 * (m + 1) = 3 * m + i by omega]
      · have : nin (mA M amKd m.toNat) = 2 := by unfold nin; rw [if_neg k5]
        have z := hC.2.2.2.2.1 m hm.1 hm.2 k5
        rw [show 3 * (m + 1) = 3 * m + 2 + 1 by omega, cn_s _ _ (by omega), z, if_neg (by decide), Int.add_zero, show 3 * m + i = 3 * m + 2 by omega]
    rw [e] at g
    have cb := cnF_b (mA M) (3 * m + i).toNat
    obtain rfl : i = nin (mA M amKd m.toNat) := by omega
    rw [HX3_cordCount_22]
    simp (disch := first | omega | (simp only [DT, DS, ne_eq, Nat.reduceEqDiff, not_false_eq_true]; done)) only [RX3_cordCount, TGf, q, BW, wr_id, OM, OE, PL, ↓reduceIte, TGs, bi_T, bi_F, bi_ff, Nat.reduceLeDiff, Nat.reduceLT, Nat.reduceAdd]
    exact g
  | d + 1, i, hd, h0 => by
    have hu := hC.2.2.2.1 m hm.1 hm.2
    have q := c_inCount hu
    have hb := nin_b (mA M amKd m.toNat)
    have hN := hC.2.2.1.2.2
    have qc := c_cordOf hC hm (i := i) (by omega)
    have kb := hC.2.1.2.2.1 (3 * m + i).toNat
    have ih := l_cc2 hC hm Q hg d (i + 1) (by omega) (by omega)
    rw [show 3 * m + (i + 1) = 3 * m + i + 1 by omega, cn_s _ _ (by omega)] at ih
    have cb := cnF_b (mA M) (3 * m + i).toNat
    rw [HX3_cordCount_22]
    by_cases e : 0 < mA M amCo (3 * m + i).toNat
    · rw [if_pos e] at ih
      simp (disch := first | omega | (simp only [DT, DS, ne_eq, Nat.reduceEqDiff, not_false_eq_true]; done)) only [RX3_cordCount, TGf, q, qc, BW, wr_id, OM, OE, PL, ↓reduceIte, TGs, bi_T, bi_F, bi_ff, Nat.reduceLeDiff, Nat.reduceLT, Nat.reduceAdd]
      exact ih
    · rw [if_neg e] at ih
      simp (disch := first | omega | (simp only [DT, DS, ne_eq, Nat.reduceEqDiff, not_false_eq_true]; done)) only [RX3_cordCount, TGf, q, qc, BW, wr_id, OM, OE, PL, ↓reduceIte, TGs, bi_T, bi_F, bi_ff, Nat.reduceLeDiff, Nat.reduceLT, Nat.reduceAdd]
      exact ih
theorem l_cc1 (hC : cS M N) (hz : ∀ j : Nat, 3 * N ≤ (j : Int) → mA M amCo j = 0) (Q : Option xv → xm → Prop) (hg : Q (some (vI (cnF (mA M) 72))) M) : ∀ (d : Nat) (m : Int) (x3 x4 : xv), m + d = N → 0 ≤ m → Wp qX3_cordCount 4 [vR aRack, vI (cnF (mA M) (3 * m).toNat), vI m, x3, x4] [] M Q
  | 0, m, x3, x4, hd, h0 => by
    have eN := hC.2.2.1
    have hN := eN.2.2
    have hR' := hC.r
    obtain rfl : m = N := by omega
    have e : ∀ d : Nat, (3 * m).toNat + d ≤ 72 → cnF (mA M) ((3 * m).toNat + d) = cnF (mA M) (3 * m).toNat := fun d => by
      induction d with
      | zero => intro _; rfl
      | succ d ih =>
        intro hd
        show cnF (mA M) ((3 * m).toNat + d) + (if 0 < mA M amCo ((3 * m).toNat + d) then 1 else 0) = _
        rw [ih (by omega), hz _ (by omega), if_neg (by decide), Int.add_zero]
    have e72 := e (72 - (3 * m).toNat) (by omega)
    rw [show (3 * m).toNat + (72 - (3 * m).toNat) = 72 by omega] at e72
    rw [e72] at hg
    rw [HX3_cordCount_4]
    simp (disch := first | omega | (simp only [DT, DS, ne_eq, Nat.reduceEqDiff, not_false_eq_true]; done)) only [RX3_cordCount, eN.1, BW, wr_id, OM, OE, PL, ↓reduceIte, TGs, bi_T, bi_F, bi_ff, Nat.reduceLeDiff, Nat.reduceLT, Nat.reduceAdd]
    exact hg
  | d + 1, m, x3, x4, hd, h0 => by
    have eN := hC.2.2.1
    have hN := eN.2.2
    have hR' := hC.r
    have hm : 0 ≤ m ∧ m < N := by omega
    have hu := hC.2.2.2.1 m hm.1 hm.2
    have hb := nin_b (mA M amKd m.toNat)
    have cb := cnF_b (mA M) (3 * m).toNat
    have g := l_cc2 hC hm Q (fun y3 y4 => l_cc1 hC hz Q hg d (m + 1) y3 y4 (by omega) (by omega)) (nin (mA M amKd m.toNat)).toNat 0 (by omega) (by omega)
    rw [show 3 * m + 0 = 3 * m by omega] at g
    rw [HX3_cordCount_4]
    simp (disch := first | omega | (simp only [DT, DS, ne_eq, Nat.reduceEqDiff, not_false_eq_true]; done)) only [RX3_cordCount, eN.1, cP.e hC.1, hu.1.1, BW, wr_id, OM, OE, PL, ↓reduceIte, TGs, bi_T, bi_F, bi_ff, Nat.reduceLeDiff, Nat.reduceLT, Nat.reduceAdd]
    exact g
theorem c_cordCount (hC : cS M N) (hz : ∀ j : Nat, 3 * N ≤ (j : Int) → mA M amCo j = 0) (Q : Option xv → xm → Prop) (hg : Q (some (vI (cnF (mA M) 72))) M) : Wp qX3_cordCount 0 [vR aRack, vX, vX, vX, vX] [] M Q := by
  have hN := hC.2.2.1.2.2
  have g := l_cc1 hC hz Q hg N.toNat 0 vX vX (by omega) (by omega)
  rw [show (3 * 0 : Int).toNat = 0 from rfl, cnF] at g
  simp (disch := first | omega | (simp only [DT, DS, ne_eq, Nat.reduceEqDiff, not_false_eq_true]; done)) only [RX3_cordCount, BW, wr_id, OM, OE, PL, ↓reduceIte, TGs, bi_T, bi_F, bi_ff, Nat.reduceLeDiff, Nat.reduceLT, Nat.reduceAdd]
  exact g
end CC
theorem t_count {M : xm} {c : Int} (h : Rel M c) (w : Int) (hw : -2147483648 ≤ w ∧ w ≤ 2147483647) : Wp qX9_count 0 [vR aX, vI w] [] M (Two c qX10_count [vR aM, vI w, vX, vX]) := by
  have hm' := Rel_m h (show c ≤ c + 1 by omega)
  obtain ⟨N, A, H, T, TK, rk, r1, r3, r4, r5, r6, r7, r8⟩ := h
  have hC := r1.1
  have eN := hC.2.2.1
  have hN := eN.2.2
  have hR' := hC.r
  have qs := s_count hC.2.1.1 hC.2.1.2.1 eN.2.1 hN w hw
  have fin : ∀ v, ctF M N w = v → Two c qX10_count [vR aM, vI w, vX, vX] (some (vI v)) M := fun v e => ⟨v, rfl, by
    rw [qs, e]
    exact ⟨rfl, hm'⟩⟩
  unfold ctF at fin
  have rh := r3.2.1
  have rt := r4.1
  by_cases c0 : 0 ≤ w ∧ w ≤ 4
  · rw [if_neg (show ¬ (10 ≤ w ∧ w ≤ 9 + N) by omega), if_neg (show ¬ (40 ≤ w ∧ w ≤ 39 + N) by omega)] at fin
    rcases (show w = 0 ∨ w = 1 ∨ w = 2 ∨ w = 3 ∨ w = 4 by omega) with rfl | rfl | rfl | rfl | rfl
    · simp (disch := first | omega | (simp only [DT, DS, ne_eq, Nat.reduceEqDiff, not_false_eq_true]; done)) only [RX9_count, cP.e hC.1, eN.1, BW, wr_id, OM, OE, PL, ↓reduceIte, TGs, bi_T, bi_F, bi_ff, Nat.reduceLeDiff, Nat.reduceLT, Nat.reduceAdd]
      exact fin _ rfl
    · simp (disch := first | omega | (simp only [DT, DS, ne_eq, Nat.reduceEqDiff, not_false_eq_true]; done)) only [RX9_count, cP.e hC.1, BW, wr_id, OM, OE, PL, ↓reduceIte, TGs, bi_T, bi_F, bi_ff, Nat.reduceLeDiff, Nat.reduceLT, Nat.reduceAdd]
      refine c_cordCount hC (fun j x => (r1.2.2.2.1 j x).1) _ ?_
      simp (disch := first | omega | (simp only [DT, DS, ne_eq, Nat.reduceEqDiff, not_false_eq_true]; done)) only [RX9_count, BW, wr_id, OM, OE, PL, ↓reduceIte, TGs, bi_T, bi_F, bi_ff, Nat.reduceLeDiff, Nat.reduceLT, Nat.reduceAdd]
      exact fin _ rfl
    · simp (disch := first | omega | (simp only [DT, DS, ne_eq, Nat.reduceEqDiff, not_false_eq_true]; done)) only [RX9_count, cP.e hC.1, rh.1, BW, wr_id, OM, OE, PL, ↓reduceIte, TGs, bi_T, bi_F, bi_ff, Nat.reduceLeDiff, Nat.reduceLT, Nat.reduceAdd]
      exact fin _ rh.2.1
    · simp (disch := first | omega | (simp only [DT, DS, ne_eq, Nat.reduceEqDiff, not_false_eq_true]; done)) only [RX9_count, cP.e hC.1, rh.2.2.1, BW, wr_id, OM, OE, PL, ↓reduceIte, TGs, bi_T, bi_F, bi_ff, Nat.reduceLeDiff, Nat.reduceLT, Nat.reduceAdd]
      exact fin _ rfl
    · simp (disch := first | omega | (simp only [DT, DS, ne_eq, Nat.reduceEqDiff, not_false_eq_true]; done)) only [RX9_count, cP.e hC.1, rt.2.2.1, BW, wr_id, OM, OE, PL, ↓reduceIte, TGs, bi_T, bi_F, bi_ff, Nat.reduceLeDiff, Nat.reduceLT, Nat.reduceAdd]
      exact fin _ rt.1
  · by_cases c1 : 40 ≤ w ∧ w ≤ 39 + N
    · have qa := c_at hC (w - 40) (by omega)
      rw [show uR N (w - 40) = uA (w - 40).toNat from if_pos (by omega)] at qa
      have uz : ¬ uA (w - 40).toNat = 0 := tg_ne (TGf.1 _) (by decide)
      have hu := hC.2.2.2.1 (w - 40) (by omega) (by omega)
      rw [if_neg (show ¬ (10 ≤ w ∧ w ≤ 9 + N) by omega), if_pos c1] at fin
      simp (disch := first | omega | (simp only [DT, DS, ne_eq, Nat.reduceEqDiff, not_false_eq_true]; done)) only [RX9_count, RX9_countOfModule, cP.e hC.1, eN.1, qa, uz, TGf, hu.2.2.2.1.2.1, BW, wr_id, OM, OE, PL, ↓reduceIte, TGs, bi_T, bi_F, bi_ff, Nat.reduceLeDiff, Nat.reduceLT, Nat.reduceAdd]
      exact fin _ rfl
    · by_cases c2 : 10 ≤ w ∧ w ≤ 9 + N
      · have qa := c_at hC (w - 10) (by omega)
        rw [show uR N (w - 10) = uA (w - 10).toNat from if_pos (by omega)] at qa
        have uz : ¬ uA (w - 10).toNat = 0 := tg_ne (TGf.1 _) (by decide)
        have hu := hC.2.2.2.1 (w - 10) (by omega) (by omega)
        have sc := (r3.1.2.1 (w - 10) (by omega) (by omega)).1.2.1.2.2.2.2.1
        have sm := (mSl_0.mp r3.1.1 (w - 10) (by omega) (by omega)).2.2.2.2.2.1
        rw [if_pos c2] at fin
        simp (disch := first | omega | (simp only [DT, DS, ne_eq, Nat.reduceEqDiff, not_false_eq_true]; done)) only [RX9_count, RX9_countOfModule, cP.e hC.1, eN.1, qa, uz, TGf, hu.1.2.2.1, sc, BW, wr_id, OM, OE, PL, ↓reduceIte, TGs, bi_T, bi_F, bi_ff, Nat.reduceLeDiff, Nat.reduceLT, Nat.reduceAdd]
        exact fin _ sm
      · rw [if_neg c2, if_neg c1, if_neg (show ¬ w = 0 by omega), if_neg (show ¬ w = 1 by omega), if_neg (show ¬ w = 2 by omega), if_neg (show ¬ w = 3 by omega), if_neg (show ¬ w = 4 by omega)] at fin
        by_cases d1 : w < 40
        · by_cases d2 : w < 10
          · simp (disch := first | omega | (simp only [DT, DS, ne_eq, Nat.reduceEqDiff, not_false_eq_true]; done)) only [RX9_count, RX9_countOfModule, cP.e hC.1, eN.1, BW, wr_id, OM, OE, PL, ↓reduceIte, TGs, bi_T, bi_F, bi_ff, Nat.reduceLeDiff, Nat.reduceLT, Nat.reduceAdd]
            exact fin _ rfl
          · simp (disch := first | omega | (simp only [DT, DS, ne_eq, Nat.reduceEqDiff, not_false_eq_true]; done)) only [RX9_count, RX9_countOfModule, cP.e hC.1, eN.1, BW, wr_id, OM, OE, PL, ↓reduceIte, TGs, bi_T, bi_F, bi_ff, Nat.reduceLeDiff, Nat.reduceLT, Nat.reduceAdd]
            exact fin _ rfl
        · simp (disch := first | omega | (simp only [DT, DS, ne_eq, Nat.reduceEqDiff, not_false_eq_true]; done)) only [RX9_count, RX9_countOfModule, cP.e hC.1, eN.1, BW, wr_id, OM, OE, PL, ↓reduceIte, TGs, bi_T, bi_F, bi_ff, Nat.reduceLeDiff, Nat.reduceLT, Nat.reduceAdd]
          exact fin _ rfl
