/-! 41.mthr: the reference: SOURCE, MIX, SWITCH, DELAY from their start (written by wip/whole/wgen3.py) -/
theorem w_source  {M : xm} {n t m : Int} {A : Int → SS} (hc : mCf M n) (ha : mAs M t A) (ht : t ≤ 50000) (hm : 0 ≤ m ∧ m ≤ 23) (h28 : mA M aM 28 = 0) (Q : Option xv → xm → Prop) (hP : mPost M m n Q (if ¬ (0 ≤ mA M amKn (3 * m).toNat ∧ mA M amKn (3 * m).toNat ≤ 7) then .inl (2, -1) else if mA M amTm (mA M amKn (3 * m).toNat).toNat = 0 then .inl (2, -1) else lpF (srcS (mA M amTm (mA M amKn (3 * m).toNat).toNat - 1) (mA M amKn (3 * m + 1).toNat) (mA M amRk m.toNat) (fun j => mA M amTb (16 * (mA M amKn (3 * m).toNat) + (j : Int)).toNat)) n.toNat 0 (z0 (A m)))) : Wp qX10_source 0 [vR aM, vI m, vX, vX, vX, vX, vX, vX, vX] [] M Q := by
  obtain ⟨hs, hR, hco, hkd, hrk, hkn, htm, en, hn⟩ := id hc
  have hR' : ∀ L k, wr (mA M L k) = mA M L k := hR
  obtain ⟨s1, s2⟩ := ha m hm.1 hm.2
  have hV := mV_0 s1 h28
  have hk0 := hkn (3 * m).toNat
  have fl : ∀ hq : mPost M m n Q (.inl (2, -1)), Q (some (vI 0)) (wA (wA (wA M aM 16 2) aM 17 m) aM 18 (-1)) := fun hq => mfail (mF.refl m hR) (by decide) (wr_id (by omega) (by omega)) (by decide) hq
  by_cases c1 : 0 ≤ mA M amKn (3 * m).toNat ∧ mA M amKn (3 * m).toNat ≤ 7
  · rw [if_neg (fun q => q c1)] at hP
    have ht0 := htm (mA M amKn (3 * m).toNat).toNat
    by_cases c2 : mA M amTm (mA M amKn (3 * m).toNat).toNat = 0
    · rw [if_pos c2] at hP
      have hf := fl hP
      simp (disch := first | omega | (simp only [DT, DS, ne_eq, Nat.reduceEqDiff, not_false_eq_true]; done)) only [RX10_source, BW, wr_id, OM, OE, PL, ↓reduceIte, mSt.e hs, hR', TGs, s_isIn, wr_bi, c2, s_fails _ _ _ M hs hR, Nat.reduceLeDiff, Nat.reduceAdd]
      exact hf
    · rw [if_neg c2] at hP
      have g := l_source hs m (mA M amKn (3 * m).toNat) n (mA M amRk m.toNat) (mA M amKn (3 * m + 1).toNat) (mA M amTm (mA M amKn (3 * m).toNat).toNat - 1) hm c1 hn en (hrk _) rfl (hkn _) rfl (by omega) Q n.toNat 0 (z0 (A m)) M vX vX vX (by omega) (by omega) (mF.refl m hR) hV s2.2.1 ⟨s2.2.2.2.2.1.1, by have := s2.2.2.2.2.1.2; show sN (A m) ≤ _; omega⟩ ⟨Int.le_refl 0, by show (0 : Int) < 2 ^ 0; decide⟩ hP
      simp (disch := first | omega | (simp only [DT, DS, ne_eq, Nat.reduceEqDiff, not_false_eq_true]; done)) only [RX10_source, BW, wr_id, OM, OE, PL, ↓reduceIte, mSt.e hs, hR', TGs, s_isIn, wr_bi, c2, Nat.reduceLeDiff, Nat.reduceAdd]
      exact g
  · rw [if_pos c1] at hP
    have hf := fl hP
    simp (disch := first | omega | (simp only [DT, DS, ne_eq, Nat.reduceEqDiff, not_false_eq_true]; done)) only [RX10_source, BW, wr_id, OM, PL, ↓reduceIte, mSt.e hs, hR', TGs, s_isIn, wr_bi, c1, s_fails _ _ _ M hs hR, Nat.reduceLeDiff, Nat.reduceAdd]
    exact hf
theorem cB_s {M : xm} {n t m i : Int} {A : Int → SS} (hc : mCf M n) (ha : mAs M t A) : cB M m i = (iRw A (mA M amCo (3 * m + i).toNat)).isSome := by
  have hco := hc.2.2.1 (3 * m + i).toNat
  unfold cB iRw
  generalize mA M amCo (3 * m + i).toNat = c at hco
  by_cases c1 : c ≤ 0
  · rw [if_pos c1, decide_eq_false (by omega)]
    rfl
  · rw [if_neg c1]
    have hr := (ha (c - 1) (by omega) (by omega)).1.1
    have hk2 := (ha (c - 1) (by omega) (by omega)).2.1
    cases e : sR (A (c - 1)) with
    | none =>
      rw [e] at hr
      rw [mRw_n hr]
      exact decide_eq_false (by omega)
    | some w =>
      rw [e] at hr
      have h1 := (hk2 w e).1
      rw [(mRw_s hr).1]
      exact decide_eq_true (by omega)
theorem cB_w {M : xm} {n t m i : Int} {A : Int → SS} (hc : mCf M n) (ha : mAs M t A) (h : cB M m i = true) : ∃ w, iRw A (mA M amCo (3 * m + i).toNat) = some w ∧ okR w ∧ mRw M (oI M m i) 0 (some w) ∧ (0 ≤ oI M m i ∧ oI M m i ≤ 23) := by
  have ho := (cB_o h hc.2.2.1).1
  have hc2 := (cB_o h hc.2.2.1).2.1
  rw [cB_s hc ha] at h
  unfold iRw at h ⊢
  rw [if_neg (by omega)] at h ⊢
  have hr := (ha _ ho.1 ho.2).1.1
  have hk2 := (ha _ ho.1 ho.2).2.1
  rw [show mA M amCo (3 * m + i).toNat - 1 = oI M m i from rfl] at h ⊢
  cases e : sR (A (oI M m i)) with
  | none =>
    rw [e] at h
    exact absurd h (by decide)
  | some w =>
    rw [e] at hr
    exact ⟨w, rfl, hk2 w e, hr, ho⟩
theorem mxF_c {c c' : Int → Bool} {l l' : Int → Int} {v v' : Int → Int → UInt64} {k : Int} (h : ∀ i, 0 ≤ i → i ≤ 2 → c i = c' i ∧ (c i = true → l i = l' i ∧ v i k = v' i k)) : ∀ (d : Nat) (i S : Int), 0 ≤ i → i + d ≤ 3 → mxF c l v k d i S = mxF c' l' v' k d i S
  | 0, _, _, _, _ => rfl
  | d + 1, i, S, h0, h1 => by
    obtain ⟨a, b⟩ := h i h0 (by omega)
    rw [mxF, mxF, mxF_c h d (i + 1) S (by omega) (by omega), ← a]
    by_cases e : c i = true
    · rw [if_pos e, if_pos e, (b e).1, (b e).2, mxF_c h d (i + 1) _ (by omega) (by omega)]
    · rw [if_neg e, if_neg e]
theorem l_mix0 {M : xm} {n t m : Int} {A : Int → SS} (hc : mCf M n) (ha : mAs M t A) (hm : 0 ≤ m ∧ m ≤ 23) (Q : Option xv → xm → Prop) (hf : ∀ i, 0 ≤ i → i ≤ 2 → oBad (iRw A (mA M amCo (3 * m + i).toNat)) = true → Q (some (vI 0)) (wA (wA (wA M aM 16 4) aM 17 m) aM 18 (-1)))
    (hg : (∀ i, 0 ≤ i → i ≤ 2 → oBad (iRw A (mA M amCo (3 * m + i).toNat)) = false) → ∀ x3 x4 x5, Wp qX10_mix 52 [vR aM, vI m, vI 0, x3, x4, x5] [] M Q) :
    ∀ (d : Nat) (i : Int) (x3 x4 x5 : xv), i + d = 3 → 0 ≤ i → (∀ j, 0 ≤ j → j < i → oBad (iRw A (mA M amCo (3 * m + j).toNat)) = false) → Wp qX10_mix 2 [vR aM, vI m, vI i, x3, x4, x5] [] M Q
  | 0, i, x3, x4, x5, hd, h0, hb => by
    obtain rfl : i = 3 := by omega
    have g := hg (fun i a b => hb i a (by omega)) x3 x4 x5
    rw [HX10_mix_2]
    simp (disch := first | omega | (simp only [DT, DS, ne_eq, Nat.reduceEqDiff, not_false_eq_true]; done)) only [RX10_mix, BW, wr_id, OM, OE, PL, ↓reduceIte, Nat.reduceLeDiff, Nat.reduceAdd]
    exact g
  | d + 1, i, x3, x4, x5, hd, h0, hb => by
    obtain ⟨hs, hR, hco, hkd, hrk, hkn, htm, en, hn⟩ := id hc
    have hR' : ∀ L k, wr (mA M L k) = mA M L k := hR
    have qc := q_counts (i := i) hs (mF.refl m hR) hm (by omega) hco ha.kb
    have nx : oBad (iRw A (mA M amCo (3 * m + i).toNat)) = false → Wp qX10_mix 2 [vR aM, vI m, vI (i + 1), x3, x4, x5] [] M Q := fun hq => l_mix0 hc ha hm Q hf hg d (i + 1) x3 x4 x5 (by omega) (by omega) (fun j a b => by
      by_cases e : j = i
      · rw [e]; exact hq
      · exact hb j a (by omega))
    rw [HX10_mix_2]
    by_cases c1 : cB M m i = true
    · obtain ⟨w, e1, e2, e3, e4⟩ := cB_w hc ha c1
      have hk := (mRw_s e3).1
      have qk := fun Q => s_kindOf (mA M amCo (3 * m + i).toNat - 1) M hs hR (by unfold oI at e4; omega) Q
      rw [show mA M amIn (20 * (mA M amCo (3 * m + i).toNat - 1)).toNat = rwK w + 1 from hk, show rwK w + 1 - 1 = rwK w by omega] at qk
      have hc1 := hco (3 * m + i).toNat
      have hw := e2.1
      by_cases c2 : rwK w = 2
      · have g := nx (by rw [e1]; show (!decide (rwK w = 2)) = false; rw [decide_eq_true c2]; rfl)
        simp (disch := first | omega | (simp only [DT, DS, ne_eq, Nat.reduceEqDiff, not_false_eq_true]; done)) only [RX10_mix, BW, wr_id, OM, OE, PL, ↓reduceIte, mSt.e hs, hR', TGs, qc, bi_t c1, qk, Nat.reduceLeDiff, Nat.reduceAdd]
        exact g
      · have g := hf i h0 (by omega) (by rw [e1]; show (!decide (rwK w = 2)) = true; rw [decide_eq_false c2]; rfl)
        simp (disch := first | omega | (simp only [DT, DS, ne_eq, Nat.reduceEqDiff, not_false_eq_true]; done)) only [RX10_mix, BW, wr_id, OM, OE, PL, ↓reduceIte, mSt.e hs, hR', TGs, qc, bi_t c1, qk, s_fails _ _ _ M hs hR, Nat.reduceLeDiff, Nat.reduceAdd]
        exact g
    · have e : iRw A (mA M amCo (3 * m + i).toNat) = none := by
        have h := c1
        rw [cB_s hc ha] at h
        cases q : iRw A (mA M amCo (3 * m + i).toNat) with
        | none => rfl
        | some w => rw [q] at h; exact absurd rfl h
      have g := nx (by rw [e]; rfl)
      simp (disch := first | omega | (simp only [DT, DS, ne_eq, Nat.reduceEqDiff, not_false_eq_true]; done)) only [RX10_mix, BW, wr_id, OM, OE, PL, ↓reduceIte, mSt.e hs, hR', TGs, qc, bi_f c1, Nat.reduceLeDiff, Nat.reduceAdd]
      exact g
theorem w_mix  {M : xm} {n t m : Int} {A : Int → SS} (hc : mCf M n) (ha : mAs M t A) (ht : t ≤ 50000) (hm : 0 ≤ m ∧ m ≤ 23) (h28 : mA M aM 28 = 0) (Q : Option xv → xm → Prop) (hP : mPost M m n Q (if (oBad (iRw A (mA M amCo (3 * m + 0).toNat)) || oBad (iRw A (mA M amCo (3 * m + 1).toNat)) || oBad (iRw A (mA M amCo (3 * m + 2).toNat))) = true then .inl (4, -1) else lpF (mixS (fun i => (iRw A (mA M amCo (3 * m + i).toNat)).isSome) (fun i => oL (iRw A (mA M amCo (3 * m + i).toNat))) (fun i => oV (iRw A (mA M amCo (3 * m + i).toNat)))) n.toNat 0 (z0 (A m)))) : Wp qX10_mix 0 [vR aM, vI m, vX, vX, vX, vX] [] M Q := by
  obtain ⟨hs, hR, hco, hkd, hrk, hkn, htm, en, hn⟩ := id hc
  have hR' : ∀ L k, wr (mA M L k) = mA M L k := hR
  obtain ⟨s1, s2⟩ := ha m hm.1 hm.2
  have hV := mV_0 s1 h28
  have g := l_mix0 hc ha hm Q (fun i a b e => ?_) (fun hb x3 x4 x5 => ?_) 3 0 vX vX vX (by omega) (by omega) (fun j a b => by omega)
  · simp (disch := first | omega | (simp only [DT, DS, ne_eq, Nat.reduceEqDiff, not_false_eq_true]; done)) only [RX10_mix, BW, wr_id, OM, OE, PL, ↓reduceIte, Nat.reduceLeDiff, Nat.reduceAdd]
    exact g
  · rw [if_pos (by rcases (show i = 0 ∨ i = 1 ∨ i = 2 by omega) with rfl | rfl | rfl <;> rw [e] <;> simp)] at hP
    exact mfail (mF.refl m hR) (by decide) (wr_id (by omega) (by omega)) (by decide) hP
  · rw [if_neg (by rw [hb 0 (by omega) (by omega), hb 1 (by omega) (by omega), hb 2 (by omega) (by omega)]; decide)] at hP
    refine l_mix hs m n hm hn en hco ha.kb (fun i a b e k a2 b2 => ?_) Q n.toNat 0 (z0 (A m)) M x3 x4 x5 (by omega) (by omega) (mF.refl m hR) hV ⟨s2.2.2.2.2.1.1, by have := s2.2.2.2.2.1.2; show sN (A m) ≤ _; omega⟩ ?_
    · obtain ⟨w, e1, e2, e3, e4⟩ := cB_w hc ha e
      have hk : rwK w = 2 := by
        have := hb i a b
        rw [e1] at this
        exact Decidable.byContradiction (fun q => absurd this (by show ¬ (!decide (rwK w = 2)) = false; rw [decide_eq_false q]; decide))
      rw [(mRw_s e3).2.2.2 k a2 b2]
      exact sv_in (e2.2.2.2.2.1 k a2 b2) (by omega)
    · rw [lpF_c n.toNat 0 (z0 (A m)) (step' := mixS (fun i => (iRw A (mA M amCo (3 * m + i).toNat)).isSome) (fun i => oL (iRw A (mA M amCo (3 * m + i).toNat))) (fun i => oV (iRw A (mA M amCo (3 * m + i).toNat)))) (fun j z a b => ?_)]
      · exact hP
      · unfold mixS
        rw [mxF_c (fun i a2 b2 => ⟨cB_s hc ha, fun e => ?_⟩) 3 0 0 (by omega) (by omega)]
        obtain ⟨w, e1, e2, e3, e4⟩ := cB_w hc ha e
        rw [e1]
        exact ⟨(mRw_s e3).2.1, (mRw_s e3).2.2.2 j a (by omega)⟩
