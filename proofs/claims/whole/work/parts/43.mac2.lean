/-! 43.mac2: the reference: a module acts (written by wip/whole/wgen5.py) -/
section AF
variable {C : Nat → Nat → Int} {n : Int} {A : Int → SS} {m : Int}
theorem actF_0 (h : C amKd m.toNat = 0) : actF C n A m = famF (A m) (C amRk m.toNat) n (if ¬ (0 ≤ C amKn (3 * m).toNat ∧ C amKn (3 * m).toNat ≤ 7) then .inl (2, -1) else if C amTm (C amKn (3 * m).toNat).toNat = 0 then .inl (2, -1) else lpF (srcS (C amTm (C amKn (3 * m).toNat).toNat - 1) (C amKn (3 * m + 1).toNat) (C amRk m.toNat) (fun j => C amTb (16 * C amKn (3 * m).toNat + (j : Int)).toNat)) n.toNat 0 (z0 (A m))) := by
  rw [← fam_if, ← fam_if]
  exact if_pos h
theorem actF_5 (h : C amKd m.toNat = 5) : actF C n A m = if (oBad (iRw A (C amCo (3 * m + 0).toNat)) || oBad (iRw A (C amCo (3 * m + 1).toNat)) || oBad (iRw A (C amCo (3 * m + 2).toNat))) = true then .inl (4, -1) else if ((iRw A (C amCo (3 * m + 0).toNat)).isSome || (iRw A (C amCo (3 * m + 1).toNat)).isSome || (iRw A (C amCo (3 * m + 2).toNat)).isSome) = true then famF (A m) 2 n (lpF (mixS (fun i => (iRw A (C amCo (3 * m + i).toNat)).isSome) (fun i => oL (iRw A (C amCo (3 * m + i).toNat))) (fun i => oV (iRw A (C amCo (3 * m + i).toNat)))) n.toNat 0 (z0 (A m))) else .inr (setR (A m) none) :=
  (if_neg (by omega)).trans (if_pos h)
theorem actF_6 (h : C amKd m.toNat = 6) : actF C n A m = .inr (setR (A m) (sF (A m) (clp (C amKn (3 * m).toNat)))) :=
  (if_neg (by omega)).trans ((if_neg (by omega)).trans (if_pos h))
theorem actF_7 (h : C amKd m.toNat = 7) : actF C n A m = famF (A m) 0 n (bZ (wantF A (C amCo (3 * m).toNat) 4) (fun r => lpF (gatS (C amKn (3 * m).toNat) (C amKn (3 * m + 1).toNat) (rwL r) (rwN r) (rwV r)) n.toNat 0 (z0 (A m)))) := by
  rw [← fam_bZ]
  have e : C amCo (3 * m).toNat = C amCo (3 * m + 0).toNat := by rw [Int.add_zero]
  rw [e]
  exact (if_neg (by omega)).trans ((if_neg (by omega)).trans ((if_neg (by omega)).trans (if_pos h)))
theorem actF_8 (h : C amKd m.toNat = 8) : actF C n A m = famF (A m) (C amRk m.toNat) n (bZ (wantF A (C amCo (3 * m).toNat) (-1)) (fun r => lpF (trnS (decide (3 ≤ rwK r)) (C amRk m.toNat) (rwL r) (rwN r) (rwV r)) n.toNat 0 (z0 (A m)))) := by
  rw [← fam_bZ]
  have e : C amCo (3 * m).toNat = C amCo (3 * m + 0).toNat := by rw [Int.add_zero]
  rw [e]
  exact (if_neg (by omega)).trans ((if_neg (by omega)).trans ((if_neg (by omega)).trans ((if_neg (by omega)).trans (if_pos h))))
theorem actF_9 (h : C amKd m.toNat = 9) : actF C n A m = bindW (wantF A (C amCo (3 * m).toNat) (-1)) (fun r => bindW (wantF A (C amCo (3 * m + 1).toNat) 0) (fun g => if rwL g ≤ n - 1 then .inl (3, n - 1) else if FP.dcmp (rwV g (n - 1)) FP.dconst1 = some .eq then .inr (setR (A m) (some r)) else .inr (setR (A m) none))) := by
  have e : C amCo (3 * m).toNat = C amCo (3 * m + 0).toNat := by rw [Int.add_zero]
  rw [e]
  exact (if_neg (by omega)).trans ((if_neg (by omega)).trans ((if_neg (by omega)).trans ((if_neg (by omega)).trans ((if_neg (by omega)).trans (if_pos h)))))
theorem actF_10 (h : C amKd m.toNat = 10) : actF C n A m = famF (A m) 2 n (bZ (wantF A (C amCo (3 * m).toNat) 2) (fun r => lpF (menS (C amKn (3 * m).toNat) (rwL r) (rwV r)) n.toNat 0 (z0 (A m)))) := by
  rw [← fam_bZ]
  have e : C amCo (3 * m).toNat = C amCo (3 * m + 0).toNat := by rw [Int.add_zero]
  rw [e]
  exact (if_neg (by omega)).trans ((if_neg (by omega)).trans ((if_neg (by omega)).trans ((if_neg (by omega)).trans ((if_neg (by omega)).trans ((if_neg (by omega)).trans (if_pos h))))))
theorem actF_1 (h : 1 ≤ C amKd m.toNat ∧ C amKd m.toNat ≤ 4) : actF C n A m = famF (A m) 4 n (bZ (wantF A (C amCo (3 * m).toNat) 4) (fun r => lpF (shpS (C amKd m.toNat) (sB (A m)) (C amKn (3 * m).toNat) (C amKn (3 * m + 1).toNat) (C amKn (3 * m + 2).toNat) n (rwL r) (rwN r) (rwV r)) n.toNat 0 (z0 (A m)))) := by
  rw [← fam_bZ]
  have e : C amCo (3 * m).toNat = C amCo (3 * m + 0).toNat := by rw [Int.add_zero]
  rw [e]
  exact (if_neg (by omega)).trans ((if_neg (by omega)).trans ((if_neg (by omega)).trans ((if_neg (by omega)).trans ((if_neg (by omega)).trans ((if_neg (by omega)).trans (if_neg (by omega)))))))
end AF
theorem mix_none {c : Int → Bool} {l : Int → Int} {v : Int → Int → UInt64} (h : ∀ i, 0 ≤ i → i ≤ 2 → c i = false) : ∀ (d : Nat) (k : Int) (z : ZT), ∃ z', lpF (mixS c l v) d k z = .inr z' ∧ zP z' = zP z ∧ zK z' = zK z ∧ zO z' = zO z ∧ zU z' = zU z ∧ zN z' = zN z
  | 0, k, z => ⟨z, rfl, rfl, rfl, rfl, rfl, rfl⟩
  | d + 1, k, z => by
    have e : mxF c l v k 3 0 0 = some 0 := by
      have h0 := h 0 (by omega) (by omega)
      have h1 := h (0 + 1) (by omega) (by omega)
      have h2 := h (0 + 1 + 1) (by omega) (by omega)
      rw [mxF, if_neg (by rw [h0]; decide), mxF, if_neg (by rw [h1]; decide), mxF, if_neg (by rw [h2]; decide), mxF]
    have hs : mixS c l v k z = .inr (zP z, zK z, zO z, zU z, zN z + si 2147483647 0, zM z, upV (zV z) k.toNat (FP.i2d (Int32.ofInt (cz 2147483647 0))), zS z) := by
      unfold mixS
      rw [e]
    rw [lpF_r hs]
    obtain ⟨z', a1, a2, a3, a4, a5, a6⟩ := mix_none h d (k + 1) (zP z, zK z, zO z, zU z, zN z + si 2147483647 0, zM z, upV (zV z) k.toNat (FP.i2d (Int32.ofInt (cz 2147483647 0))), zS z)
    refine ⟨z', a1, a2, a3, a4, a5, a6.trans ?_⟩
    show zN z + si 2147483647 0 = zN z
    rw [show si 2147483647 0 = 0 by decide, Int.add_zero]
theorem mF_s1 {M0 M : xm} {m n : Int} {s : SS} {z : ZT} (hF : mF M0 m M) (hV : mV M m z n) (h : mS1 M0 m s) (hm : 0 ≤ m ∧ m ≤ 23) (h1 : zP z = sP s) (h2 : zK z = sK s) (h3 : zO z = sO s) (h4 : zU z = sU s) (h5 : zN z = sN s) : mS1 M m s := by
  have hf := mF_fed hF h hm.1
  obtain ⟨v1, v2, v3, v4, v5, v6, v7⟩ := hV
  exact ⟨mRw_c h.1 (fun j a b => mF_i hF (by omega)) (fun j a b => mF_d hF (by omega)) ⟨hm.1, by omega⟩, v1.trans h1, v4.trans h2, v5.trans h3, v2.trans h4, v3.trans h5, hf.1, hf.2⟩
theorem aPost_i {M1 : xm} {m : Int} {C Q : Option xv → xm → Prop} (hf : ∀ M, Q (some (vI 0)) M → C (some (vI 0)) M) (hg : ∀ M, Q (some (vI 1)) M → C (some (vI 1)) M) : ∀ R, aPost M1 m Q R → aPost M1 m C R
  | .inl (_, _), hP => fun M a b c d => hf M (hP M a b c d)
  | .inr _, hP => fun M a b => hg M (hP M a b)
theorem fam_postr {M1 : xm} {m n kd : Int} {s : SS} {C Q : Option xv → xm → Prop} (hc : mCf M1 n) (hm : 0 ≤ m ∧ m ≤ 23) (hk : 0 ≤ kd ∧ kd ≤ 4) (s1 : mS1 M1 m s) (hf : ∀ M, Q (some (vI 0)) M → C (some (vI 0)) M) (hg : ∀ M, mSt M → inR M → mA M aM 19 = n → mA M amRk m.toNat = mA M1 amRk m.toNat → Q (some (vI 1)) (gvM M m kd n) → C (some (vI 1)) M) : ∀ R, aPost M1 m Q (famF s kd n R) → mPost M1 m n C R
  | .inl (f, k), hP => fun M hF a b c => hf M (hP M (hF.g hm.1) a b c)
  | .inr z, hP => fun M hF hV => by
    have e := give_ok (kd := kd) hF hV s1 hm hc.2.2.2.2.2.2.2.2 hk
    exact hg M (hF.st hc.1) hF.2.2.2.2.2 (by rw [mF_m hF (by decide)]; exact hc.2.2.2.2.2.2.2.1) (mF_a hF _ (by decide) (by decide)) (hP _ e.1 e.2)
theorem m_acts1 {M M1 : xm} (hM1 : wA M aM 28 0 = M1) {n t m : Int} {A : Int → SS} (hc : mCf M1 n) (ha : mAs M1 t A) (ht : t ≤ 50000) (hm : 0 ≤ m ∧ m ≤ 23) (hself : ¬ mA M1 amKd m.toNat = 6 → ¬ mA M1 amCo (3 * m).toNat = m + 1) (Q : Option xv → xm → Prop) (hP : aPost M1 m Q (actF (mA M1) n A m)) : Wp qX10_acts 0 [vR aM, vI m, vX, vX] [] M Q := by
  obtain ⟨hs, hR, hco, hkd, hrk, hkn, htm, en, hn⟩ := id hc
  have hR' : ∀ L k, wr (mA M1 L k) = mA M1 L k := hR
  obtain ⟨s1, s2⟩ := ha m hm.1 hm.2
  have h28 : mA M1 aM 28 = 0 := by rw [← hM1]; exact wA_e _ _ _ _
  have hk := hkd m.toNat
  have hsM : mSt M := by rw [← hM1] at hs; exact hs
  by_cases e7 : mA M1 amKd m.toNat = 7
  · rw [actF_7 e7] at hP
    simp (disch := first | omega | (simp only [DT, DS, ne_eq, Nat.reduceEqDiff, not_false_eq_true]; done)) only [RX10_acts, BW, wr_id, OM, OE, PL, ↓reduceIte, mSt.e hsM, mSt.e hs, hM1, hR', TGs, e7, Nat.reduceLeDiff, Nat.reduceAdd]
    refine w_gate hc ha ht hm h28 _ (fam_post (kd := 0) hc hm (by omega) s1 (fun M2 h => ?_) (fun M2 hs2 hR2 en2 h => ?_) _ hP)
    · simp (disch := first | omega | (simp only [DT, DS, ne_eq, Nat.reduceEqDiff, not_false_eq_true]; done)) only [RX10_acts, BW, wr_id, OM, OE, PL, ↓reduceIte, Nat.reduceLeDiff, Nat.reduceAdd]
      exact h
    · have hR2' : ∀ L k, wr (mA M2 L k) = mA M2 L k := hR2
      simp (disch := first | omega | (simp only [DT, DS, ne_eq, Nat.reduceEqDiff, not_false_eq_true]; done)) only [RX10_acts, BW, wr_id, OM, OE, PL, ↓reduceIte, mSt.e hs2, hR2', TGs, s_give m 0 n M2 hs2 hR2 hm (by omega) en2 hn, Nat.reduceLeDiff, Nat.reduceAdd]
      exact h
  by_cases e10 : mA M1 amKd m.toNat = 10
  · rw [actF_10 e10] at hP
    simp (disch := first | omega | (simp only [DT, DS, ne_eq, Nat.reduceEqDiff, not_false_eq_true]; done)) only [RX10_acts, BW, wr_id, OM, OE, PL, ↓reduceIte, mSt.e hsM, mSt.e hs, hM1, hR', TGs, e10, Nat.reduceLeDiff, Nat.reduceAdd]
    refine w_mean hc ha ht hm h28 _ (fam_post (kd := 2) hc hm (by omega) s1 (fun M2 h => ?_) (fun M2 hs2 hR2 en2 h => ?_) _ hP)
    · simp (disch := first | omega | (simp only [DT, DS, ne_eq, Nat.reduceEqDiff, not_false_eq_true]; done)) only [RX10_acts, BW, wr_id, OM, OE, PL, ↓reduceIte, Nat.reduceLeDiff, Nat.reduceAdd]
      exact h
    · have hR2' : ∀ L k, wr (mA M2 L k) = mA M2 L k := hR2
      simp (disch := first | omega | (simp only [DT, DS, ne_eq, Nat.reduceEqDiff, not_false_eq_true]; done)) only [RX10_acts, BW, wr_id, OM, OE, PL, ↓reduceIte, mSt.e hs2, hR2', TGs, s_give m 2 n M2 hs2 hR2 hm (by omega) en2 hn, Nat.reduceLeDiff, Nat.reduceAdd]
      exact h
  by_cases e0 : mA M1 amKd m.toNat = 0
  · rw [actF_0 e0] at hP
    simp (disch := first | omega | (simp only [DT, DS, ne_eq, Nat.reduceEqDiff, not_false_eq_true]; done)) only [RX10_acts, BW, wr_id, OM, OE, PL, ↓reduceIte, mSt.e hsM, mSt.e hs, hM1, hR', TGs, e0, Nat.reduceLeDiff, Nat.reduceAdd]
    refine w_source hc ha ht hm h28 _ (fam_postr (kd := (mA M1 amRk m.toNat)) hc hm (hrk _) s1 (fun M2 h => ?_) (fun M2 hs2 hR2 en2 rk2 h => ?_) _ hP)
    · simp (disch := first | omega | (simp only [DT, DS, ne_eq, Nat.reduceEqDiff, not_false_eq_true]; done)) only [RX10_acts, BW, wr_id, OM, OE, PL, ↓reduceIte, Nat.reduceLeDiff, Nat.reduceAdd]
      exact h
    · have hR2' : ∀ L k, wr (mA M2 L k) = mA M2 L k := hR2
      simp (disch := first | omega | (simp only [DT, DS, ne_eq, Nat.reduceEqDiff, not_false_eq_true]; done)) only [RX10_acts, BW, wr_id, OM, OE, PL, ↓reduceIte, mSt.e hs2, hR2', TGs, rk2, s_give m (mA M1 amRk m.toNat) n M2 hs2 hR2 hm (hrk _) en2 hn, Nat.reduceLeDiff, Nat.reduceAdd]
      exact h
  by_cases e8 : mA M1 amKd m.toNat = 8
  · rw [actF_8 e8] at hP
    simp (disch := first | omega | (simp only [DT, DS, ne_eq, Nat.reduceEqDiff, not_false_eq_true]; done)) only [RX10_acts, BW, wr_id, OM, OE, PL, ↓reduceIte, mSt.e hsM, mSt.e hs, hM1, hR', TGs, e8, Nat.reduceLeDiff, Nat.reduceAdd]
    refine w_turn hc ha ht hm h28 _ (fam_postr (kd := (mA M1 amRk m.toNat)) hc hm (hrk _) s1 (fun M2 h => ?_) (fun M2 hs2 hR2 en2 rk2 h => ?_) _ hP)
    · simp (disch := first | omega | (simp only [DT, DS, ne_eq, Nat.reduceEqDiff, not_false_eq_true]; done)) only [RX10_acts, BW, wr_id, OM, OE, PL, ↓reduceIte, Nat.reduceLeDiff, Nat.reduceAdd]
      exact h
    · have hR2' : ∀ L k, wr (mA M2 L k) = mA M2 L k := hR2
      simp (disch := first | omega | (simp only [DT, DS, ne_eq, Nat.reduceEqDiff, not_false_eq_true]; done)) only [RX10_acts, BW, wr_id, OM, OE, PL, ↓reduceIte, mSt.e hs2, hR2', TGs, rk2, s_give m (mA M1 amRk m.toNat) n M2 hs2 hR2 hm (hrk _) en2 hn, Nat.reduceLeDiff, Nat.reduceAdd]
      exact h
  by_cases e1 : mA M1 amKd m.toNat = 1
  · rw [actF_1 (by omega)] at hP
    simp (disch := first | omega | (simp only [DT, DS, ne_eq, Nat.reduceEqDiff, not_false_eq_true]; done)) only [RX10_acts, BW, wr_id, OM, OE, PL, ↓reduceIte, mSt.e hsM, mSt.e hs, hM1, hR', TGs, e1, Nat.reduceLeDiff, Nat.reduceAdd]
    refine w_shape hc ha ht hm h28 (by omega) _ (fam_post (kd := 4) hc hm (by omega) s1 (fun M2 h => ?_) (fun M2 hs2 hR2 en2 h => ?_) _ hP)
    · simp (disch := first | omega | (simp only [DT, DS, ne_eq, Nat.reduceEqDiff, not_false_eq_true]; done)) only [RX10_acts, BW, wr_id, OM, OE, PL, ↓reduceIte, Nat.reduceLeDiff, Nat.reduceAdd]
      exact h
    · have hR2' : ∀ L k, wr (mA M2 L k) = mA M2 L k := hR2
      simp (disch := first | omega | (simp only [DT, DS, ne_eq, Nat.reduceEqDiff, not_false_eq_true]; done)) only [RX10_acts, BW, wr_id, OM, OE, PL, ↓reduceIte, mSt.e hs2, hR2', TGs, s_give m 4 n M2 hs2 hR2 hm (by omega) en2 hn, Nat.reduceLeDiff, Nat.reduceAdd]
      exact h
  by_cases e2 : mA M1 amKd m.toNat = 2
  · rw [actF_1 (by omega)] at hP
    simp (disch := first | omega | (simp only [DT, DS, ne_eq, Nat.reduceEqDiff, not_false_eq_true]; done)) only [RX10_acts, BW, wr_id, OM, OE, PL, ↓reduceIte, mSt.e hsM, mSt.e hs, hM1, hR', TGs, e2, Nat.reduceLeDiff, Nat.reduceAdd]
    refine w_shape hc ha ht hm h28 (by omega) _ (fam_post (kd := 4) hc hm (by omega) s1 (fun M2 h => ?_) (fun M2 hs2 hR2 en2 h => ?_) _ hP)
    · simp (disch := first | omega | (simp only [DT, DS, ne_eq, Nat.reduceEqDiff, not_false_eq_true]; done)) only [RX10_acts, BW, wr_id, OM, OE, PL, ↓reduceIte, Nat.reduceLeDiff, Nat.reduceAdd]
      exact h
    · have hR2' : ∀ L k, wr (mA M2 L k) = mA M2 L k := hR2
      simp (disch := first | omega | (simp only [DT, DS, ne_eq, Nat.reduceEqDiff, not_false_eq_true]; done)) only [RX10_acts, BW, wr_id, OM, OE, PL, ↓reduceIte, mSt.e hs2, hR2', TGs, s_give m 4 n M2 hs2 hR2 hm (by omega) en2 hn, Nat.reduceLeDiff, Nat.reduceAdd]
      exact h
  by_cases e3 : mA M1 amKd m.toNat = 3
  · rw [actF_1 (by omega)] at hP
    simp (disch := first | omega | (simp only [DT, DS, ne_eq, Nat.reduceEqDiff, not_false_eq_true]; done)) only [RX10_acts, BW, wr_id, OM, OE, PL, ↓reduceIte, mSt.e hsM, mSt.e hs, hM1, hR', TGs, e3, Nat.reduceLeDiff, Nat.reduceAdd]
    refine w_shape hc ha ht hm h28 (by omega) _ (fam_post (kd := 4) hc hm (by omega) s1 (fun M2 h => ?_) (fun M2 hs2 hR2 en2 h => ?_) _ hP)
    · simp (disch := first | omega | (simp only [DT, DS, ne_eq, Nat.reduceEqDiff, not_false_eq_true]; done)) only [RX10_acts, BW, wr_id, OM, OE, PL, ↓reduceIte, Nat.reduceLeDiff, Nat.reduceAdd]
      exact h
    · have hR2' : ∀ L k, wr (mA M2 L k) = mA M2 L k := hR2
      simp (disch := first | omega | (simp only [DT, DS, ne_eq, Nat.reduceEqDiff, not_false_eq_true]; done)) only [RX10_acts, BW, wr_id, OM, OE, PL, ↓reduceIte, mSt.e hs2, hR2', TGs, s_give m 4 n M2 hs2 hR2 hm (by omega) en2 hn, Nat.reduceLeDiff, Nat.reduceAdd]
      exact h
  by_cases e4 : mA M1 amKd m.toNat = 4
  · rw [actF_1 (by omega)] at hP
    simp (disch := first | omega | (simp only [DT, DS, ne_eq, Nat.reduceEqDiff, not_false_eq_true]; done)) only [RX10_acts, BW, wr_id, OM, OE, PL, ↓reduceIte, mSt.e hsM, mSt.e hs, hM1, hR', TGs, e4, Nat.reduceLeDiff, Nat.reduceAdd]
    refine w_shape hc ha ht hm h28 (by omega) _ (fam_post (kd := 4) hc hm (by omega) s1 (fun M2 h => ?_) (fun M2 hs2 hR2 en2 h => ?_) _ hP)
    · simp (disch := first | omega | (simp only [DT, DS, ne_eq, Nat.reduceEqDiff, not_false_eq_true]; done)) only [RX10_acts, BW, wr_id, OM, OE, PL, ↓reduceIte, Nat.reduceLeDiff, Nat.reduceAdd]
      exact h
    · have hR2' : ∀ L k, wr (mA M2 L k) = mA M2 L k := hR2
      simp (disch := first | omega | (simp only [DT, DS, ne_eq, Nat.reduceEqDiff, not_false_eq_true]; done)) only [RX10_acts, BW, wr_id, OM, OE, PL, ↓reduceIte, mSt.e hs2, hR2', TGs, s_give m 4 n M2 hs2 hR2 hm (by omega) en2 hn, Nat.reduceLeDiff, Nat.reduceAdd]
      exact h
  by_cases e6 : mA M1 amKd m.toNat = 6
  · rw [actF_6 e6] at hP
    simp (disch := first | omega | (simp only [DT, DS, ne_eq, Nat.reduceEqDiff, not_false_eq_true]; done)) only [RX10_acts, BW, wr_id, OM, OE, PL, ↓reduceIte, mSt.e hsM, mSt.e hs, hM1, hR', TGs, e6, Nat.reduceLeDiff, Nat.reduceAdd]
    refine w_delay hc hm _ ?_
    have hcl : 1 ≤ clp (mA M1 amKn (3 * m).toNat) ∧ clp (mA M1 amKn (3 * m).toNat) ≤ 4 := by
      unfold clp
      repeat' split
      all_goals omega
    have e := cp_ok (f := m) (r := clp (mA M1 amKn (3 * m).toNat)) s1 hm (by omega) (s1.2.2.2.2.2.2.2 _ hcl.1 hcl.2) hR
    have g := hP _ e.1 e.2
    simp (disch := first | omega | (simp only [DT, DS, ne_eq, Nat.reduceEqDiff, not_false_eq_true]; done)) only [RX10_acts, BW, wr_id, OM, OE, PL, ↓reduceIte, Nat.reduceLeDiff, Nat.reduceAdd]
    exact g
  by_cases e9 : mA M1 amKd m.toNat = 9
  · rw [actF_9 e9] at hP
    simp (disch := first | omega | (simp only [DT, DS, ne_eq, Nat.reduceEqDiff, not_false_eq_true]; done)) only [RX10_acts, BW, wr_id, OM, OE, PL, ↓reduceIte, mSt.e hsM, mSt.e hs, hM1, hR', TGs, e9, Nat.reduceLeDiff, Nat.reduceAdd]
    refine w_switch hc ha hm (hself e6) _ ?_
    refine aPost_i (fun M2 h => ?_) (fun M2 h => ?_) _ hP
    · simp (disch := first | omega | (simp only [DT, DS, ne_eq, Nat.reduceEqDiff, not_false_eq_true]; done)) only [RX10_acts, BW, wr_id, OM, OE, PL, ↓reduceIte, Nat.reduceLeDiff, Nat.reduceAdd]
      exact h
    · simp (disch := first | omega | (simp only [DT, DS, ne_eq, Nat.reduceEqDiff, not_false_eq_true]; done)) only [RX10_acts, BW, wr_id, OM, OE, PL, ↓reduceIte, Nat.reduceLeDiff, Nat.reduceAdd]
      exact h
  have e5 : mA M1 amKd m.toNat = 5 := by omega
  rw [actF_5 e5] at hP
  have qc0 := q_counts (i := 0) hs (mF.refl m hR) hm (by omega) hco ha.kb
  have qc1 := q_counts (i := 1) hs (mF.refl m hR) hm (by omega) hco ha.kb
  have qc2 := q_counts (i := 2) hs (mF.refl m hR) hm (by omega) hco ha.kb
  by_cases b0 : cB M1 m 0 = true
  · have hso : ((iRw A (mA M1 amCo (3 * m + 0).toNat)).isSome || (iRw A (mA M1 amCo (3 * m + 1).toNat)).isSome || (iRw A (mA M1 amCo (3 * m + 2).toNat)).isSome) = true := by
      rw [← cB_s (i := 0) hc ha, ← cB_s (i := 1) hc ha, ← cB_s (i := 2) hc ha, b0]
      simp
    rw [if_pos hso, fam_if] at hP
    simp (disch := first | omega | (simp only [DT, DS, ne_eq, Nat.reduceEqDiff, not_false_eq_true]; done)) only [RX10_acts, BW, wr_id, OM, OE, PL, ↓reduceIte, mSt.e hsM, mSt.e hs, hM1, hR', TGs, e5, qc0, bi_t b0, Nat.reduceLeDiff, Nat.reduceAdd]
    refine w_mix hc ha ht hm h28 _ (fam_post (kd := 2) hc hm (by omega) s1 (fun M2 h => ?_) (fun M2 hs2 hR2 en2 h => ?_) _ hP)
    · simp (disch := first | omega | (simp only [DT, DS, ne_eq, Nat.reduceEqDiff, not_false_eq_true]; done)) only [RX10_acts, BW, wr_id, OM, OE, PL, ↓reduceIte, Nat.reduceLeDiff, Nat.reduceAdd]
      exact h
    · have hR2' : ∀ L k, wr (mA M2 L k) = mA M2 L k := hR2
      simp (disch := first | omega | (simp only [DT, DS, ne_eq, Nat.reduceEqDiff, not_false_eq_true]; done)) only [RX10_acts, BW, wr_id, OM, OE, PL, ↓reduceIte, mSt.e hs2, hR2', TGs, s_give m 2 n M2 hs2 hR2 hm (by omega) en2 hn, Nat.reduceLeDiff, Nat.reduceAdd]
      exact h
  by_cases b1 : cB M1 m 1 = true
  · have hso : ((iRw A (mA M1 amCo (3 * m + 0).toNat)).isSome || (iRw A (mA M1 amCo (3 * m + 1).toNat)).isSome || (iRw A (mA M1 amCo (3 * m + 2).toNat)).isSome) = true := by
      rw [← cB_s (i := 0) hc ha, ← cB_s (i := 1) hc ha, ← cB_s (i := 2) hc ha, b1]
      simp
    rw [if_pos hso, fam_if] at hP
    simp (disch := first | omega | (simp only [DT, DS, ne_eq, Nat.reduceEqDiff, not_false_eq_true]; done)) only [RX10_acts, BW, wr_id, OM, OE, PL, ↓reduceIte, mSt.e hsM, mSt.e hs, hM1, hR', TGs, e5, qc0, qc1, bi_f b0, bi_t b1, Nat.reduceLeDiff, Nat.reduceAdd]
    refine w_mix hc ha ht hm h28 _ (fam_post (kd := 2) hc hm (by omega) s1 (fun M2 h => ?_) (fun M2 hs2 hR2 en2 h => ?_) _ hP)
    · simp (disch := first | omega | (simp only [DT, DS, ne_eq, Nat.reduceEqDiff, not_false_eq_true]; done)) only [RX10_acts, BW, wr_id, OM, OE, PL, ↓reduceIte, Nat.reduceLeDiff, Nat.reduceAdd]
      exact h
    · have hR2' : ∀ L k, wr (mA M2 L k) = mA M2 L k := hR2
      simp (disch := first | omega | (simp only [DT, DS, ne_eq, Nat.reduceEqDiff, not_false_eq_true]; done)) only [RX10_acts, BW, wr_id, OM, OE, PL, ↓reduceIte, mSt.e hs2, hR2', TGs, s_give m 2 n M2 hs2 hR2 hm (by omega) en2 hn, Nat.reduceLeDiff, Nat.reduceAdd]
      exact h
  by_cases b2 : cB M1 m 2 = true
  · have hso : ((iRw A (mA M1 amCo (3 * m + 0).toNat)).isSome || (iRw A (mA M1 amCo (3 * m + 1).toNat)).isSome || (iRw A (mA M1 amCo (3 * m + 2).toNat)).isSome) = true := by
      rw [← cB_s (i := 0) hc ha, ← cB_s (i := 1) hc ha, ← cB_s (i := 2) hc ha, b2]
      simp
    rw [if_pos hso, fam_if] at hP
    simp (disch := first | omega | (simp only [DT, DS, ne_eq, Nat.reduceEqDiff, not_false_eq_true]; done)) only [RX10_acts, BW, wr_id, OM, OE, PL, ↓reduceIte, mSt.e hsM, mSt.e hs, hM1, hR', TGs, e5, qc0, qc1, qc2, bi_f b0, bi_f b1, bi_t b2, Nat.reduceLeDiff, Nat.reduceAdd]
    refine w_mix hc ha ht hm h28 _ (fam_post (kd := 2) hc hm (by omega) s1 (fun M2 h => ?_) (fun M2 hs2 hR2 en2 h => ?_) _ hP)
    · simp (disch := first | omega | (simp only [DT, DS, ne_eq, Nat.reduceEqDiff, not_false_eq_true]; done)) only [RX10_acts, BW, wr_id, OM, OE, PL, ↓reduceIte, Nat.reduceLeDiff, Nat.reduceAdd]
      exact h
    · have hR2' : ∀ L k, wr (mA M2 L k) = mA M2 L k := hR2
      simp (disch := first | omega | (simp only [DT, DS, ne_eq, Nat.reduceEqDiff, not_false_eq_true]; done)) only [RX10_acts, BW, wr_id, OM, OE, PL, ↓reduceIte, mSt.e hs2, hR2', TGs, s_give m 2 n M2 hs2 hR2 hm (by omega) en2 hn, Nat.reduceLeDiff, Nat.reduceAdd]
      exact h
  have f0 := Bool.eq_false_iff.mpr b0
  have f1 := Bool.eq_false_iff.mpr b1
  have f2 := Bool.eq_false_iff.mpr b2
  have hso : ¬ ((iRw A (mA M1 amCo (3 * m + 0).toNat)).isSome || (iRw A (mA M1 amCo (3 * m + 1).toNat)).isSome || (iRw A (mA M1 amCo (3 * m + 2).toNat)).isSome) = true := by
    rw [← cB_s (i := 0) hc ha, ← cB_s (i := 1) hc ha, ← cB_s (i := 2) hc ha, f0, f1, f2]
    decide
  rw [if_neg hso] at hP
  simp (disch := first | omega | (simp only [DT, DS, ne_eq, Nat.reduceEqDiff, not_false_eq_true]; done)) only [RX10_acts, BW, wr_id, OM, OE, PL, ↓reduceIte, mSt.e hsM, mSt.e hs, hM1, hR', TGs, e5, qc0, qc1, qc2, bi_f b0, bi_f b1, bi_f b2, Nat.reduceLeDiff, Nat.reduceAdd]
  refine w_mix hc ha ht hm h28 _ ?_
  by_cases hb : (oBad (iRw A (mA M1 amCo (3 * m + 0).toNat)) || oBad (iRw A (mA M1 amCo (3 * m + 1).toNat)) || oBad (iRw A (mA M1 amCo (3 * m + 2).toNat))) = true
  · rw [if_pos hb] at hP ⊢
    intro M2 hF a b c
    have g := hP M2 (hF.g hm.1) a b c
    simp (disch := first | omega | (simp only [DT, DS, ne_eq, Nat.reduceEqDiff, not_false_eq_true]; done)) only [RX10_acts, BW, wr_id, OM, OE, PL, ↓reduceIte, Nat.reduceLeDiff, Nat.reduceAdd]
    exact g
  · rw [if_neg hb] at hP ⊢
    obtain ⟨z', a1, a2, a3, a4, a5, a6⟩ := mix_none (c := fun i => (iRw A (mA M1 amCo (3 * m + i).toNat)).isSome) (l := fun i => oL (iRw A (mA M1 amCo (3 * m + i).toNat))) (v := fun i => oV (iRw A (mA M1 amCo (3 * m + i).toNat))) (fun i x y => by
      show (iRw A (mA M1 amCo (3 * m + i).toNat)).isSome = false
      rw [← cB_s hc ha]
      rcases (show i = 0 ∨ i = 1 ∨ i = 2 by omega) with rfl | rfl | rfl
      · exact f0
      · exact f1
      · exact f2) n.toNat 0 (z0 (A m))
    rw [a1]
    intro M2 hF hV
    have hs2 := hF.st hs
    have hR2 := hF.2.2.2.2.2
    have hR2' : ∀ L k, wr (mA M2 L k) = mA M2 L k := hR2
    have e := no_ok (mF_s1 hF hV s1 hm a2 a3 a4 a5 a6) hm hR2
    have g := hP _ ((hF.g hm.1).trans e.1) e.2
    simp (disch := first | omega | (simp only [DT, DS, ne_eq, Nat.reduceEqDiff, not_false_eq_true]; done)) only [RX10_acts, BW, wr_id, OM, OE, PL, ↓reduceIte, mSt.e hs2, hR2', TGs, s_noRow m 0 M2 hs2 hR2, Nat.reduceLeDiff, Nat.reduceAdd]
    exact g
