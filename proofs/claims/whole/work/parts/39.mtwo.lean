/-! 39.mtwo: the reference: GATE, SHAPE .., MEAN, TURN from their start (written by wip/whole/wgen2.py) -/
theorem i32_id {v : Int} (h : -2147483648 ≤ v ∧ v ≤ 2147483647) : (Int32.ofInt v).toInt = v := by
  rw [wr_eq]
  exact wr_id h.1 h.2
theorem d2l_i {v : Int} (h : -2147483648 ≤ v ∧ v ≤ 2147483647) : (FP.d2l (FP.i2d (Int32.ofInt v))).toInt = v := by
  have h1 := i32_id h
  have h2 : (Int64.ofInt v).toInt = v := by rw [w64_eq]; exact w64_id (by omega) (by omega)
  have h3 : Jvm.FP.Core.DInt (Int64.ofInt v).toInt (FP.i2d (Int32.ofInt v)) := by
    rw [h2]
    have h5 := Jvm.FP.Core.i2d_int (Int32.ofInt v)
    rwa [h1] at h5
  have h4 := Jvm.FP.Core.d2l_int h3
  rw [show FP.d2l (FP.i2d (Int32.ofInt v)) = Int64.ofInt v from h4, h2]
theorem sv_in {kd : Int} {x : UInt64} (h : svK kd x) (hk : kd < 3) : -2147483648 ≤ (FP.d2l x).toInt ∧ (FP.d2l x).toInt ≤ 2147483647 := by
  obtain ⟨v, hv, e⟩ := h.1 hk
  rw [e, d2l_i hv]
  exact hv
theorem w_gate {M : xm} {n t m : Int} {A : Int → SS} (hc : mCf M n) (ha : mAs M t A) (ht : t ≤ 50000) (hm : 0 ≤ m ∧ m ≤ 23) (h28 : mA M aM 28 = 0) (Q : Option xv → xm → Prop) (hP : mPost M m n Q (bZ (wantF A (mA M amCo (3 * m).toNat) 4) (fun r => lpF (gatS (mA M amKn (3 * m).toNat) (mA M amKn (3 * m + 1).toNat) (rwL r) (rwN r) (rwV r)) n.toNat 0 (z0 (A m))))) : Wp qX10_gate 0 [vR aM, vI m, vX, vX, vX, vX] [] M Q := by
  obtain ⟨hs, hR, hco, hkd, hrk, hkn, htm, en, hn⟩ := id hc
  have hR' : ∀ L k, wr (mA M L k) = mA M L k := hR
  have qw := fun Q => q_want (i := 0) (k := 4) hc ha hm (by omega) (by omega) Q
  rw [Int.add_zero] at qw
  obtain ⟨s1, s2⟩ := ha m hm.1 hm.2
  have hV := mV_0 s1 h28
  have hc0 := hco (3 * m).toNat
  cases hw : wantF A (mA M amCo (3 * m).toNat) 4 with
  | inl f =>
    rw [hw] at hP qw
    have hf := want_l hw
    change ∀ Q : Option xv → xm → Prop, _ ↔ Q (some (vI 0)) (wA (wA (wA M aM 16 f) aM 17 m) aM 18 (-1)) at qw
    simp (disch := first | omega | (simp only [DT, DS, ne_eq, Nat.reduceEqDiff, not_false_eq_true]; done)) only [RX10_gate, BW, wr_id, OM, OE, PL, ↓reduceIte, mSt.e hs, hR', TGs, qw, Nat.reduceLeDiff, Nat.reduceAdd]
    exact mfail (mF.refl m hR) (wr_id (by omega) (by omega)) (wr_id (by omega) (by omega)) (by decide) hP
  | inr r =>
    rw [hw] at hP qw
    change ∀ Q : Option xv → xm → Prop, _ ↔ Q (some (vI 1)) M at qw
    change mPost M m n Q (lpF (gatS (mA M amKn (3 * m).toNat) (mA M amKn (3 * m + 1).toNat) (rwL r) (rwN r) (rwV r)) n.toNat 0 (z0 (A m))) at hP
    obtain ⟨w1, w2, w3⟩ := want_r hw
    obtain ⟨t1, t2⟩ := ha (mA M amCo (3 * m).toNat - 1) (by omega) (by omega)
    have t3 := t1.1
    rw [w2] at t3
    obtain ⟨r1, r2, r3, r4⟩ := mRw_s t3
    have hok := t2.1 r w2
    simp (disch := first | omega | (simp only [DT, DS, ne_eq, Nat.reduceEqDiff, not_false_eq_true]; done)) only [RX10_gate, BW, wr_id, OM, OE, PL, ↓reduceIte, mSt.e hs, hR', TGs, qw, Nat.reduceLeDiff, Nat.reduceAdd]
    have g := l_gate hs m n (mA M amCo (3 * m).toNat - 1) (mA M amKn (3 * m).toNat) (mA M amKn (3 * m + 1).toNat) hm hn en hco (by omega) (by omega) rfl rfl Q n.toNat 0 (z0 (A m)) M vX vX (by omega) (by omega) (mF.refl m hR) hV s2.2.2.2.1 (by rw [lpF_c n.toNat 0 (z0 (A m)) (step' := gatS (mA M amKn (3 * m).toNat) (mA M amKn (3 * m + 1).toNat) (rwL r) (rwN r) (rwV r)) (fun j z a b => by unfold gatS; rw [r2, r3, r4 j (by omega) (by omega)])]; exact hP)
    exact g
theorem w_mean {M : xm} {n t m : Int} {A : Int → SS} (hc : mCf M n) (ha : mAs M t A) (ht : t ≤ 50000) (hm : 0 ≤ m ∧ m ≤ 23) (h28 : mA M aM 28 = 0) (Q : Option xv → xm → Prop) (hP : mPost M m n Q (bZ (wantF A (mA M amCo (3 * m).toNat) 2) (fun r => lpF (menS (mA M amKn (3 * m).toNat) (rwL r) (rwV r)) n.toNat 0 (z0 (A m))))) : Wp qX10_mean 0 [vR aM, vI m, vX, vX, vX, vX, vX] [] M Q := by
  obtain ⟨hs, hR, hco, hkd, hrk, hkn, htm, en, hn⟩ := id hc
  have hR' : ∀ L k, wr (mA M L k) = mA M L k := hR
  have qw := fun Q => q_want (i := 0) (k := 2) hc ha hm (by omega) (by omega) Q
  rw [Int.add_zero] at qw
  obtain ⟨s1, s2⟩ := ha m hm.1 hm.2
  have hV := mV_0 s1 h28
  have hc0 := hco (3 * m).toNat
  cases hw : wantF A (mA M amCo (3 * m).toNat) 2 with
  | inl f =>
    rw [hw] at hP qw
    have hf := want_l hw
    change ∀ Q : Option xv → xm → Prop, _ ↔ Q (some (vI 0)) (wA (wA (wA M aM 16 f) aM 17 m) aM 18 (-1)) at qw
    simp (disch := first | omega | (simp only [DT, DS, ne_eq, Nat.reduceEqDiff, not_false_eq_true]; done)) only [RX10_mean, BW, wr_id, OM, OE, PL, ↓reduceIte, mSt.e hs, hR', TGs, qw, Nat.reduceLeDiff, Nat.reduceAdd]
    exact mfail (mF.refl m hR) (wr_id (by omega) (by omega)) (wr_id (by omega) (by omega)) (by decide) hP
  | inr r =>
    rw [hw] at hP qw
    change ∀ Q : Option xv → xm → Prop, _ ↔ Q (some (vI 1)) M at qw
    change mPost M m n Q (lpF (menS (mA M amKn (3 * m).toNat) (rwL r) (rwV r)) n.toNat 0 (z0 (A m))) at hP
    obtain ⟨w1, w2, w3⟩ := want_r hw
    obtain ⟨t1, t2⟩ := ha (mA M amCo (3 * m).toNat - 1) (by omega) (by omega)
    have t3 := t1.1
    rw [w2] at t3
    obtain ⟨r1, r2, r3, r4⟩ := mRw_s t3
    have hok := t2.1 r w2
    simp (disch := first | omega | (simp only [DT, DS, ne_eq, Nat.reduceEqDiff, not_false_eq_true]; done)) only [RX10_mean, BW, wr_id, OM, OE, PL, ↓reduceIte, mSt.e hs, hR', TGs, qw, Nat.reduceLeDiff, Nat.reduceAdd]
    have hk2 : rwK r = 2 := by omega
    have g := l_mean hs m n (mA M amCo (3 * m).toNat - 1) (mA M amKn (3 * m).toNat) hm hn en hco (by omega) (by omega) (hkn _) rfl (fun k a b => by rw [r4 k a b]; exact sv_in (hok.2.2.2.2.1 k a b) (by omega)) Q n.toNat 0 (z0 (A m)) M vX vX (by omega) (by omega) (mF.refl m hR) hV ⟨s2.2.2.2.2.1.1, by have := s2.2.2.2.2.1.2; show sN (A m) ≤ _; omega⟩ ⟨by show _ ≤ (0 : Int); omega, by show (0 : Int) ≤ _; omega⟩ (by rw [lpF_c n.toNat 0 (z0 (A m)) (step' := menS (mA M amKn (3 * m).toNat) (rwL r) (rwV r)) (fun j z a b => by unfold menS; rw [r2, r4 j (by omega) (by omega)])]; exact hP)
    exact g
theorem w_shape {M : xm} {n t m : Int} {A : Int → SS} (hc : mCf M n) (ha : mAs M t A) (ht : t ≤ 50000) (hm : 0 ≤ m ∧ m ≤ 23) (h28 : mA M aM 28 = 0) (hkd4 : 1 ≤ mA M amKd m.toNat ∧ mA M amKd m.toNat ≤ 4) (Q : Option xv → xm → Prop) (hP : mPost M m n Q (bZ (wantF A (mA M amCo (3 * m).toNat) 4) (fun r => lpF (shpS (mA M amKd m.toNat) (sB (A m)) (mA M amKn (3 * m).toNat) (mA M amKn (3 * m + 1).toNat) (mA M amKn (3 * m + 2).toNat) n (rwL r) (rwN r) (rwV r)) n.toNat 0 (z0 (A m))))) : Wp qX10_shape 0 [vR aM, vI m, vX, vX, vX] [] M Q := by
  obtain ⟨hs, hR, hco, hkd, hrk, hkn, htm, en, hn⟩ := id hc
  have hR' : ∀ L k, wr (mA M L k) = mA M L k := hR
  have qw := fun Q => q_want (i := 0) (k := 4) hc ha hm (by omega) (by omega) Q
  rw [Int.add_zero] at qw
  obtain ⟨s1, s2⟩ := ha m hm.1 hm.2
  have hV := mV_0 s1 h28
  have hc0 := hco (3 * m).toNat
  cases hw : wantF A (mA M amCo (3 * m).toNat) 4 with
  | inl f =>
    rw [hw] at hP qw
    have hf := want_l hw
    change ∀ Q : Option xv → xm → Prop, _ ↔ Q (some (vI 0)) (wA (wA (wA M aM 16 f) aM 17 m) aM 18 (-1)) at qw
    simp (disch := first | omega | (simp only [DT, DS, ne_eq, Nat.reduceEqDiff, not_false_eq_true]; done)) only [RX10_shape, BW, wr_id, OM, OE, PL, ↓reduceIte, mSt.e hs, hR', TGs, qw, Nat.reduceLeDiff, Nat.reduceAdd]
    exact mfail (mF.refl m hR) (wr_id (by omega) (by omega)) (wr_id (by omega) (by omega)) (by decide) hP
  | inr r =>
    rw [hw] at hP qw
    change ∀ Q : Option xv → xm → Prop, _ ↔ Q (some (vI 1)) M at qw
    change mPost M m n Q (lpF (shpS (mA M amKd m.toNat) (sB (A m)) (mA M amKn (3 * m).toNat) (mA M amKn (3 * m + 1).toNat) (mA M amKn (3 * m + 2).toNat) n (rwL r) (rwN r) (rwV r)) n.toNat 0 (z0 (A m))) at hP
    obtain ⟨w1, w2, w3⟩ := want_r hw
    obtain ⟨t1, t2⟩ := ha (mA M amCo (3 * m).toNat - 1) (by omega) (by omega)
    have t3 := t1.1
    rw [w2] at t3
    obtain ⟨r1, r2, r3, r4⟩ := mRw_s t3
    have hok := t2.1 r w2
    simp (disch := first | omega | (simp only [DT, DS, ne_eq, Nat.reduceEqDiff, not_false_eq_true]; done)) only [RX10_shape, BW, wr_id, OM, OE, PL, ↓reduceIte, mSt.e hs, hR', TGs, qw, Nat.reduceLeDiff, Nat.reduceAdd]
    have hk2 : rwK r = 4 := by omega
    have g := l_shape hs m n (mA M amCo (3 * m).toNat - 1) (mA M amKd m.toNat) (sB (A m)) (mA M amKn (3 * m).toNat) (mA M amKn (3 * m + 1).toNat) (mA M amKn (3 * m + 2).toNat) hm hn en hco (by omega) (by omega) hkd4 rfl s1.2.2.2.2.2.2.1 rfl rfl rfl (fun k a b => by rw [r4 k a b]; exact sv_mg (hok.2.2.2.2.1 k a b) (by omega)) Q n.toNat 0 (z0 (A m)) M vX vX (by omega) (by omega) (mF.refl m hR) hV s2.2.2.1.1 s2.2.2.1.2 ⟨Int.le_refl 0, by show (0 : Int) < 2 ^ 0; decide⟩ (by rw [lpF_c n.toNat 0 (z0 (A m)) (step' := shpS (mA M amKd m.toNat) (sB (A m)) (mA M amKn (3 * m).toNat) (mA M amKn (3 * m + 1).toNat) (mA M amKn (3 * m + 2).toNat) n (rwL r) (rwN r) (rwV r)) (fun j z a b => by unfold shpS; rw [r2, r3, r4 j (by omega) (by omega)])]; exact hP)
    exact g
theorem w_turn {M : xm} {n t m : Int} {A : Int → SS} (hc : mCf M n) (ha : mAs M t A) (ht : t ≤ 50000) (hm : 0 ≤ m ∧ m ≤ 23) (h28 : mA M aM 28 = 0) (Q : Option xv → xm → Prop) (hP : mPost M m n Q (bZ (wantF A (mA M amCo (3 * m).toNat) (-1)) (fun r => lpF (trnS (decide (3 ≤ rwK r)) (mA M amRk m.toNat) (rwL r) (rwN r) (rwV r)) n.toNat 0 (z0 (A m))))) : Wp qX10_turn 0 [vR aM, vI m, vX, vX, vX, vX, vX] [] M Q := by
  obtain ⟨hs, hR, hco, hkd, hrk, hkn, htm, en, hn⟩ := id hc
  have hR' : ∀ L k, wr (mA M L k) = mA M L k := hR
  have qw := fun Q => q_want (i := 0) (k := -1) hc ha hm (by omega) (by omega) Q
  rw [Int.add_zero] at qw
  obtain ⟨s1, s2⟩ := ha m hm.1 hm.2
  have hV := mV_0 s1 h28
  have hc0 := hco (3 * m).toNat
  cases hw : wantF A (mA M amCo (3 * m).toNat) (-1) with
  | inl f =>
    rw [hw] at hP qw
    have hf := want_l hw
    change ∀ Q : Option xv → xm → Prop, _ ↔ Q (some (vI 0)) (wA (wA (wA M aM 16 f) aM 17 m) aM 18 (-1)) at qw
    simp (disch := first | omega | (simp only [DT, DS, ne_eq, Nat.reduceEqDiff, not_false_eq_true]; done)) only [RX10_turn, BW, wr_id, OM, OE, PL, ↓reduceIte, mSt.e hs, hR', TGs, qw, Nat.reduceLeDiff, Nat.reduceAdd]
    exact mfail (mF.refl m hR) (wr_id (by omega) (by omega)) (wr_id (by omega) (by omega)) (by decide) hP
  | inr r =>
    rw [hw] at hP qw
    change ∀ Q : Option xv → xm → Prop, _ ↔ Q (some (vI 1)) M at qw
    change mPost M m n Q (lpF (trnS (decide (3 ≤ rwK r)) (mA M amRk m.toNat) (rwL r) (rwN r) (rwV r)) n.toNat 0 (z0 (A m))) at hP
    obtain ⟨w1, w2, w3⟩ := want_r hw
    obtain ⟨t1, t2⟩ := ha (mA M amCo (3 * m).toNat - 1) (by omega) (by omega)
    have t3 := t1.1
    rw [w2] at t3
    obtain ⟨r1, r2, r3, r4⟩ := mRw_s t3
    have hok := t2.1 r w2
    have qk := fun Q => s_kindOf (mA M amCo (3 * m).toNat - 1) M hs hR (by omega) Q
    rw [r1, show rwK r + 1 - 1 = rwK r by omega] at qk
    have g := l_turn hs m n (mA M amCo (3 * m).toNat - 1) (mA M amRk m.toNat) (decide (3 ≤ rwK r)) hm hn en hco (by omega) (by omega) (hrk _) (fun e k a b => by rw [r4 k a b]; exact (sv_mg (hok.2.2.2.2.1 k a b) (of_decide_eq_true e)).le (by decide)) (fun e k a b => by rw [r4 k a b]; exact sv_in (hok.2.2.2.2.1 k a b) (by have := of_decide_eq_false e; omega)) Q n.toNat 0 (z0 (A m)) M vX vX (by omega) (by omega) (mF.refl m hR) hV ⟨s2.2.2.2.2.1.1, by have := s2.2.2.2.2.1.2; show sN (A m) ≤ _; omega⟩ ⟨Int.le_refl 0, by show (0 : Int) < 2 ^ 0; decide⟩ (by rw [lpF_c n.toNat 0 (z0 (A m)) (step' := trnS (decide (3 ≤ rwK r)) (mA M amRk m.toNat) (rwL r) (rwN r) (rwV r)) (fun j z a b => by unfold trnS; rw [r2, r3, r4 j (by omega) (by omega)])]; exact hP)
    have hk5 := hok.1
    by_cases c : 3 ≤ rwK r
    · rw [decide_eq_true c, bi_t rfl] at g
      simp (disch := first | omega | (simp only [DT, DS, ne_eq, Nat.reduceEqDiff, not_false_eq_true]; done)) only [RX10_turn, BW, wr_id, OM, OE, PL, ↓reduceIte, mSt.e hs, hR', TGs, qw, Nat.reduceLeDiff, Nat.reduceAdd, qk]
      exact g
    · rw [decide_eq_false c, bi_f (by decide)] at g
      simp (disch := first | omega | (simp only [DT, DS, ne_eq, Nat.reduceEqDiff, not_false_eq_true]; done)) only [RX10_turn, BW, wr_id, OM, OE, PL, ↓reduceIte, mSt.e hs, hR', TGs, qw, Nat.reduceLeDiff, Nat.reduceAdd, qk]
      exact g
