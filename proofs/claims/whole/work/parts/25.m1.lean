/-! 25.m1: the reference: its small methods (written by wip/whole/mgen.py) -/
theorem s_isIn (v l h : Int) (M : xm) (Q : Option xv → xm → Prop) : Wp qX10_isIn 0 [vI v, vI l, vI h] [] M Q ↔ Q (some (vI (bi (wr l ≤ wr v ∧ wr v ≤ wr h)))) M := by
  simp only [RX10_isIn, BW]
  by_cases h1 : wr v < wr l
  · simp [h1, bi_f (show ¬ (wr l ≤ wr v ∧ wr v ≤ wr h) by omega)]
  · by_cases h2 : wr h < wr v
    · simp [h1, h2, bi_f (show ¬ (wr l ≤ wr v ∧ wr v ≤ wr h) by omega)]
    · simp [h1, h2, bi_t (show (wr l ≤ wr v ∧ wr v ≤ wr h) by omega)]
theorem s_isModule (m : Int) (M : xm) (hs : mSt M) (hR : inR M) (hm : -2147483648 ≤ m ∧ m ≤ 2147483647) (hn : 0 ≤ mA M aM 3 ∧ mA M aM 3 ≤ 24) (Q : Option xv → xm → Prop) : Wp qX10_isModule 0 [vR aM, vI m] [] M Q ↔ Q (some (vI (bi (0 ≤ m ∧ m ≤ mA M aM 3 - 1)))) M := by
  have hs' := hs
  unfold mSt at hs'
  have hR' : ∀ L k, wr (mA M L k) = mA M L k := hR
  simp (disch := first | omega | (simp only [DT, DS, ne_eq, Nat.reduceEqDiff, not_false_eq_true]; done)) only [RX10_isModule, BW, wr_id, OM, PL, if_true, if_false, hs', hR', TGs, wr_bi, bi_01, Nat.reduceLeDiff, Nat.reduceAdd, ite_not, s_isIn]
theorem s_hasIn (m i : Int) (M : xm) (hs : mSt M) (hR : inR M) (hm : -2147483648 ≤ m ∧ m ≤ 2147483647) (hi : -2147483648 ≤ i ∧ i ≤ 2147483647) (hn : 0 ≤ mA M aM 3 ∧ mA M aM 3 ≤ 24) (Q : Option xv → xm → Prop) : Wp qX10_hasIn 0 [vR aM, vI m, vI i] [] M Q ↔ Q (some (vI (bi ((0 ≤ m ∧ m ≤ mA M aM 3 - 1) ∧ 0 ≤ i ∧ i ≤ if mA M amKd m.toNat = 5 then 2 else 1)))) M := by
  have hs' := hs
  unfold mSt at hs'
  have hR' : ∀ L k, wr (mA M L k) = mA M L k := hR
  simp (disch := first | omega | (simp only [DT, DS, ne_eq, Nat.reduceEqDiff, not_false_eq_true]; done)) only [RX10_hasIn, BW, wr_id, OM, PL, if_true, if_false, hs', hR', TGs, wr_bi, bi_01, Nat.reduceLeDiff, Nat.reduceAdd, ite_not, s_isIn, s_isModule m M hs hR hm hn]
  repeat' split
  all_goals first | (rw [bi_t (by omega)]) | (rw [bi_f (by omega)])
theorem s_leads (a b : Int) (M : xm) (hs : mSt M) (hR : inR M) (ha : 0 ≤ a ∧ a ≤ 23) (hb : 0 ≤ b ∧ b ≤ 23) (Q : Option xv → xm → Prop) : Wp qX10_leads 0 [vR aM, vI a, vI b] [] M Q ↔ Q (some (vI (bi (mA M amCo (3 * b).toNat = a + 1 ∨ mA M amCo (3 * b + 1).toNat = a + 1 ∨ mA M amCo (3 * b + 2).toNat = a + 1)))) M := by
  have hs' := hs
  unfold mSt at hs'
  have hR' : ∀ L k, wr (mA M L k) = mA M L k := hR
  simp (disch := first | omega | (simp only [DT, DS, ne_eq, Nat.reduceEqDiff, not_false_eq_true]; done)) only [RX10_leads, BW, wr_id, OM, PL, if_true, if_false, hs', hR', TGs, wr_bi, bi_01, Nat.reduceLeDiff, Nat.reduceAdd, ite_not]
  repeat' split
  all_goals first | (rw [bi_t (by omega)]) | (rw [bi_f (by omega)])
theorem s_rowAt (m r : Int) (M : xm) (hs : mSt M) (hR : inR M) (Q : Option xv → xm → Prop) : Wp qX10_rowAt 0 [vR aM, vI m, vI r] [] M Q ↔ Q (some (vI (20 * m + 3 * r))) M := by
  have hs' := hs
  unfold mSt at hs'
  have hR' : ∀ L k, wr (mA M L k) = mA M L k := hR
  simp (disch := first | omega | (simp only [DT, DS, ne_eq, Nat.reduceEqDiff, not_false_eq_true]; done)) only [RX10_rowAt, BW, wr_id, OM, PL, if_true, if_false, hs', hR', TGs, wr_bi, bi_01, Nat.reduceLeDiff, Nat.reduceAdd, ite_not]
theorem s_kindOf (m : Int) (M : xm) (hs : mSt M) (hR : inR M) (hm : 0 ≤ m ∧ m ≤ 239) (Q : Option xv → xm → Prop) : Wp qX10_kindOf 0 [vR aM, vI m] [] M Q ↔ Q (some (vI (mA M amIn (20 * m).toNat - 1))) M := by
  have hs' := hs
  unfold mSt at hs'
  have hR' : ∀ L k, wr (mA M L k) = mA M L k := hR
  simp (disch := first | omega | (simp only [DT, DS, ne_eq, Nat.reduceEqDiff, not_false_eq_true]; done)) only [RX10_kindOf, BW, wr_id, OM, PL, if_true, if_false, hs', hR', TGs, wr_bi, bi_01, Nat.reduceLeDiff, Nat.reduceAdd, ite_not, s_rowAt m 0 M hs hR, Int.mul_zero, Int.add_zero]
theorem s_noRow (m r : Int) (M : xm) (hs : mSt M) (hR : inR M) (hm : 0 ≤ m ∧ m ≤ 239) (hr : 0 ≤ r ∧ r ≤ 4) (Q : Option xv → xm → Prop) : Wp qX10_noRow 0 [vR aM, vI m, vI r] [] M Q ↔ Q none (wA M amIn (20 * m + 3 * r).toNat 0) := by
  have hs' := hs
  unfold mSt at hs'
  have hR' : ∀ L k, wr (mA M L k) = mA M L k := hR
  simp (disch := first | omega | (simp only [DT, DS, ne_eq, Nat.reduceEqDiff, not_false_eq_true]; done)) only [RX10_noRow, BW, wr_id, OM, PL, if_true, if_false, hs', hR', TGs, wr_bi, bi_01, Nat.reduceLeDiff, Nat.reduceAdd, ite_not, s_rowAt m r M hs hR]
theorem s_fails (w m k : Int) (M : xm) (hs : mSt M) (hR : inR M) (hw : -2147483648 ≤ w ∧ w ≤ 2147483647) (hm : -2147483648 ≤ m ∧ m ≤ 2147483647) (hk : -2147483648 ≤ k ∧ k ≤ 2147483647) (Q : Option xv → xm → Prop) : Wp qX10_fails 0 [vR aM, vI w, vI m, vI k] [] M Q ↔ Q (some (vI 0)) (wA (wA (wA M aM 16 w) aM 17 m) aM 18 k) := by
  have hs' := hs
  unfold mSt at hs'
  have hR' : ∀ L k, wr (mA M L k) = mA M L k := hR
  simp (disch := first | omega | (simp only [DT, DS, ne_eq, Nat.reduceEqDiff, not_false_eq_true]; done)) only [RX10_fails, BW, wr_id, OM, PL, if_true, if_false, hs', hR', TGs, wr_bi, bi_01, Nat.reduceLeDiff, Nat.reduceAdd, ite_not]
theorem s_module (kd rk : Int) (M : xm) (hs : mSt M) (hR : inR M) (hkd : -2147483648 ≤ kd ∧ kd ≤ 2147483647) (hrk : -2147483648 ≤ rk ∧ rk ≤ 2147483647) (hn : 0 ≤ mA M aM 3 ∧ mA M aM 3 ≤ 24) (Q : Option xv → xm → Prop) : Wp qX10_module 0 [vR aM, vI kd, vI rk] [] M Q ↔ if ¬ (0 ≤ kd ∧ kd ≤ 10) then Q (some (vI (-1))) M else if ¬ (0 ≤ rk ∧ rk ≤ 4) then Q (some (vI (-1))) M else if mA M aM 3 = 24 then Q (some (vI (-2))) M else Q (some (vI (mA M aM 3))) (wA (wA (wA M amKd (mA M aM 3).toNat kd) amRk (mA M aM 3).toNat rk) aM 3 (mA M aM 3 + 1)) := by
  have hs' := hs
  unfold mSt at hs'
  have hR' : ∀ L k, wr (mA M L k) = mA M L k := hR
  simp (disch := first | omega | (simp only [DT, DS, ne_eq, Nat.reduceEqDiff, not_false_eq_true]; done)) only [RX10_module, BW, wr_id, OM, PL, if_true, if_false, hs', hR', TGs, wr_bi, bi_01, Nat.reduceLeDiff, Nat.reduceAdd, ite_not, s_isIn, MM, DT, and_self, Int.add_sub_cancel]
theorem s_from (m i : Int) (M : xm) (hs : mSt M) (hR : inR M) (hm : -2147483648 ≤ m ∧ m ≤ 2147483647) (hi : -2147483648 ≤ i ∧ i ≤ 2147483647) (hn : 0 ≤ mA M aM 3 ∧ mA M aM 3 ≤ 24) (hco : ∀ j, 0 ≤ mA M amCo j ∧ mA M amCo j ≤ 24) (Q : Option xv → xm → Prop) : Wp qX10_from 0 [vR aM, vI m, vI i] [] M Q ↔ if (0 ≤ m ∧ m ≤ mA M aM 3 - 1) ∧ 0 ≤ i ∧ i ≤ (if mA M amKd m.toNat = 5 then 2 else 1) then Q (some (vI (mA M amCo (3 * m + i).toNat - 1))) M else Q (some (vI (-2))) M := by
  have hs' := hs
  unfold mSt at hs'
  have hR' : ∀ L k, wr (mA M L k) = mA M L k := hR
  have hc := hco (3 * m + i).toNat
  simp (disch := first | omega | (simp only [DT, DS, ne_eq, Nat.reduceEqDiff, not_false_eq_true]; done)) only [RX10_from, BW, wr_id, OM, PL, if_true, if_false, hs', hR', TGs, wr_bi, bi_01, Nat.reduceLeDiff, Nat.reduceAdd, ite_not, s_hasIn m i M hs hR hm hi hn]
theorem s_knob (m k v : Int) (M : xm) (hs : mSt M) (hR : inR M) (hm : -2147483648 ≤ m ∧ m ≤ 2147483647) (hk : -2147483648 ≤ k ∧ k ≤ 2147483647) (hv : -2147483648 ≤ v ∧ v ≤ 2147483647) (hn : 0 ≤ mA M aM 3 ∧ mA M aM 3 ≤ 24) (Q : Option xv → xm → Prop) : Wp qX10_knob 0 [vR aM, vI m, vI k, vI v, vX] [] M Q ↔ if 0 ≤ m ∧ m ≤ mA M aM 3 - 1 then (if 0 ≤ k ∧ k ≤ 2 then (if -1000 ≤ v ∧ v ≤ 1000 then Q (some (vI (mA M amKn (3 * m + k).toNat))) (wA M amKn (3 * m + k).toNat v) else Q (some (vI (-2000))) M) else Q (some (vI (-2000))) M) else Q (some (vI (-2000))) M := by
  have hs' := hs
  unfold mSt at hs'
  have hR' : ∀ L k, wr (mA M L k) = mA M L k := hR
  simp (disch := first | omega | (simp only [DT, DS, ne_eq, Nat.reduceEqDiff, not_false_eq_true]; done)) only [RX10_knob, BW, wr_id, OM, PL, if_true, if_false, hs', hR', TGs, wr_bi, bi_01, Nat.reduceLeDiff, Nat.reduceAdd, ite_not, s_isIn, s_isModule m M hs hR hm hn]
theorem s_write (t i v : Int) (M : xm) (hs : mSt M) (hR : inR M) (ht : -2147483648 ≤ t ∧ t ≤ 2147483647) (hi : -2147483648 ≤ i ∧ i ≤ 2147483647) (hv : -2147483648 ≤ v ∧ v ≤ 2147483647) (htm : ∀ j, 0 ≤ mA M amTm j ∧ mA M amTm j ≤ 17) (Q : Option xv → xm → Prop) : Wp qX10_write 0 [vR aM, vI t, vI i, vI v] [] M Q ↔ if ¬ (0 ≤ t ∧ t ≤ 7) then Q (some (vI (-1))) M else if mA M amTm t.toNat = 0 then Q (some (vI (-2))) M else if ¬ (0 ≤ i ∧ i ≤ mA M amTm t.toNat - 2) then Q (some (vI (-3))) M else Q (some (vI 1)) (wA M amTb (16 * t + i).toNat v) := by
  have hs' := hs
  unfold mSt at hs'
  have hR' : ∀ L k, wr (mA M L k) = mA M L k := hR
  have hc := htm t.toNat
  simp (disch := first | omega | (simp only [DT, DS, ne_eq, Nat.reduceEqDiff, not_false_eq_true]; done)) only [RX10_write, BW, wr_id, OM, PL, if_true, if_false, hs', hR', TGs, wr_bi, bi_01, Nat.reduceLeDiff, Nat.reduceAdd, ite_not, s_isIn]
theorem s_hasRow (m i k : Int) (M : xm) (hs : mSt M) (hR : inR M) (hm : 0 ≤ m ∧ m ≤ 23) (hi : 0 ≤ i ∧ i ≤ 2) (hk : -1 ≤ k ∧ k ≤ 4) (hco : ∀ j, 0 ≤ mA M amCo j ∧ mA M amCo j ≤ 24) (hb : 0 ≤ mA M amIn (20 * (mA M amCo (3 * m + i).toNat - 1)).toNat ∧ mA M amIn (20 * (mA M amCo (3 * m + i).toNat - 1)).toNat ≤ 5) (Q : Option xv → xm → Prop) : Wp qX10_hasRow 0 [vR aM, vI m, vI i, vI k, vX] [] M Q ↔ if mA M amCo (3 * m + i).toNat - 1 < 0 then Q (some (vI 0)) (wA (wA (wA M aM 16 1) aM 17 m) aM 18 (-1)) else if mA M amIn (20 * (mA M amCo (3 * m + i).toNat - 1)).toNat - 1 < 0 then Q (some (vI 0)) (wA (wA (wA M aM 16 2) aM 17 m) aM 18 (-1)) else if k < 0 then Q (some (vI 1)) M else if mA M amIn (20 * (mA M amCo (3 * m + i).toNat - 1)).toNat - 1 = k then Q (some (vI 1)) M else Q (some (vI 0)) (wA (wA (wA M aM 16 4) aM 17 m) aM 18 (-1)) := by
  have hs' := hs
  unfold mSt at hs'
  have hR' : ∀ L k, wr (mA M L k) = mA M L k := hR
  have hc := hco (3 * m + i).toNat
  simp (disch := first | omega | (simp only [DT, DS, ne_eq, Nat.reduceEqDiff, not_false_eq_true]; done)) only [RX10_hasRow, BW, wr_id, OM, PL, if_true, if_false, hs', hR', TGs, wr_bi, bi_01, Nat.reduceLeDiff, Nat.reduceAdd, ite_not, s_kindOf _ M hs hR, s_fails _ _ _ M hs hR]
theorem s_hasSample (m i k : Int) (M : xm) (hs : mSt M) (hR : inR M) (hm : 0 ≤ m ∧ m ≤ 23) (hi : 0 ≤ i ∧ i ≤ 2) (hk : 0 ≤ k ∧ k ≤ 15) (hco : ∀ j, 0 ≤ mA M amCo j ∧ mA M amCo j ≤ 24) (hc1 : 1 ≤ mA M amCo (3 * m + i).toNat) (Q : Option xv → xm → Prop) : Wp qX10_hasSample 0 [vR aM, vI m, vI i, vI k, vX] [] M Q ↔ if k < mA M amIn (20 * (mA M amCo (3 * m + i).toNat - 1) + 1).toNat then Q (some (vI 1)) M else Q (some (vI 0)) (wA (wA (wA M aM 16 3) aM 17 m) aM 18 k) := by
  have hs' := hs
  unfold mSt at hs'
  have hR' : ∀ L k, wr (mA M L k) = mA M L k := hR
  have hc := hco (3 * m + i).toNat
  simp (disch := first | omega | (simp only [DT, DS, ne_eq, Nat.reduceEqDiff, not_false_eq_true]; done)) only [RX10_hasSample, BW, wr_id, OM, PL, if_true, if_false, hs', hR', TGs, wr_bi, bi_01, Nat.reduceLeDiff, Nat.reduceAdd, ite_not, s_rowAt _ _ M hs hR, s_fails _ _ _ M hs hR, Int.mul_zero, Int.add_zero]
theorem s_sampleOf (m i k : Int) (M : xm) (hs : mSt M) (hR : inR M) (hm : 0 ≤ m ∧ m ≤ 23) (hi : 0 ≤ i ∧ i ≤ 2) (hk : 0 ≤ k ∧ k ≤ 15) (hco : ∀ j, 0 ≤ mA M amCo j ∧ mA M amCo j ≤ 24) (hc1 : 1 ≤ mA M amCo (3 * m + i).toNat) (Q : Option xv → xm → Prop) : Wp qX10_sampleOf 0 [vR aM, vI m, vI i, vI k] [] M Q ↔ Q (some (vD (mB M amDb (82 * (mA M amCo (3 * m + i).toNat - 1) + k).toNat))) M := by
  have hs' := hs
  unfold mSt at hs'
  have hR' : ∀ L k, wr (mA M L k) = mA M L k := hR
  have hc := hco (3 * m + i).toNat
  simp (disch := first | omega | (simp only [DT, DS, ne_eq, Nat.reduceEqDiff, not_false_eq_true]; done)) only [RX10_sampleOf, BW, wr_id, OM, PL, if_true, if_false, hs', hR', TGs, wr_bi, bi_01, Nat.reduceLeDiff, Nat.reduceAdd, ite_not]
theorem s_isNoneOf (m i k : Int) (M : xm) (hs : mSt M) (hR : inR M) (hm : 0 ≤ m ∧ m ≤ 23) (hi : 0 ≤ i ∧ i ≤ 2) (hk : 0 ≤ k ∧ k ≤ 15) (hco : ∀ j, 0 ≤ mA M amCo j ∧ mA M amCo j ≤ 24) (hc1 : 1 ≤ mA M amCo (3 * m + i).toNat) (Q : Option xv → xm → Prop) : Wp qX10_isNoneOf 0 [vR aM, vI m, vI i, vI k] [] M Q ↔ Q (some (vI (bi (wr (xiand (xishr (mA M amIn (20 * (mA M amCo (3 * m + i).toNat - 1) + 2).toNat) k) 1) = 1)))) M := by
  have hs' := hs
  unfold mSt at hs'
  have hR' : ∀ L k, wr (mA M L k) = mA M L k := hR
  have hc := hco (3 * m + i).toNat
  simp (disch := first | omega | (simp only [DT, DS, ne_eq, Nat.reduceEqDiff, not_false_eq_true]; done)) only [RX10_isNoneOf, BW, wr_id, OM, PL, if_true, if_false, hs', hR', TGs, wr_bi, bi_01, Nat.reduceLeDiff, Nat.reduceAdd, ite_not, s_rowAt _ _ M hs hR, Int.mul_zero, Int.add_zero]
  repeat' split
  all_goals first | (rw [bi_t (by omega)]) | (rw [bi_f (by omega)])
theorem s_counts (m i : Int) (M : xm) (hs : mSt M) (hR : inR M) (hm : 0 ≤ m ∧ m ≤ 23) (hi : 0 ≤ i ∧ i ≤ 2) (hco : ∀ j, 0 ≤ mA M amCo j ∧ mA M amCo j ≤ 24) (hb : 0 ≤ mA M amIn (20 * (mA M amCo (3 * m + i).toNat - 1)).toNat ∧ mA M amIn (20 * (mA M amCo (3 * m + i).toNat - 1)).toNat ≤ 5) (Q : Option xv → xm → Prop) : Wp qX10_counts 0 [vR aM, vI m, vI i] [] M Q ↔ Q (some (vI (bi (0 < mA M amCo (3 * m + i).toNat ∧ 1 ≤ mA M amIn (20 * (mA M amCo (3 * m + i).toNat - 1)).toNat)))) M := by
  have hs' := hs
  unfold mSt at hs'
  have hR' : ∀ L k, wr (mA M L k) = mA M L k := hR
  have hc := hco (3 * m + i).toNat
  simp (disch := first | omega | (simp only [DT, DS, ne_eq, Nat.reduceEqDiff, not_false_eq_true]; done)) only [RX10_counts, BW, wr_id, OM, PL, if_true, if_false, hs', hR', TGs, wr_bi, bi_01, Nat.reduceLeDiff, Nat.reduceAdd, ite_not, s_kindOf _ M hs hR]
  repeat' split
  all_goals first | (rw [bi_t (by omega)]) | (rw [bi_f (by omega)])
theorem s_trace (i : Int) (M : xm) (hs : mSt M) (hR : inR M) (hi : -2147483648 ≤ i ∧ i ≤ 2147483647) (ht : 0 ≤ mA M aM 15 ∧ mA M aM 15 ≤ 48) (Q : Option xv → xm → Prop) : Wp qX10_trace 0 [vR aM, vI i] [] M Q ↔ if 0 ≤ i ∧ i ≤ mA M aM 15 - 1 then Q (some (vI (mA M amTr i.toNat))) M else Q (some (vI 0)) M := by
  have hs' := hs
  unfold mSt at hs'
  have hR' : ∀ L k, wr (mA M L k) = mA M L k := hR
  simp (disch := first | omega | (simp only [DT, DS, ne_eq, Nat.reduceEqDiff, not_false_eq_true]; done)) only [RX10_trace, BW, wr_id, OM, PL, if_true, if_false, hs', hR', TGs, wr_bi, bi_01, Nat.reduceLeDiff, Nat.reduceAdd, ite_not, s_isIn]
theorem s_finding (w : Int) (M : xm) (hs : mSt M) (hR : inR M) (hw : -2147483648 ≤ w ∧ w ≤ 2147483647) (Q : Option xv → xm → Prop) : Wp qX10_finding 0 [vR aM, vI w] [] M Q ↔ if mA M aM 16 = 0 then Q (some (vI (-1))) M else if ¬ (0 ≤ w ∧ w ≤ 2) then Q (some (vI (-1))) M else if w = 0 then Q (some (vI (mA M aM 16))) M else if w = 1 then Q (some (vI (mA M aM 17))) M else Q (some (vI (mA M aM 18))) M := by
  have hs' := hs
  unfold mSt at hs'
  have hR' : ∀ L k, wr (mA M L k) = mA M L k := hR
  simp (disch := first | omega | (simp only [DT, DS, ne_eq, Nat.reduceEqDiff, not_false_eq_true]; done)) only [RX10_finding, BW, wr_id, OM, PL, if_true, if_false, hs', hR', TGs, wr_bi, bi_01, Nat.reduceLeDiff, Nat.reduceAdd, ite_not, s_isIn]
