/-! 64.mpub: the reference: table, order, hasGiven, isNone, sample, row, count -/
theorem l_table (M0 : xm) (hs : mSt M0) (hR : inR M0) (t n : Int) (ht : 0 ≤ t ∧ t ≤ 7) (Q : Option xv → xm → Prop) : ∀ (d : Nat) (k : Int) (M : xm), k + d = 16 → 0 ≤ k → M = wF M0 amTb (16 * t).toNat (16 * t + k).toNat (fun _ => 0) → (Wp qX10_table 33 [vR aM, vI t, vI n, vI k] [] M Q ↔ Q (some (vI 1)) (wF M0 amTb (16 * t).toNat (16 * t + 16).toNat (fun _ => 0)))
  | 0, k, M, hk, h0, hM => by
    obtain rfl : k = 16 := by omega
    rw [HX10_table_33]
    simp (disch := first | omega | (simp only [DT, DS, ne_eq, Nat.reduceEqDiff, not_false_eq_true]; done)) only [RX10_table, BW, wr_id, OM, OE, PL, ↓reduceIte, TGs, Nat.reduceLeDiff, Nat.reduceAdd]
    rw [hM]
  | d + 1, k, M, hk, h0, hM => by
    have hs' : mSt M := by rw [hM]; exact hs
    have hR0 : inR M := by rw [hM]; exact hR.wF _ _ _ (fun j => rfl)
    have hR' : ∀ L k, wr (mA M L k) = mA M L k := hR0
    rw [HX10_table_33]
    simp (disch := first | omega | (simp only [DT, DS, ne_eq, Nat.reduceEqDiff, not_false_eq_true]; done)) only [RX10_table, BW, wr_id, OM, OE, PL, ↓reduceIte, mSt.e hs', hR', TGs, Nat.reduceLeDiff, Nat.reduceAdd]
    refine l_table M0 hs hR t n ht Q d (k + 1) _ (by omega) (by omega) ?_
    rw [hM, show (16 * t + (k + 1)).toNat = (16 * t + k).toNat + 1 by omega]
    exact wF_e (f := fun _ => 0) (by omega)
theorem s_table {M : xm} (hs : mSt M) (hR : inR M) (t n : Int) (ht : -2147483648 ≤ t ∧ t ≤ 2147483647) (hn : -2147483648 ≤ n ∧ n ≤ 2147483647) (Q : Option xv → xm → Prop) : Wp qX10_table 0 [vR aM, vI t, vI n, vX] [] M Q ↔ if (0 ≤ t ∧ t ≤ 7) ∧ -1 ≤ n ∧ n ≤ 16 then Q (some (vI 1)) (wF (wA M amTm t.toNat (n + 1)) amTb (16 * t).toNat (16 * t + 16).toNat (fun _ => 0)) else Q (some (vI (-1))) M := by
  have hR' : ∀ L k, wr (mA M L k) = mA M L k := hR
  by_cases c1 : 0 ≤ t ∧ t ≤ 7
  · by_cases c2 : -1 ≤ n ∧ n ≤ 16
    · rw [if_pos ⟨c1, c2⟩]
      simp (disch := first | omega | (simp only [DT, DS, ne_eq, Nat.reduceEqDiff, not_false_eq_true]; done)) only [RX10_table, BW, wr_id, OM, OE, PL, ↓reduceIte, mSt.e hs, hR', TGs, s_isIn, bi_t c1, bi_t c2, bi_T, Nat.reduceLeDiff, Nat.reduceAdd]
      exact l_table (wA M amTm t.toNat (n + 1)) hs (hR.wA _ _ (wr_id (by omega) (by omega))) t n c1 Q 16 0 _ (by omega) (by omega) (by rw [show (16 * t + 0).toNat = (16 * t).toNat by omega, wF_0])
    · rw [if_neg (fun q => c2 q.2)]
      simp (disch := first | omega | (simp only [DT, DS, ne_eq, Nat.reduceEqDiff, not_false_eq_true]; done)) only [RX10_table, BW, wr_id, OM, OE, PL, ↓reduceIte, TGs, s_isIn, bi_t c1, bi_f c2, bi_T, Nat.reduceLeDiff, Nat.reduceAdd]
  · rw [if_neg (fun q => c1 q.1)]
    simp (disch := first | omega | (simp only [DT, DS, ne_eq, Nat.reduceEqDiff, not_false_eq_true]; done)) only [RX10_table, BW, wr_id, OM, OE, PL, ↓reduceIte, TGs, s_isIn, bi_f c1, Nat.reduceLeDiff, Nat.reduceAdd]
def odF (C : Nat → Nat → Int) (N i : Int) : Int := if 0 ≤ i ∧ i ≤ N - 1 then (ordL C N).getD i.toNat 0 else -1
theorem s_order {M : xm} {N : Int} {rk : Int → Nat} (hs : mSt M) (hR : inR M) (eN : mA M aM 3 = N) (hN : 0 ≤ N ∧ N ≤ 24) (hco : ∀ j, 0 ≤ mA M amCo j ∧ mA M amCo j ≤ 24) (hrk : noLp (mA M) N rk) (i : Int) (hi : -2147483648 ≤ i ∧ i ≤ 2147483647) (Q : Option xv → xm → Prop) (hg : ∀ M', oG M M' → Q (some (vI (odF (mA M) N i))) M') : Wp qX10_order 0 [vR aM, vI i] [] M Q := by
  have hR' : ∀ L k, wr (mA M L k) = mA M L k := hR
  unfold odF at hg
  by_cases c : 0 ≤ i ∧ i ≤ N - 1
  · rw [if_pos c] at hg
    simp (disch := first | omega | (simp only [DT, DS, ne_eq, Nat.reduceEqDiff, not_false_eq_true]; done)) only [RX10_order, BW, wr_id, OM, OE, PL, ↓reduceIte, mSt.e hs, hR', TGs, eN, s_isIn, bi_t c, bi_T, Nat.reduceLeDiff, Nat.reduceAdd]
    refine s_setOrder hs hR eN hN hco _ (fun M' hG hL => ?_)
    have hR2 : ∀ L k, wr (mA M' L k) = mA M' L k := hG.2.2.2.2.2
    have hs2 : mSt M' := by
      unfold mSt at hs ⊢
      rw [hG.2.2.1]
      exact hs
    have hl := ordL_ok hrk hN.1
    have e : mA M' amOr i.toNat = (ordL (mA M) N).getD i.toNat 0 := hL i.toNat (by omega)
    have g := hg M' hG
    simp (disch := first | omega | (simp only [DT, DS, ne_eq, Nat.reduceEqDiff, not_false_eq_true]; done)) only [RX10_order, BW, wr_id, OM, OE, PL, ↓reduceIte, mSt.e hs2, hR2, TGs, e, Nat.reduceLeDiff, Nat.reduceAdd]
    exact g
  · rw [if_neg c] at hg
    have g := hg M (oG.refl hR)
    simp (disch := first | omega | (simp only [DT, DS, ne_eq, Nat.reduceEqDiff, not_false_eq_true]; done)) only [RX10_order, BW, wr_id, OM, OE, PL, ↓reduceIte, mSt.e hs, hR', TGs, eN, s_isIn, bi_f c, Nat.reduceLeDiff, Nat.reduceAdd]
    exact g
/-- the row that module m gives, if there is one -/
def gvO (A : Int → SS) (N m : Int) : Option Rw := if 0 ≤ m ∧ m ≤ N - 1 then sR (A m) else none
def gvB (r : Option Rw) (i : Int) : Bool := match r with
  | none => false
  | some w => decide (0 ≤ i ∧ i ≤ rwL w - 1)
def noB (r : Option Rw) (i : Int) : Bool := match r with
  | none => false
  | some w => decide (0 ≤ i ∧ i ≤ rwL w - 1) && bt (rwN w) i
def smV (r : Option Rw) (i : Int) : UInt64 := match r with
  | none => 0
  | some w => if 0 ≤ i ∧ i ≤ rwL w - 1 then rwV w i else 0
section MP
variable {M : xm} {N t : Int} {A : Int → SS}
theorem s_hasGiven (hs : mSt M) (hR : inR M) (eN : mA M aM 3 = N) (hN : 0 ≤ N ∧ N ≤ 24) (ha : mAs M t A) (m i : Int) (hm : -2147483648 ≤ m ∧ m ≤ 2147483647) (hi : -2147483648 ≤ i ∧ i ≤ 2147483647) (Q : Option xv → xm → Prop) : Wp qX10_hasGiven 0 [vR aM, vI m, vI i] [] M Q ↔ Q (some (vI (bi (gvB (gvO A N m) i = true)))) M := by
  have hR' : ∀ L k, wr (mA M L k) = mA M L k := hR
  have q1 := s_isModule m M hs hR hm (by rw [eN]; exact hN)
  rw [eN] at q1
  unfold gvO
  by_cases c1 : 0 ≤ m ∧ m ≤ N - 1
  · rw [if_pos c1]
    obtain ⟨⟨hr, _⟩, hk, _⟩ := ha m c1.1 (by omega)
    cases e : sR (A m) with
    | none =>
      rw [e] at hr
      have e0 := mRw_n hr
      simp (disch := first | omega | (simp only [DT, DS, ne_eq, Nat.reduceEqDiff, not_false_eq_true]; done)) only [RX10_hasGiven, BW, wr_id, OM, OE, PL, ↓reduceIte, hR', TGs, q1, bi_t c1, bi_T, s_kindOf m M hs hR, e0, gvB, bi_ff, Bool.false_eq_true, bi_F, Nat.reduceLeDiff, Nat.reduceAdd]
    | some w =>
      rw [e] at hr
      obtain ⟨e0, e1, e2, e3⟩ := mRw_s hr
      obtain ⟨o1, o2, _⟩ := hk w e
      have e1' : mA M amIn (20 * m + 1).toNat = rwL w := e1
      simp (disch := first | omega | (simp only [DT, DS, ne_eq, Nat.reduceEqDiff, not_false_eq_true]; done)) only [RX10_hasGiven, BW, wr_id, OM, OE, PL, ↓reduceIte, mSt.e hs, hR', TGs, q1, bi_t c1, bi_T, s_kindOf m M hs hR, e0, s_rowAt m 0 M hs hR, Int.mul_zero, Int.add_zero, e1', s_isIn, wr_bi, gvB, decide_eq_true_eq, Nat.reduceLeDiff, Nat.reduceAdd]
      by_cases c2 : 0 ≤ i ∧ i ≤ rwL w - 1
      · simp only [c2, and_self, not_true_eq_false, if_false, bi_T]
      · simp only [c2, not_false_eq_true, if_true, bi_F]
  · rw [if_neg c1]
    simp (disch := first | omega | (simp only [DT, DS, ne_eq, Nat.reduceEqDiff, not_false_eq_true]; done)) only [RX10_hasGiven, BW, wr_id, OM, OE, PL, ↓reduceIte, hR', TGs, q1, bi_f c1, gvB, Bool.false_eq_true, bi_F, Nat.reduceLeDiff, Nat.reduceAdd]
theorem gv_some {m i : Int} (hN : 0 ≤ N ∧ N ≤ 24) (ha : mAs M t A) (h : gvB (gvO A N m) i = true) : ∃ w, gvO A N m = some w ∧ (0 ≤ m ∧ m ≤ N - 1) ∧ (0 ≤ i ∧ i ≤ rwL w - 1) ∧ okR w ∧ mA M amIn (20 * m).toNat = rwK w + 1 ∧ rL M m = rwL w ∧ rN M m = rwN w ∧ ∀ i, 0 ≤ i → i ≤ 15 → rV M m i = rwV w i := by
  unfold gvO at h ⊢
  by_cases c1 : 0 ≤ m ∧ m ≤ N - 1
  · rw [if_pos c1] at h ⊢
    obtain ⟨⟨hr, _⟩, hk, _⟩ := ha m c1.1 (by omega)
    cases e : sR (A m) with
    | none => rw [e] at h; exact absurd h (by simp [gvB])
    | some w =>
      rw [e] at hr h
      exact ⟨w, rfl, c1, of_decide_eq_true h, hk w e, mRw_s hr⟩
  · rw [if_neg c1] at h
    exact absurd h (by simp [gvB])
theorem no_f {r : Option Rw} {i : Int} (h : gvB r i = false) : noB r i = false := by
  unfold gvB at h
  unfold noB
  cases r with
  | none => rfl
  | some w =>
    dsimp only at h ⊢
    rw [h]
    rfl
theorem s_isNone (hs : mSt M) (hR : inR M) (eN : mA M aM 3 = N) (hN : 0 ≤ N ∧ N ≤ 24) (ha : mAs M t A) (m i : Int) (hm : -2147483648 ≤ m ∧ m ≤ 2147483647) (hi : -2147483648 ≤ i ∧ i ≤ 2147483647) (Q : Option xv → xm → Prop) : Wp qX10_isNone 0 [vR aM, vI m, vI i] [] M Q ↔ Q (some (vI (bi (noB (gvO A N m) i = true)))) M := by
  have hR' : ∀ L k, wr (mA M L k) = mA M L k := hR
  have q1 := s_hasGiven hs hR eN hN ha m i hm hi
  cases c : gvB (gvO A N m) i
  · simp only [c, bi_ff] at q1
    rw [no_f c]
    simp (disch := first | omega | (simp only [DT, DS, ne_eq, Nat.reduceEqDiff, not_false_eq_true]; done)) only [RX10_isNone, BW, wr_id, OM, OE, PL, ↓reduceIte, TGs, q1, bi_ff, Nat.reduceLeDiff, Nat.reduceAdd]
  · simp only [c, bi_T] at q1
    obtain ⟨w, g1, g2, g3, g4, g5, g6, g7, g8⟩ := gv_some hN ha c
    have e2 : mA M amIn (20 * m + 2).toNat = rwN w := g7
    have hl := g4.2.1
    rw [g1]
    have e3 : noB (some w) i = bt (rwN w) i := by
      show (decide (0 ≤ i ∧ i ≤ rwL w - 1) && bt (rwN w) i) = bt (rwN w) i
      rw [decide_eq_true g3]
      rfl
    rw [e3]
    simp (disch := first | omega | (simp only [DT, DS, ne_eq, Nat.reduceEqDiff, not_false_eq_true]; done)) only [RX10_isNone, BW, wr_id, OM, PL, ↓reduceIte, mSt.e hs, hR', TGs, q1, s_rowAt m 0 M hs hR, Int.mul_zero, Int.add_zero, e2, Nat.reduceLeDiff, Nat.reduceAdd]
    unfold bt
    rw [decide_eq_true_eq]
    by_cases cb : wr (xiand (xishr (rwN w) i) 1) = 1
    · rw [if_neg (by omega), if_pos cb, bi_t cb]
    · rw [if_neg (by omega), if_neg cb, bi_f cb]
theorem s_sample (hs : mSt M) (hR : inR M) (eN : mA M aM 3 = N) (hN : 0 ≤ N ∧ N ≤ 24) (ha : mAs M t A) (m i : Int) (hm : -2147483648 ≤ m ∧ m ≤ 2147483647) (hi : -2147483648 ≤ i ∧ i ≤ 2147483647) (Q : Option xv → xm → Prop) : Wp qX10_sample 0 [vR aM, vI m, vI i] [] M Q ↔ Q (some (vD (smV (gvO A N m) i))) M := by
  have hR' : ∀ L k, wr (mA M L k) = mA M L k := hR
  have q1 := s_hasGiven hs hR eN hN ha m i hm hi
  have q2 := s_isNone hs hR eN hN ha m i hm hi
  cases c : gvB (gvO A N m) i
  · simp only [c, bi_ff] at q1
    have e : smV (gvO A N m) i = FP.dconst0 := by
      unfold gvB at c
      unfold smV
      cases e : gvO A N m with
      | none => rfl
      | some w =>
        rw [e] at c
        dsimp only at c ⊢
        rw [if_neg (of_decide_eq_false c)]
        rfl
    rw [e]
    simp (disch := first | omega | (simp only [DT, DS, ne_eq, Nat.reduceEqDiff, not_false_eq_true]; done)) only [RX10_sample, BW, wr_id, OM, OE, PL, ↓reduceIte, TGs, q1, Nat.reduceLeDiff, Nat.reduceAdd]
  · simp only [c, bi_T] at q1
    obtain ⟨w, g1, g2, g3, g4, g5, g6, g7, g8⟩ := gv_some hN ha c
    have hl := g4.2.1
    have e0 : noB (some w) i = bt (rwN w) i := by
      show (decide (0 ≤ i ∧ i ≤ rwL w - 1) && bt (rwN w) i) = bt (rwN w) i
      rw [decide_eq_true g3]
      rfl
    have e1 : smV (some w) i = rwV w i := by
      unfold smV
      dsimp only
      rw [if_pos g3]
    have e2 : mB M amDb (82 * m + i).toNat = rwV w i := g8 i g3.1 (by omega)
    simp only [g1, e0] at q2
    rw [g1, e1]
    cases cb : bt (rwN w) i
    · simp only [cb, bi_ff] at q2
      simp (disch := first | omega | (simp only [DT, DS, ne_eq, Nat.reduceEqDiff, not_false_eq_true]; done)) only [RX10_sample, BW, wr_id, OM, OE, PL, ↓reduceIte, mSt.e hs, hR', TGs, q1, q2, e2, Nat.reduceLeDiff, Nat.reduceAdd]
    · simp only [cb, bi_T] at q2
      rw [g4.2.2.2.2.2 i g3.1 (by omega) (Or.inl cb), show (0 : UInt64) = FP.dconst0 from rfl]
      simp (disch := first | omega | (simp only [DT, DS, ne_eq, Nat.reduceEqDiff, not_false_eq_true]; done)) only [RX10_sample, BW, wr_id, OM, OE, PL, ↓reduceIte, TGs, q1, q2, Nat.reduceLeDiff, Nat.reduceAdd]
end MP
def nnF (mk : Int) : Nat → Int
  | 0 => 0
  | k + 1 => nnF mk k + if bt mk k = true then 1 else 0
theorem nnF_b (mk : Int) : ∀ k, 0 ≤ nnF mk k ∧ nnF mk k ≤ k
  | 0 => by unfold nnF; omega
  | k + 1 => by
    have := nnF_b mk k
    unfold nnF
    split <;> omega
def slF (mk : Int) (v : Int → UInt64) : Nat → Bool
  | 0 => true
  | k + 1 => slF mk v k && !bt mk k && decide (FP.dcmp (v k) FP.dconst0 = some .eq)
/-- what row answers -/
def roF (r : Option Rw) (what : Int) : Int := match r with
  | none => -1
  | some w => if what = 0 then rwK w else if what = 1 then rwL w else if what = 2 then (if slF (rwN w) (rwV w) (rwL w).toNat = true then 1 else 0) else nnF (rwN w) (rwL w).toNat
def rowF (A : Int → SS) (N m what : Int) : Int := if (0 ≤ m ∧ m ≤ N - 1) ∧ 0 ≤ what ∧ what ≤ 3 then roF (sR (A m)) what else -2
section MR
variable {M : xm} {N t : Int} {A : Int → SS}
theorem l_row (hs : mSt M) (hR : inR M) (eN : mA M aM 3 = N) (hN : 0 ≤ N ∧ N ≤ 24) (ha : mAs M t A) (m what : Int) (hm : 0 ≤ m ∧ m ≤ N - 1) (hw : 0 ≤ what ∧ what ≤ 3) {w : Rw} (e : sR (A m) = some w) (Q : Option xv → xm → Prop) : ∀ (d : Nat) (k : Int) (x7 : xv), k + d = rwL w → 0 ≤ k → (Wp qX10_row 53 [vR aM, vI m, vI what, vI (rwL w), vI (nnF (rwN w) k.toNat), vI (bi (slF (rwN w) (rwV w) k.toNat = true)), vI k, x7] [] M Q ↔ Q (some (vI (roF (some w) what))) M)
  | 0, k, x7, hd, h0 => by
    have hR' : ∀ L k, wr (mA M L k) = mA M L k := hR
    obtain ⟨⟨hr, _⟩, hk, _⟩ := ha m hm.1 (by omega)
    rw [e] at hr
    obtain ⟨e0, e1, e2, e3⟩ := mRw_s hr
    obtain ⟨o1, o2, _⟩ := hk w e
    obtain rfl : k = rwL w := by omega
    have hnn := nnF_b (rwN w) (rwL w).toNat
    rw [HX10_row_53]
    unfold roF
    dsimp only
    rcases (show what = 0 ∨ what = 1 ∨ what = 2 ∨ what = 3 by omega) with rfl | rfl | rfl | rfl
    · simp (disch := first | omega | (simp only [DT, DS, ne_eq, Nat.reduceEqDiff, not_false_eq_true]; done)) only [RX10_row, BW, wr_id, OM, OE, PL, ↓reduceIte, hR', TGs, s_kindOf m M hs hR, e0, Int.add_sub_cancel, Nat.reduceLeDiff, Nat.reduceAdd]
    · simp (disch := first | omega | (simp only [DT, DS, ne_eq, Nat.reduceEqDiff, not_false_eq_true]; done)) only [RX10_row, BW, wr_id, OM, OE, PL, ↓reduceIte, TGs, Nat.reduceLeDiff, Nat.reduceAdd]
    · simp (disch := first | omega | (simp only [DT, DS, ne_eq, Nat.reduceEqDiff, not_false_eq_true]; done)) only [RX10_row, BW, wr_id, OM, OE, PL, ↓reduceIte, wr_bi, TGs, Nat.reduceLeDiff, Nat.reduceAdd]
      cases slF (rwN w) (rwV w) (rwL w).toNat <;> simp
    · simp (disch := first | omega | (simp only [DT, DS, ne_eq, Nat.reduceEqDiff, not_false_eq_true]; done)) only [RX10_row, BW, wr_id, OM, OE, PL, ↓reduceIte, TGs, Nat.reduceLeDiff, Nat.reduceAdd]
  | d + 1, k, x7, hd, h0 => by
    have hR' : ∀ L k, wr (mA M L k) = mA M L k := hR
    obtain ⟨⟨hr, _⟩, hk, _⟩ := ha m hm.1 (by omega)
    rw [e] at hr
    obtain ⟨e0, e1, e2, e3⟩ := mRw_s hr
    obtain ⟨o1, o2, _⟩ := hk w e
    have hnn := nnF_b (rwN w) k.toNat
    have q := s_isNone hs hR eN hN ha m k (by omega) (by omega)
    have eg : gvO A N m = some w := by
      unfold gvO
      rw [if_pos hm, e]
    have en : noB (some w) k = bt (rwN w) k := by
      show (decide (0 ≤ k ∧ k ≤ rwL w - 1) && bt (rwN w) k) = bt (rwN w) k
      rw [decide_eq_true (show 0 ≤ k ∧ k ≤ rwL w - 1 by omega)]
      rfl
    simp only [eg, en] at q
    have ev : mB M amDb (82 * m + k).toNat = rwV w k := e3 k h0 (by omega)
    have ih := fun y7 => l_row hs hR eN hN ha m what hm hw e Q d (k + 1) y7 (by omega) (by omega)
    rw [show (k + 1).toNat = k.toNat + 1 by omega, nnF, slF, show ((k.toNat : Nat) : Int) = k by omega] at ih
    rw [HX10_row_53]
    cases cb : bt (rwN w) k
    · rw [cb] at ih
      simp only [cb, bi_ff] at q
      simp only [Bool.false_eq_true, if_false, Int.add_zero, Bool.not_false, Bool.and_true] at ih
      cases cs : slF (rwN w) (rwV w) k.toNat
      · rw [cs] at ih
        simp only [Bool.false_and, bi_ff] at ih
        simp (disch := first | omega | (simp only [DT, DS, ne_eq, Nat.reduceEqDiff, not_false_eq_true]; done)) only [RX10_row, BW, wr_id, OM, OE, PL, ↓reduceIte, TGs, q, bi_ff, Int.add_zero, Nat.reduceLeDiff, Nat.reduceAdd]
        exact ih _
      · rw [cs] at ih
        simp only [Bool.true_and, decide_eq_true_eq] at ih
        by_cases cz : FP.dcmp (rwV w k) FP.dconst0 = some .eq
        · simp only [bi_t cz] at ih
          simp (disch := first | omega | (simp only [DT, DS, ne_eq, Nat.reduceEqDiff, not_false_eq_true]; done)) only [RX10_row, BW, wr_id, OM, OE, PL, ↓reduceIte, mSt.e hs, TGs, q, bi_T, Int.add_zero, ev, cmp_l, cz, Nat.reduceLeDiff, Nat.reduceAdd]
          exact ih _
        · simp only [bi_f cz] at ih
          simp (disch := first | omega | (simp only [DT, DS, ne_eq, Nat.reduceEqDiff, not_false_eq_true]; done)) only [RX10_row, BW, wr_id, OM, OE, PL, ↓reduceIte, mSt.e hs, TGs, q, bi_T, Int.add_zero, ev, cmp_l, cz, Nat.reduceLeDiff, Nat.reduceAdd]
          exact ih _
    · rw [cb] at ih
      simp only [cb, bi_T] at q
      simp only [if_true, Bool.not_true, Bool.and_false, Bool.false_and, bi_ff] at ih
      cases cs : slF (rwN w) (rwV w) k.toNat
      · simp (disch := first | omega | (simp only [DT, DS, ne_eq, Nat.reduceEqDiff, not_false_eq_true]; done)) only [RX10_row, BW, wr_id, OM, OE, PL, ↓reduceIte, TGs, q, bi_ff, Nat.reduceLeDiff, Nat.reduceAdd]
        exact ih _
      · simp (disch := first | omega | (simp only [DT, DS, ne_eq, Nat.reduceEqDiff, not_false_eq_true]; done)) only [RX10_row, BW, wr_id, OM, OE, PL, ↓reduceIte, TGs, q, bi_T, Nat.reduceLeDiff, Nat.reduceAdd]
        exact ih _
theorem s_row (hs : mSt M) (hR : inR M) (eN : mA M aM 3 = N) (hN : 0 ≤ N ∧ N ≤ 24) (ha : mAs M t A) (m what : Int) (hm : -2147483648 ≤ m ∧ m ≤ 2147483647) (hw : -2147483648 ≤ what ∧ what ≤ 2147483647) (Q : Option xv → xm → Prop) : Wp qX10_row 0 [vR aM, vI m, vI what, vX, vX, vX, vX, vX] [] M Q ↔ Q (some (vI (rowF A N m what))) M := by
  have hR' : ∀ L k, wr (mA M L k) = mA M L k := hR
  have q1 := s_isModule m M hs hR hm (by rw [eN]; exact hN)
  rw [eN] at q1
  unfold rowF
  by_cases c1 : 0 ≤ m ∧ m ≤ N - 1
  · by_cases c2 : 0 ≤ what ∧ what ≤ 3
    · rw [if_pos ⟨c1, c2⟩]
      obtain ⟨⟨hr, _⟩, hk, _⟩ := ha m c1.1 (by omega)
      cases e : sR (A m) with
      | none =>
        rw [e] at hr
        have e0 := mRw_n hr
        simp (disch := first | omega | (simp only [DT, DS, ne_eq, Nat.reduceEqDiff, not_false_eq_true]; done)) only [RX10_row, BW, wr_id, OM, OE, PL, ↓reduceIte, hR', TGs, q1, s_isIn, bi_t c1, bi_t c2, bi_T, s_kindOf m M hs hR, e0, roF, Nat.reduceLeDiff, Nat.reduceAdd]
      | some w =>
        rw [e] at hr
        obtain ⟨e0, e1, e2, e3⟩ := mRw_s hr
        obtain ⟨o1, o2, _⟩ := hk w e
        have e1' : mA M amIn (20 * m + 1).toNat = rwL w := e1
        have g := l_row hs hR eN hN ha m what c1 c2 e Q (rwL w).toNat 0 vX (by omega) (by omega)
        rw [show (0 : Int).toNat = 0 from rfl, nnF, slF, bi_t rfl] at g
        simp (disch := first | omega | (simp only [DT, DS, ne_eq, Nat.reduceEqDiff, not_false_eq_true]; done)) only [RX10_row, BW, wr_id, OM, OE, PL, ↓reduceIte, mSt.e hs, hR', TGs, q1, s_isIn, bi_t c1, bi_t c2, bi_T, s_kindOf m M hs hR, e0, s_rowAt m 0 M hs hR, Int.mul_zero, Int.add_zero, e1', Nat.reduceLeDiff, Nat.reduceAdd]
        exact g
    · rw [if_neg (fun q => c2 q.2)]
      simp (disch := first | omega | (simp only [DT, DS, ne_eq, Nat.reduceEqDiff, not_false_eq_true]; done)) only [RX10_row, BW, wr_id, OM, OE, PL, ↓reduceIte, TGs, q1, s_isIn, bi_t c1, bi_f c2, bi_T, Nat.reduceLeDiff, Nat.reduceAdd]
  · rw [if_neg (fun q => c1 q.1)]
    simp (disch := first | omega | (simp only [DT, DS, ne_eq, Nat.reduceEqDiff, not_false_eq_true]; done)) only [RX10_row, BW, wr_id, OM, OE, PL, ↓reduceIte, TGs, q1, bi_f c1, Nat.reduceLeDiff, Nat.reduceAdd]
end MR
/-- how many cords, of the first k places -/
def cnF (C : Nat → Nat → Int) : Nat → Int
  | 0 => 0
  | k + 1 => cnF C k + if 0 < C amCo k then 1 else 0
theorem cnF_b (C : Nat → Nat → Int) : ∀ k, 0 ≤ cnF C k ∧ cnF C k ≤ k
  | 0 => by unfold cnF; omega
  | k + 1 => by
    have := cnF_b C k
    unfold cnF
    split <;> omega
def ctF (M : xm) (N what : Int) : Int := if 10 ≤ what ∧ what ≤ 9 + N then mA M amIn (20 * (what - 10) + 17).toNat else if 40 ≤ what ∧ what ≤ 39 + N then mA M amKd (what - 40).toNat else if what = 0 then N else if what = 1 then cnF (mA M) 72 else if what = 2 then mA M aM 10 else if what = 3 then mA M aM 12 else if what = 4 then mA M aM 22 else -1
theorem l_count {M : xm} {N : Int} (hs : mSt M) (hR : inR M) (eN : mA M aM 3 = N) (what : Int) (hw : -2147483648 ≤ what ∧ what ≤ 2147483647) (h1 : ¬ (10 ≤ what ∧ what ≤ 9 + N)) (h2 : ¬ (40 ≤ what ∧ what ≤ 39 + N)) (Q : Option xv → xm → Prop) : ∀ (d : Nat) (k : Int), k + d = 72 → 0 ≤ k → (Wp qX10_count 62 [vR aM, vI what, vI (cnF (mA M) k.toNat), vI k] [] M Q ↔ Q (some (vI (ctF M N what))) M)
  | 0, k, hd, h0 => by
    have hR' : ∀ L k, wr (mA M L k) = mA M L k := hR
    obtain rfl : k = 72 := by omega
    have hc := cnF_b (mA M) 72
    rw [HX10_count_62]
    unfold ctF
    rw [if_neg h1, if_neg h2]
    by_cases c : 0 ≤ what ∧ what ≤ 4
    · rcases (show what = 0 ∨ what = 1 ∨ what = 2 ∨ what = 3 ∨ what = 4 by omega) with rfl | rfl | rfl | rfl | rfl <;> simp (disch := first | omega | (simp only [DT, DS, ne_eq, Nat.reduceEqDiff, not_false_eq_true]; done)) only [RX10_count, BW, wr_id, OM, OE, PL, ↓reduceIte, hR', TGs, eN, Int.reduceToNat, Nat.reduceLeDiff, Nat.reduceAdd]
    · simp (disch := first | omega | (simp only [DT, DS, ne_eq, Nat.reduceEqDiff, not_false_eq_true]; done)) only [RX10_count, BW, wr_id, OM, OE, PL, ↓reduceIte, hR', TGs, eN, Nat.reduceLeDiff, Nat.reduceAdd]
  | d + 1, k, hd, h0 => by
    have hR' : ∀ L k, wr (mA M L k) = mA M L k := hR
    have ih := l_count hs hR eN what hw h1 h2 Q d (k + 1) (by omega) (by omega)
    rw [show (k + 1).toNat = k.toNat + 1 by omega, cnF] at ih
    have hc := cnF_b (mA M) k.toNat
    rw [HX10_count_62]
    by_cases c : 0 < mA M amCo k.toNat
    · rw [if_pos c] at ih
      simp (disch := first | omega | (simp only [DT, DS, ne_eq, Nat.reduceEqDiff, not_false_eq_true]; done)) only [RX10_count, BW, wr_id, OM, OE, PL, ↓reduceIte, mSt.e hs, hR', TGs, Nat.reduceLeDiff, Nat.reduceAdd]
      exact ih
    · rw [if_neg c] at ih
      simp (disch := first | omega | (simp only [DT, DS, ne_eq, Nat.reduceEqDiff, not_false_eq_true]; done)) only [RX10_count, BW, wr_id, OM, OE, PL, ↓reduceIte, mSt.e hs, hR', TGs, Nat.reduceLeDiff, Nat.reduceAdd]
      exact ih
theorem s_count {M : xm} {N : Int} (hs : mSt M) (hR : inR M) (eN : mA M aM 3 = N) (hN : 0 ≤ N ∧ N ≤ 24) (what : Int) (hw : -2147483648 ≤ what ∧ what ≤ 2147483647) (Q : Option xv → xm → Prop) : Wp qX10_count 0 [vR aM, vI what, vX, vX] [] M Q ↔ Q (some (vI (ctF M N what))) M := by
  have hR' : ∀ L k, wr (mA M L k) = mA M L k := hR
  by_cases c1 : 10 ≤ what ∧ what ≤ 9 + N
  · unfold ctF
    rw [if_pos c1]
    simp (disch := first | omega | (simp only [DT, DS, ne_eq, Nat.reduceEqDiff, not_false_eq_true]; done)) only [RX10_count, BW, wr_id, OM, OE, PL, ↓reduceIte, mSt.e hs, hR', TGs, eN, s_isIn, bi_t c1, bi_T, Nat.reduceLeDiff, Nat.reduceAdd]
  · by_cases c2 : 40 ≤ what ∧ what ≤ 39 + N
    · unfold ctF
      rw [if_neg c1, if_pos c2]
      simp (disch := first | omega | (simp only [DT, DS, ne_eq, Nat.reduceEqDiff, not_false_eq_true]; done)) only [RX10_count, BW, wr_id, OM, OE, PL, ↓reduceIte, mSt.e hs, hR', TGs, eN, s_isIn, bi_f c1, bi_t c2, bi_T, bi_F, Nat.reduceLeDiff, Nat.reduceAdd]
    · have g := l_count hs hR eN what hw c1 c2 Q 72 0 (by omega) (by omega)
      rw [show (0 : Int).toNat = 0 from rfl, cnF] at g
      simp (disch := first | omega | (simp only [DT, DS, ne_eq, Nat.reduceEqDiff, not_false_eq_true]; done)) only [RX10_count, BW, wr_id, OM, OE, PL, ↓reduceIte, mSt.e hs, hR', TGs, eN, s_isIn, bi_f c1, bi_f c2, bi_F, Nat.reduceLeDiff, Nat.reduceAdd]
      exact g
