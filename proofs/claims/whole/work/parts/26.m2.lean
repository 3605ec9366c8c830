/-! 26.m2: the reference: rows copied, states copied, presets (written by wip/whole/mgen.py) -/
theorem wF_e {M : xm} {L a b : Nat} {f : Nat → Int} (h : a ≤ b) : wA (wF M L a b f) L b (f b) = wF M L a (b + 1) f := by
  unfold wF wA
  have h : lz_up (fun l j => if l = L ∧ a ≤ j ∧ j < b then f j else M.2.1 l j) L b (f b) = fun l j => if l = L ∧ a ≤ j ∧ j < b + 1 then f j else M.2.1 l j := by
    funext l j
    unfold lz_up
    by_cases h4 : l = L ∧ j = b
    · rw [if_pos h4, if_pos ⟨h4.1, by omega, by omega⟩, h4.2]
    · rw [if_neg h4]
      dsimp only
      by_cases h3 : l = L ∧ a ≤ j ∧ j < b
      · rw [if_pos h3, if_pos ⟨h3.1, h3.2.1, by omega⟩]
      · rw [if_neg h3, if_neg (fun z => h3 ⟨z.1, z.2.1, by have : j ≠ b := fun w => h4 ⟨z.1, w⟩; omega⟩)]
  rw [h]
theorem wG_e {M : xm} {L a b : Nat} {f : Nat → UInt64} (h : a ≤ b) : wB (wG M L a b f) L b (f b) = wG M L a (b + 1) f := by
  unfold wG wB
  have h : lz_up (fun l j => if l = L ∧ a ≤ j ∧ j < b then f j else M.2.2.1 l j) L b (f b) = fun l j => if l = L ∧ a ≤ j ∧ j < b + 1 then f j else M.2.2.1 l j := by
    funext l j
    unfold lz_up
    by_cases h4 : l = L ∧ j = b
    · rw [if_pos h4, if_pos ⟨h4.1, by omega, by omega⟩, h4.2]
    · rw [if_neg h4]
      dsimp only
      by_cases h3 : l = L ∧ a ≤ j ∧ j < b
      · rw [if_pos h3, if_pos ⟨h3.1, h3.2.1, by omega⟩]
      · rw [if_neg h3, if_neg (fun z => h3 ⟨z.1, z.2.1, by have : j ≠ b := fun w => h4 ⟨z.1, w⟩; omega⟩)]
  rw [h]
theorem wF_a {M : xm} {L a b a' b' : Nat} {f : Nat → Int} {x : Int} (h1 : a' = b) (h2 : b' = b + 1) (h : a ≤ b) (hx : x = f b) : wA (wF M L a b f) L a' x = wF M L a b' f := by rw [h1, h2, hx]; exact wF_e h
theorem wG_a {M : xm} {L a b a' b' : Nat} {f : Nat → UInt64} {x : UInt64} (h1 : a' = b) (h2 : b' = b + 1) (h : a ≤ b) (hx : x = f b) : wB (wG M L a b f) L a' x = wG M L a b' f := by rw [h1, h2, hx]; exact wG_e h
theorem wF_o {M : xm} {L a b j : Nat} {f : Nat → Int} (h : ¬ (a ≤ j ∧ j < b)) : mA (wF M L a b f) L j = mA M L j := if_neg (fun z => h z.2)
theorem wG_o {M : xm} {L a b j : Nat} {f : Nat → UInt64} (h : ¬ (a ≤ j ∧ j < b)) : mB (wG M L a b f) L j = mB M L j := if_neg (fun z => h z.2)
theorem row_I {f r t u : Int} (hf : 0 ≤ f ∧ f ≤ 23) (hr : 0 ≤ r ∧ r ≤ 4) (ht : 0 ≤ t ∧ t ≤ 23) (hu : 0 ≤ u ∧ u ≤ 4) (hne : ¬ (f = t ∧ r = u)) : 20 * f + 3 * r + 2 < 20 * t + 3 * u ∨ 20 * t + 3 * u + 2 < 20 * f + 3 * r := by
  rcases (show f < t ∨ t < f ∨ (f = t ∧ r < u) ∨ (f = t ∧ u < r) by omega) with h | h | h | h <;> omega
theorem row_D {f r t u : Int} (hf : 0 ≤ f ∧ f ≤ 23) (hr : 0 ≤ r ∧ r ≤ 4) (ht : 0 ≤ t ∧ t ≤ 23) (hu : 0 ≤ u ∧ u ≤ 4) (hne : ¬ (f = t ∧ r = u)) : 82 * f + 16 * r + 15 < 82 * t + 16 * u ∨ 82 * t + 16 * u + 15 < 82 * f + 16 * r := by
  rcases (show f < t ∨ t < f ∨ (f = t ∧ r < u) ∨ (f = t ∧ u < r) by omega) with h | h | h | h <;> omega
/-- n ints of L from b on come to a on; n doubles -/
def cpI (M : xm) (L a b n : Nat) : xm := wF M L a (a + n) (fun j => mA M L (j - a + b))
def cpD (M : xm) (L a b n : Nat) : xm := wG M L a (a + n) (fun j => mB M L (j - a + b))
theorem l_copyRow1 (M0 : xm) (hs : mSt M0) (hR : inR M0) (f r t u : Int) (hf : 0 ≤ f ∧ f ≤ 23) (hr : 0 ≤ r ∧ r ≤ 4) (ht : 0 ≤ t ∧ t ≤ 23) (hu : 0 ≤ u ∧ u ≤ 4) (hne : ¬ (f = t ∧ r = u)) (Q : Option xv → xm → Prop) : ∀ (d : Nat) (k : Int) (M : xm), k + d = 3 → 0 ≤ k → M = wF M0 amIn (20 * t + 3 * u).toNat ((20 * t + 3 * u) + k).toNat (fun j => mA M0 amIn (j - (20 * t + 3 * u).toNat + (20 * f + 3 * r).toNat)) → (Wp qX10_copyRow 3 [vR aM, vI f, vI r, vI t, vI u, vI k] [] M Q ↔ Wp qX10_copyRow 47 [vR aM, vI f, vI r, vI t, vI u, vI 0] [] (wF M0 amIn (20 * t + 3 * u).toNat ((20 * t + 3 * u) + 3).toNat (fun j => mA M0 amIn (j - (20 * t + 3 * u).toNat + (20 * f + 3 * r).toNat))) Q)
  | 0, k, M, hk, h0, hM => by
    have hs' : mSt M := by rw [hM]; exact hs
    have hR0 : inR M := by rw [hM]; exact hR.wF _ _ _ (fun j => hR _ _)
    unfold mSt at hs'
    have hR' : ∀ L k, wr (mA M L k) = mA M L k := hR0
    obtain rfl : k = 3 := by omega
    rw [HX10_copyRow_3]
    simp (disch := first | omega | (simp only [DT, DS, ne_eq, Nat.reduceEqDiff, not_false_eq_true]; done)) only [RX10_copyRow, BW, wr_id, wr_wr, OM, PL, if_true, if_false, hs', hR', TGs, wr_bi, bi_01, Nat.reduceLeDiff, Nat.reduceAdd, ite_not, s_rowAt _ _ M hs' hR0]
    rw [hM]
  | d + 1, k, M, hk, h0, hM => by
    have hs' : mSt M := by rw [hM]; exact hs
    have hR0 : inR M := by rw [hM]; exact hR.wF _ _ _ (fun j => hR _ _)
    unfold mSt at hs'
    have hR' : ∀ L k, wr (mA M L k) = mA M L k := hR0
    rw [HX10_copyRow_3]
    simp (disch := first | omega | (simp only [DT, DS, ne_eq, Nat.reduceEqDiff, not_false_eq_true]; done)) only [RX10_copyRow, BW, wr_id, wr_wr, OM, PL, if_true, if_false, hs', hR', TGs, wr_bi, bi_01, Nat.reduceLeDiff, Nat.reduceAdd, ite_not, s_rowAt _ _ M hs' hR0]
    refine l_copyRow1 M0 hs hR f r t u hf hr ht hu hne Q d (k + 1) _ (by omega) (by omega) ?_
    rw [hM]
    have hdi := row_I hf hr ht hu hne
    refine wF_a rfl (by omega) (by omega) ?_
    rw [wF_o (by omega), show ((20 * t + 3 * u) + k).toNat - (20 * t + 3 * u).toNat + (20 * f + 3 * r).toNat = ((20 * f + 3 * r) + k).toNat by omega]
theorem l_copyRow2 (M0 : xm) (hs : mSt M0) (hR : inR M0) (f r t u : Int) (hf : 0 ≤ f ∧ f ≤ 23) (hr : 0 ≤ r ∧ r ≤ 4) (ht : 0 ≤ t ∧ t ≤ 23) (hu : 0 ≤ u ∧ u ≤ 4) (hne : ¬ (f = t ∧ r = u)) (Q : Option xv → xm → Prop) : ∀ (d : Nat) (k : Int) (M : xm), k + d = 16 → 0 ≤ k → M = wG M0 amDb (82 * t + 16 * u).toNat ((82 * t + 16 * u) + k).toNat (fun j => mB M0 amDb (j - (82 * t + 16 * u).toNat + (82 * f + 16 * r).toNat)) → (Wp qX10_copyRow 47 [vR aM, vI f, vI r, vI t, vI u, vI k] [] M Q ↔ Q none (wG M0 amDb (82 * t + 16 * u).toNat ((82 * t + 16 * u) + 16).toNat (fun j => mB M0 amDb (j - (82 * t + 16 * u).toNat + (82 * f + 16 * r).toNat))))
  | 0, k, M, hk, h0, hM => by
    have hs' : mSt M := by rw [hM]; exact hs
    have hR0 : inR M := by rw [hM]; exact hR.wG _ _ _ _
    unfold mSt at hs'
    have hR' : ∀ L k, wr (mA M L k) = mA M L k := hR0
    obtain rfl : k = 16 := by omega
    rw [HX10_copyRow_47]
    simp (disch := first | omega | (simp only [DT, DS, ne_eq, Nat.reduceEqDiff, not_false_eq_true]; done)) only [RX10_copyRow, BW, wr_id, wr_wr, OM, PL, if_true, if_false, hs', hR', TGs, wr_bi, bi_01, Nat.reduceLeDiff, Nat.reduceAdd, ite_not]
    rw [hM]
  | d + 1, k, M, hk, h0, hM => by
    have hs' : mSt M := by rw [hM]; exact hs
    have hR0 : inR M := by rw [hM]; exact hR.wG _ _ _ _
    unfold mSt at hs'
    have hR' : ∀ L k, wr (mA M L k) = mA M L k := hR0
    rw [HX10_copyRow_47]
    simp (disch := first | omega | (simp only [DT, DS, ne_eq, Nat.reduceEqDiff, not_false_eq_true]; done)) only [RX10_copyRow, BW, wr_id, wr_wr, OM, PL, if_true, if_false, hs', hR', TGs, wr_bi, bi_01, Nat.reduceLeDiff, Nat.reduceAdd, ite_not]
    refine l_copyRow2 M0 hs hR f r t u hf hr ht hu hne Q d (k + 1) _ (by omega) (by omega) ?_
    rw [hM]
    have hdi := row_D hf hr ht hu hne
    refine wG_a rfl (by omega) (by omega) ?_
    rw [wG_o (by omega), show ((82 * t + 16 * u) + k).toNat - (82 * t + 16 * u).toNat + (82 * f + 16 * r).toNat = ((82 * f + 16 * r) + k).toNat by omega]
theorem l_copyState1 (M0 : xm) (hs : mSt M0) (hR : inR M0) (f t : Int) (hf : 0 ≤ f ∧ f ≤ 9) (ht : 0 ≤ t ∧ t ≤ 9) (hne : ¬ f = t) (Q : Option xv → xm → Prop) : ∀ (d : Nat) (k : Int) (M : xm), k + d = 1968 → 0 ≤ k → M = wG M0 amDb (1968 * t).toNat ((1968 * t) + k).toNat (fun j => mB M0 amDb (j - (1968 * t).toNat + (1968 * f).toNat)) → (Wp qX10_copyState 2 [vR aM, vI f, vI t, vI k] [] M Q ↔ Wp qX10_copyState 41 [vR aM, vI f, vI t, vI 0] [] (wG M0 amDb (1968 * t).toNat ((1968 * t) + 1968).toNat (fun j => mB M0 amDb (j - (1968 * t).toNat + (1968 * f).toNat))) Q)
  | 0, k, M, hk, h0, hM => by
    have hs' : mSt M := by rw [hM]; exact hs
    have hR0 : inR M := by rw [hM]; exact hR.wG _ _ _ _
    unfold mSt at hs'
    have hR' : ∀ L k, wr (mA M L k) = mA M L k := hR0
    obtain rfl : k = 1968 := by omega
    rw [HX10_copyState_2]
    simp (disch := first | omega | (simp only [DT, DS, ne_eq, Nat.reduceEqDiff, not_false_eq_true]; done)) only [RX10_copyState, BW, wr_id, wr_wr, OM, PL, if_true, if_false, hs', hR', TGs, wr_bi, bi_01, Nat.reduceLeDiff, Nat.reduceAdd, ite_not]
    rw [hM]
  | d + 1, k, M, hk, h0, hM => by
    have hs' : mSt M := by rw [hM]; exact hs
    have hR0 : inR M := by rw [hM]; exact hR.wG _ _ _ _
    unfold mSt at hs'
    have hR' : ∀ L k, wr (mA M L k) = mA M L k := hR0
    rw [HX10_copyState_2]
    simp (disch := first | omega | (simp only [DT, DS, ne_eq, Nat.reduceEqDiff, not_false_eq_true]; done)) only [RX10_copyState, BW, wr_id, wr_wr, OM, PL, if_true, if_false, hs', hR', TGs, wr_bi, bi_01, Nat.reduceLeDiff, Nat.reduceAdd, ite_not]
    refine l_copyState1 M0 hs hR f t hf ht hne Q d (k + 1) _ (by omega) (by omega) ?_
    rw [hM]
    refine wG_a rfl (by omega) (by omega) ?_
    rw [wG_o (by omega), show ((1968 * t) + k).toNat - (1968 * t).toNat + (1968 * f).toNat = ((1968 * f) + k).toNat by omega]
theorem l_copyState2 (M0 : xm) (hs : mSt M0) (hR : inR M0) (f t : Int) (hf : 0 ≤ f ∧ f ≤ 9) (ht : 0 ≤ t ∧ t ≤ 9) (hne : ¬ f = t) (Q : Option xv → xm → Prop) : ∀ (d : Nat) (k : Int) (M : xm), k + d = 480 → 0 ≤ k → M = wF M0 amIn (480 * t).toNat ((480 * t) + k).toNat (fun j => mA M0 amIn (j - (480 * t).toNat + (480 * f).toNat)) → (Wp qX10_copyState 41 [vR aM, vI f, vI t, vI k] [] M Q ↔ Q none (wF M0 amIn (480 * t).toNat ((480 * t) + 480).toNat (fun j => mA M0 amIn (j - (480 * t).toNat + (480 * f).toNat))))
  | 0, k, M, hk, h0, hM => by
    have hs' : mSt M := by rw [hM]; exact hs
    have hR0 : inR M := by rw [hM]; exact hR.wF _ _ _ (fun j => hR _ _)
    unfold mSt at hs'
    have hR' : ∀ L k, wr (mA M L k) = mA M L k := hR0
    obtain rfl : k = 480 := by omega
    rw [HX10_copyState_41]
    simp (disch := first | omega | (simp only [DT, DS, ne_eq, Nat.reduceEqDiff, not_false_eq_true]; done)) only [RX10_copyState, BW, wr_id, wr_wr, OM, PL, if_true, if_false, hs', hR', TGs, wr_bi, bi_01, Nat.reduceLeDiff, Nat.reduceAdd, ite_not]
    rw [hM]
  | d + 1, k, M, hk, h0, hM => by
    have hs' : mSt M := by rw [hM]; exact hs
    have hR0 : inR M := by rw [hM]; exact hR.wF _ _ _ (fun j => hR _ _)
    unfold mSt at hs'
    have hR' : ∀ L k, wr (mA M L k) = mA M L k := hR0
    rw [HX10_copyState_41]
    simp (disch := first | omega | (simp only [DT, DS, ne_eq, Nat.reduceEqDiff, not_false_eq_true]; done)) only [RX10_copyState, BW, wr_id, wr_wr, OM, PL, if_true, if_false, hs', hR', TGs, wr_bi, bi_01, Nat.reduceLeDiff, Nat.reduceAdd, ite_not]
    refine l_copyState2 M0 hs hR f t hf ht hne Q d (k + 1) _ (by omega) (by omega) ?_
    rw [hM]
    refine wF_a rfl (by omega) (by omega) ?_
    rw [wF_o (by omega), show ((480 * t) + k).toNat - (480 * t).toNat + (480 * f).toNat = ((480 * f) + k).toNat by omega]
theorem l_keep (M0 : xm) (hs : mSt M0) (hR : inR M0) (p : Int) (hp : 0 ≤ p ∧ p ≤ 7) (hn : 0 ≤ mA M0 aM 3 ∧ mA M0 aM 3 ≤ 24) (Q : Option xv → xm → Prop) : ∀ (d : Nat) (k : Int) (M : xm), k + d = 72 → 0 ≤ k → M = wF M0 amPr (72 * p).toNat ((72 * p) + k).toNat (fun j => mA M0 amKn (j - (72 * p).toNat)) → (Wp qX10_keep 14 [vR aM, vI p, vI k] [] M Q ↔ Q (some (vI (mA M0 aM 3))) (wA (wF M0 amPr (72 * p).toNat ((72 * p) + 72).toNat (fun j => mA M0 amKn (j - (72 * p).toNat))) amPm p.toNat (mA M0 aM 3 + 1)))
  | 0, k, M, hk, h0, hM => by
    have hs' : mSt M := by rw [hM]; exact hs
    have hR0 : inR M := by rw [hM]; exact hR.wF _ _ _ (fun j => hR _ _)
    unfold mSt at hs'
    have hR' : ∀ L k, wr (mA M L k) = mA M L k := hR0
    obtain rfl : k = 72 := by omega
    rw [HX10_keep_14]
    simp (disch := first | omega | (simp only [DT, DS, ne_eq, Nat.reduceEqDiff, not_false_eq_true]; done)) only [RX10_keep, BW, wr_id, wr_wr, OM, PL, if_true, if_false, hs', hR', TGs, wr_bi, bi_01, Nat.reduceLeDiff, Nat.reduceAdd, ite_not]
    rw [hM]
    simp (disch := first | omega | (simp only [DT, DS, ne_eq, Nat.reduceEqDiff, not_false_eq_true]; done)) only [MM, MF, DT, DS, PL, if_true, if_false, wr_id]
  | d + 1, k, M, hk, h0, hM => by
    have hs' : mSt M := by rw [hM]; exact hs
    have hR0 : inR M := by rw [hM]; exact hR.wF _ _ _ (fun j => hR _ _)
    unfold mSt at hs'
    have hR' : ∀ L k, wr (mA M L k) = mA M L k := hR0
    rw [HX10_keep_14]
    simp (disch := first | omega | (simp only [DT, DS, ne_eq, Nat.reduceEqDiff, not_false_eq_true]; done)) only [RX10_keep, BW, wr_id, wr_wr, OM, PL, if_true, if_false, hs', hR', TGs, wr_bi, bi_01, Nat.reduceLeDiff, Nat.reduceAdd, ite_not]
    refine l_keep M0 hs hR p hp hn Q d (k + 1) _ (by omega) (by omega) ?_
    rw [hM]
    refine wF_a rfl (by omega) (by omega) ?_
    simp only [MF, DT, ne_eq, Nat.reduceEqDiff, not_false_eq_true, false_and, if_false]
    rw [show ((72 * p) + k).toNat - (72 * p).toNat = k.toNat by omega]
/-- a row copied -/
def cpRow (M : xm) (f r t u : Int) : xm := cpD (cpI M amIn (20 * t + 3 * u).toNat (20 * f + 3 * r).toNat 3) amDb (82 * t + 16 * u).toNat (82 * f + 16 * r).toNat 16
/-- a state copied -/
def cpSta (M : xm) (f t : Int) : xm := cpI (cpD M amDb (1968 * t).toNat (1968 * f).toNat 1968) amIn (480 * t).toNat (480 * f).toNat 480
theorem s_copyRow (f r t u : Int) (M : xm) (hs : mSt M) (hR : inR M) (hf : 0 ≤ f ∧ f ≤ 23) (hr : 0 ≤ r ∧ r ≤ 4) (ht : 0 ≤ t ∧ t ≤ 23) (hu : 0 ≤ u ∧ u ≤ 4) (hne : ¬ (f = t ∧ r = u)) (Q : Option xv → xm → Prop) : Wp qX10_copyRow 0 [vR aM, vI f, vI r, vI t, vI u, vX] [] M Q ↔ Q none (cpRow M f r t u) := by
  simp only [RX10_copyRow, BW]
  rw [l_copyRow1 M hs hR f r t u hf hr ht hu hne Q 3 0 M (by omega) (by omega) (by rw [show (20 * t + 3 * u + 0).toNat = (20 * t + 3 * u).toNat by omega, wF_0])]
  have hs2 : mSt (wF M amIn (20 * t + 3 * u).toNat (20 * t + 3 * u + 3).toNat (fun j => mA M amIn (j - (20 * t + 3 * u).toNat + (20 * f + 3 * r).toNat))) := hs
  rw [l_copyRow2 _ hs2 (hR.wF _ _ _ (fun j => hR _ _)) f r t u hf hr ht hu hne Q 16 0 _ (by omega) (by omega) (by rw [show (82 * t + 16 * u + 0).toNat = (82 * t + 16 * u).toNat by omega, wG_0])]
  unfold cpRow cpD cpI
  rw [show (20 * t + 3 * u + 3).toNat = (20 * t + 3 * u).toNat + 3 by omega, show (82 * t + 16 * u + 16).toNat = (82 * t + 16 * u).toNat + 16 by omega]
theorem s_copyState (f t : Int) (M : xm) (hs : mSt M) (hR : inR M) (hf : 0 ≤ f ∧ f ≤ 9) (ht : 0 ≤ t ∧ t ≤ 9) (hne : ¬ f = t) (Q : Option xv → xm → Prop) : Wp qX10_copyState 0 [vR aM, vI f, vI t, vX] [] M Q ↔ Q none (cpSta M f t) := by
  simp only [RX10_copyState, BW]
  rw [l_copyState1 M hs hR f t hf ht hne Q 1968 0 M (by omega) (by omega) (by rw [show (1968 * t + 0).toNat = (1968 * t).toNat by omega, wG_0])]
  have hs2 : mSt (wG M amDb (1968 * t).toNat (1968 * t + 1968).toNat (fun j => mB M amDb (j - (1968 * t).toNat + (1968 * f).toNat))) := hs
  rw [l_copyState2 _ hs2 (hR.wG _ _ _ _) f t hf ht hne Q 480 0 _ (by omega) (by omega) (by rw [show (480 * t + 0).toNat = (480 * t).toNat by omega, wF_0])]
  unfold cpSta cpD cpI
  rw [show (480 * t + 480).toNat = (480 * t).toNat + 480 by omega, show (1968 * t + 1968).toNat = (1968 * t).toNat + 1968 by omega]
theorem s_keep (p : Int) (M : xm) (hs : mSt M) (hR : inR M) (hp : -2147483648 ≤ p ∧ p ≤ 2147483647) (hn : 0 ≤ mA M aM 3 ∧ mA M aM 3 ≤ 24) (Q : Option xv → xm → Prop) : Wp qX10_keep 0 [vR aM, vI p, vX] [] M Q ↔ if 0 ≤ p ∧ p ≤ 7 then Q (some (vI (mA M aM 3))) (wA (wF M amPr (72 * p).toNat (72 * p + 72).toNat (fun j => mA M amKn (j - (72 * p).toNat))) amPm p.toNat (mA M aM 3 + 1)) else Q (some (vI (-1))) M := by
  have hs' := hs
  unfold mSt at hs'
  have hR' : ∀ L k, wr (mA M L k) = mA M L k := hR
  simp (disch := first | omega | (simp only [DT, DS, ne_eq, Nat.reduceEqDiff, not_false_eq_true]; done)) only [RX10_keep, BW, wr_id, OM, PL, if_true, if_false, hs', hR', TGs, wr_bi, bi_01, Nat.reduceLeDiff, Nat.reduceAdd, ite_not, s_isIn]
  by_cases h : 0 ≤ p ∧ p ≤ 7
  · rw [if_pos h, if_pos h, l_keep M hs hR p h hn Q 72 0 M (by omega) (by omega) (by rw [show (72 * p + 0).toNat = (72 * p).toNat by omega, wF_0])]
  · rw [if_neg h, if_neg h]
theorem l_recall (M0 : xm) (hs : mSt M0) (hR : inR M0) (p n : Int) (hp : 0 ≤ p ∧ p ≤ 7) (hn : 0 ≤ n ∧ n ≤ 24) (Q : Option xv → xm → Prop) : ∀ (d : Nat) (k : Int) (M : xm), k + d = 3 * n → 0 ≤ k → M = wF M0 amKn 0 k.toNat (fun j => mA M0 amPr (j + (72 * p).toNat)) → (Wp qX10_recall 35 [vR aM, vI p, vI n, vI k] [] M Q ↔ Q (some (vI n)) (wF M0 amKn 0 (3 * n).toNat (fun j => mA M0 amPr (j + (72 * p).toNat))))
  | 0, k, M, hk, h0, hM => by
    have hs' : mSt M := by rw [hM]; exact hs
    have hR0 : inR M := by rw [hM]; exact hR.wF _ _ _ (fun j => hR _ _)
    unfold mSt at hs'
    have hR' : ∀ L k, wr (mA M L k) = mA M L k := hR0
    obtain rfl : k = 3 * n := by omega
    rw [HX10_recall_35]
    simp (disch := first | omega | (simp only [DT, DS, ne_eq, Nat.reduceEqDiff, not_false_eq_true]; done)) only [RX10_recall, BW, wr_id, wr_wr, OM, PL, if_true, if_false, hs', hR', TGs, wr_bi, bi_01, Nat.reduceLeDiff, Nat.reduceAdd, ite_not]
    rw [hM]
  | d + 1, k, M, hk, h0, hM => by
    have hs' : mSt M := by rw [hM]; exact hs
    have hR0 : inR M := by rw [hM]; exact hR.wF _ _ _ (fun j => hR _ _)
    unfold mSt at hs'
    have hR' : ∀ L k, wr (mA M L k) = mA M L k := hR0
    rw [HX10_recall_35]
    simp (disch := first | omega | (simp only [DT, DS, ne_eq, Nat.reduceEqDiff, not_false_eq_true]; done)) only [RX10_recall, BW, wr_id, wr_wr, OM, PL, if_true, if_false, hs', hR', TGs, wr_bi, bi_01, Nat.reduceLeDiff, Nat.reduceAdd, ite_not]
    refine l_recall M0 hs hR p n hp hn Q d (k + 1) _ (by omega) (by omega) ?_
    rw [hM]
    refine wF_a rfl (by omega) (by omega) ?_
    simp only [MF, DT, ne_eq, Nat.reduceEqDiff, not_false_eq_true, false_and, if_false]
    rw [show k.toNat + (72 * p).toNat = (72 * p + k).toNat by omega]
theorem s_recall (p : Int) (M : xm) (hs : mSt M) (hR : inR M) (hp : -2147483648 ≤ p ∧ p ≤ 2147483647) (hpm : ∀ j, 0 ≤ mA M amPm j ∧ mA M amPm j ≤ 25) (Q : Option xv → xm → Prop) : Wp qX10_recall 0 [vR aM, vI p, vX, vX] [] M Q ↔ if 0 ≤ p ∧ p ≤ 7 then (if mA M amPm p.toNat = 0 then Q (some (vI (-2))) M else Q (some (vI (mA M amPm p.toNat - 1))) (wF M amKn 0 (3 * (mA M amPm p.toNat - 1)).toNat (fun j => mA M amPr (j + (72 * p).toNat)))) else Q (some (vI (-1))) M := by
  have hs' := hs
  unfold mSt at hs'
  have hR' : ∀ L k, wr (mA M L k) = mA M L k := hR
  have hc := hpm p.toNat
  simp (disch := first | omega | (simp only [DT, DS, ne_eq, Nat.reduceEqDiff, not_false_eq_true]; done)) only [RX10_recall, BW, wr_id, OM, PL, if_true, if_false, hs', hR', TGs, wr_bi, bi_01, Nat.reduceLeDiff, Nat.reduceAdd, ite_not, s_isIn]
  by_cases h : 0 ≤ p ∧ p ≤ 7
  · rw [if_pos h, if_pos h]
    by_cases h2 : mA M amPm p.toNat = 0
    · rw [if_pos h2, if_pos h2]
    · rw [if_neg h2, if_neg h2, l_recall M hs hR p (mA M amPm p.toNat - 1) h (by omega) Q (3 * (mA M amPm p.toNat - 1)).toNat 0 M (by omega) (by omega) (by rw [show (0 : Int).toNat = 0 from rfl, wF_0])]
  · rw [if_neg h, if_neg h]
