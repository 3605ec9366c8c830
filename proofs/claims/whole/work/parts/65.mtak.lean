/-! 65.mtak: the reference: take, equal -/
theorem one_nn : isNaN64 (FP.ddiv FP.dconst1 0) = false ∧ isNaN64 (FP.ddiv FP.dconst1 9223372036854775808) = false ∧ FP.dcmp (FP.ddiv FP.dconst1 0) FP.dconst0 = some .gt ∧ FP.dcmp (FP.ddiv FP.dconst1 9223372036854775808) FP.dconst0 = some .lt := by decide +kernel
def mnB (x : UInt64) : Bool := decide (FP.dcmp x FP.dconst0 = some .lt ∨ (FP.dcmp x FP.dconst0 = some .eq ∧ FP.dcmp (FP.ddiv FP.dconst1 x) FP.dconst0 = some .lt))
theorem zbits {x : UInt64} (h : FP.dcmp x FP.dconst0 = some .eq) : x = 0 ∨ x = 9223372036854775808 := Jvm.FP.Core.zero_bits h
theorem s_hasMinus (x : UInt64) (M : xm) (Q : Option xv → xm → Prop) : Wp qX10_hasMinus 0 [vD x, vX] [] M Q ↔ Q (some (vI (bi (mnB x = true)))) M := by
  unfold mnB
  rw [decide_eq_true_eq]
  by_cases c1 : FP.dcmp x FP.dconst0 = some .lt
  · simp only [RX10_hasMinus, BW, cmp_l, cmp_g, c1, if_true, true_or, or_true, true_and, bi_T]
  · by_cases c2 : FP.dcmp x FP.dconst0 = some .eq
    · have nn : isNaN64 (FP.ddiv FP.dconst1 x) = false := by
        rcases zbits c2 with e | e <;> rw [e]
        · exact one_nn.1
        · exact one_nn.2.1
      by_cases c3 : FP.dcmp (FP.ddiv FP.dconst1 x) FP.dconst0 = some .lt
      · simp [RX10_hasMinus, BW, cmp_l, cmp_g, c2, c3, nn, bi_T]
      · simp [RX10_hasMinus, BW, cmp_l, cmp_g, c2, c3, nn, bi_F]
    · simp [RX10_hasMinus, BW, cmp_l, cmp_g, c1, c2, bi_F]
/-- equal as numbers, and of one sign: the same bits -/
theorem sm_bits {x y : UInt64} (hx : isNaN64 x = false) : (FP.dcmp x y = some .eq ∧ mnB x = mnB y) ↔ x = y := by
  constructor
  · rintro ⟨h1, h2⟩
    by_cases hz : FP.dcmp y FP.dconst0 = some .eq
    · have hx0 : FP.dcmp x FP.dconst0 = some .eq := by
        have n := Jvm.FP.Core.dcmp_some h1
        have n0 : Jvm.FP.Core.val64 FP.dconst0 ≠ .nan := (nan_d _).mp (by decide)
        have k1 := (Jvm.FP.Core.dcmp_eq_key n.1 n.2).mp h1
        have k2 := (Jvm.FP.Core.dcmp_eq_key n.2 n0).mp hz
        exact (Jvm.FP.Core.dcmp_eq_key n.1 n0).mpr (k1.trans k2)
      have m0 : mnB 0 = false := by decide +kernel
      have m1 : mnB 9223372036854775808 = true := by decide +kernel
      rcases zbits hz with e | e <;> rcases zbits hx0 with e' | e' <;> rw [e, e'] at h2 ⊢
      · rw [m0, m1] at h2; exact absurd h2 (by decide)
      · rw [m0, m1] at h2; exact absurd h2 (by decide)
    · exact Jvm.FP.Core.eq_bits (fun z => hz (Jvm.FP.Core.zero_iff.mpr z)) h1
  · intro h
    rw [← h]
    exact ⟨Jvm.FP.Core.dcmp_self ((nan_d _).mp hx), rfl⟩
/-- a take: where it stands -/
def mTk (M : xm) (k : Int) (w : Rw) : Prop := mA M amTk k.toNat = rwK w ∧ mA M amTl k.toNat = rwL w ∧ mA M amTo k.toNat = rwN w ∧ ∀ i, 0 ≤ i → i ≤ 15 → mB M amTs (16 * k + i).toNat = rwV w i
def tkM (M : xm) (m T : Int) : xm := wA (wG (wA (wA (wA (wA (wA M aM 0 (T + 1)) amTn T.toNat (T + 1)) amTk T.toNat (mA M amIn (20 * m).toNat - 1)) amTl T.toNat (mA M amIn (20 * m + 1).toNat)) amTo T.toNat (mA M amIn (20 * m + 2).toNat)) amTs (16 * T).toNat (16 * T + 16).toNat (fun j => mB M amDb (j - (16 * T).toNat + (82 * m).toNat))) aM 22 (T + 1)
theorem l_take (M0 : xm) (hs : mSt M0) (hR : inR M0) (m T : Int) (hm : 0 ≤ m ∧ m ≤ 23) (hT : 0 ≤ T ∧ T ≤ 39) (eT : mA M0 aM 22 = T) (eL : mA M0 aM 0 = T + 1) (Q : Option xv → xm → Prop) : ∀ (d : Nat) (k : Int) (M : xm), k + d = 16 → 0 ≤ k → M = wG M0 amTs (16 * T).toNat (16 * T + k).toNat (fun j => mB M0 amDb (j - (16 * T).toNat + (82 * m).toNat)) → (Wp qX10_take 116 [vR aM, vI m, vI k] [] M Q ↔ Q (some (vI (T + 1))) (wA (wG M0 amTs (16 * T).toNat (16 * T + 16).toNat (fun j => mB M0 amDb (j - (16 * T).toNat + (82 * m).toNat))) aM 22 (T + 1)))
  | 0, k, M, hk, h0, hM => by
    have hs' : mSt M := by rw [hM]; exact hs
    have hR0 : inR M := by rw [hM]; exact hR
    have hR' : ∀ L k, wr (mA M L k) = mA M L k := hR0
    have eT' : mA M aM 22 = T := by rw [hM]; exact eT
    have eL' : mA M aM 0 = T + 1 := by rw [hM]; exact eL
    obtain rfl : k = 16 := by omega
    rw [HX10_take_116]
    simp (disch := first | omega | (simp only [DT, DS, ne_eq, Nat.reduceEqDiff, not_false_eq_true]; done)) only [RX10_take, BW, wr_id, OM, OE, PL, ↓reduceIte, hR', TGs, eT', eL', MM, DT, Nat.reduceEqDiff, Nat.reduceLeDiff, Nat.reduceAdd]
    rw [hM]
  | d + 1, k, M, hk, h0, hM => by
    have hs' : mSt M := by rw [hM]; exact hs
    have hR0 : inR M := by rw [hM]; exact hR
    have hR' : ∀ L k, wr (mA M L k) = mA M L k := hR0
    have eT' : mA M aM 22 = T := by rw [hM]; exact eT
    rw [HX10_take_116]
    simp (disch := first | omega | (simp only [DT, DS, ne_eq, Nat.reduceEqDiff, not_false_eq_true]; done)) only [RX10_take, BW, wr_id, OM, OE, PL, ↓reduceIte, mSt.e hs', hR', TGs, eT', Nat.reduceLeDiff, Nat.reduceAdd]
    refine l_take M0 hs hR m T hm hT eT eL Q d (k + 1) _ (by omega) (by omega) ?_
    have e : mB M amDb (82 * m + k).toNat = (fun j => mB M0 amDb (j - (16 * T).toNat + (82 * m).toNat)) (16 * T + k).toNat := by
      dsimp only
      rw [hM, MF.2.2.2.2.1, if_neg (fun q => absurd q.1 (by decide)), show (16 * T + k).toNat - (16 * T).toNat + (82 * m).toNat = (82 * m + k).toNat by omega]
    rw [e, hM, wG_e (by omega), show (16 * T + k).toNat + 1 = (16 * T + (k + 1)).toNat by omega]
def tkF (A : Int → SS) (N T m : Int) : Int := if 0 ≤ m ∧ m ≤ N - 1 then (match sR (A m) with
  | none => -2
  | some _ => if T = 40 then -3 else T + 1) else -1
theorem s_take {M : xm} {N t T : Int} {A : Int → SS} (hs : mSt M) (hR : inR M) (eN : mA M aM 3 = N) (hN : 0 ≤ N ∧ N ≤ 24) (ha : mAs M t A) (eT : mA M aM 22 = T) (hT : 0 ≤ T ∧ T ≤ 40) (eL : mA M aM 0 = T) (m : Int) (hm : -2147483648 ≤ m ∧ m ≤ 2147483647) (Q : Option xv → xm → Prop) : Wp qX10_take 0 [vR aM, vI m, vX] [] M Q ↔ Q (some (vI (tkF A N T m))) (if 0 < tkF A N T m then tkM M m T else M) := by
  have hR' : ∀ L k, wr (mA M L k) = mA M L k := hR
  have q1 := s_isModule m M hs hR hm (by rw [eN]; exact hN)
  rw [eN] at q1
  unfold tkF
  by_cases c1 : 0 ≤ m ∧ m ≤ N - 1
  · rw [if_pos c1]
    obtain ⟨⟨hr, _⟩, hk, _⟩ := ha m c1.1 (by omega)
    cases e : sR (A m) with
    | none =>
      rw [e] at hr
      have e0 := mRw_n hr
      simp (disch := first | omega | (simp only [DT, DS, ne_eq, Nat.reduceEqDiff, not_false_eq_true]; done)) only [RX10_take, BW, wr_id, OM, OE, PL, ↓reduceIte, hR', TGs, q1, bi_t c1, bi_T, s_kindOf m M hs hR, e0, Nat.reduceLeDiff, Nat.reduceAdd]
    | some w =>
      rw [e] at hr
      obtain ⟨e0, e1, e2, e3⟩ := mRw_s hr
      obtain ⟨o1, o2, _⟩ := hk w e
      dsimp only
      by_cases c2 : T = 40
      · rw [if_pos c2, if_neg (by omega)]
        simp (disch := first | omega | (simp only [DT, DS, ne_eq, Nat.reduceEqDiff, not_false_eq_true]; done)) only [RX10_take, BW, wr_id, OM, OE, PL, ↓reduceIte, hR', TGs, q1, bi_t c1, bi_T, s_kindOf m M hs hR, e0, eT, Nat.reduceLeDiff, Nat.reduceAdd]
      · rw [if_neg c2, if_pos (by omega)]
        have hm' : 0 ≤ m ∧ m ≤ 239 := by omega
        have R1 : inR (wA M aM 0 (T + 1)) := hR.wA _ _ (wr_id (by omega) (by omega))
        have R2 := R1.wA amTn T.toNat (x := T + 1) (wr_id (by omega) (by omega))
        have R3 := R2.wA amTk T.toNat (x := mA M amIn (20 * m).toNat - 1) (wr_id (by omega) (by omega))
        have R4 := R3.wA amTl T.toNat (hR' amIn (20 * m + 1).toNat)
        have R5 := R4.wA amTo T.toNat (hR' amIn (20 * m + 2).toNat)
        have g := l_take (wA (wA (wA (wA (wA M aM 0 (T + 1)) amTn T.toNat (T + 1)) amTk T.toNat (mA M amIn (20 * m).toNat - 1)) amTl T.toNat (mA M amIn (20 * m + 1).toNat)) amTo T.toNat (mA M amIn (20 * m + 2).toNat)) hs R5 m T (by omega) (by omega) (by
          rw [wA_o _ _ (fun q => absurd q.1 (by decide)), wA_o _ _ (fun q => absurd q.1 (by decide)), wA_o _ _ (fun q => absurd q.1 (by decide)), wA_o _ _ (fun q => absurd q.1 (by decide)), wA_o _ _ (by decide)]
          exact eT) (by
          rw [wA_o _ _ (fun q => absurd q.1 (by decide)), wA_o _ _ (fun q => absurd q.1 (by decide)), wA_o _ _ (fun q => absurd q.1 (by decide)), wA_o _ _ (fun q => absurd q.1 (by decide)), wA_e]) Q 16 0 _ (by omega) (by omega) (by rw [show (16 * T + 0).toNat = (16 * T).toNat by omega, wG_0])
        simp (disch := first | omega | (simp only [DT, DS, ne_eq, Nat.reduceEqDiff, not_false_eq_true]; done)) only [RX10_take, BW, wr_id, OM, OE, PL, ↓reduceIte, mSt.e hs, hR', TGs, q1, bi_t c1, bi_T, s_kindOf m M hs hR, s_kindOf m _ (show mSt (wA (wA M aM 0 (T + 1)) amTn T.toNat (T + 1)) from hs) R2, s_rowAt m 0 _ (show mSt (wA (wA (wA M aM 0 (T + 1)) amTn T.toNat (T + 1)) amTk T.toNat (mA M amIn (20 * m).toNat - 1)) from hs) R3, s_rowAt m 0 _ (show mSt (wA (wA (wA (wA M aM 0 (T + 1)) amTn T.toNat (T + 1)) amTk T.toNat (mA M amIn (20 * m).toNat - 1)) amTl T.toNat (mA M amIn (20 * m + 1).toNat)) from hs) R4, Int.mul_zero, Int.add_zero, eT, eL, MM, DT, Nat.reduceEqDiff, Nat.reduceLeDiff, Nat.reduceAdd]
        exact g
  · rw [if_neg c1]
    simp (disch := first | omega | (simp only [DT, DS, ne_eq, Nat.reduceEqDiff, not_false_eq_true]; done)) only [RX10_take, BW, wr_id, OM, OE, PL, ↓reduceIte, TGs, q1, bi_f c1, Nat.reduceLeDiff, Nat.reduceAdd]
def toF (T n : Int) : Int := if 1 ≤ n ∧ n ≤ T then n - 1 else -1
theorem l_takeOf {M : xm} {T : Int} (hs : mSt M) (hR : inR M) (eT : mA M aM 22 = T) (hT : 0 ≤ T ∧ T ≤ 40) (hn : ∀ k : Int, 0 ≤ k → k < T → mA M amTn k.toNat = k + 1) (n : Int) (hw : -2147483648 ≤ n ∧ n ≤ 2147483647) (Q : Option xv → xm → Prop) : ∀ (d : Nat) (k : Int), k + d = T → 0 ≤ k → (Wp qX10_takeOf 4 [vR aM, vI n, vI (toF k n), vI k] [] M Q ↔ Q (some (vI (toF T n))) M)
  | 0, k, hd, h0 => by
    have hR' : ∀ L k, wr (mA M L k) = mA M L k := hR
    obtain rfl : k = T := by omega
    rw [HX10_takeOf_4]
    simp (disch := first | omega | (simp only [DT, DS, ne_eq, Nat.reduceEqDiff, not_false_eq_true]; done)) only [RX10_takeOf, BW, wr_id, OM, OE, PL, ↓reduceIte, hR', TGs, eT, Nat.reduceLeDiff, Nat.reduceAdd]
  | d + 1, k, hd, h0 => by
    have hR' : ∀ L k, wr (mA M L k) = mA M L k := hR
    have ih := l_takeOf hs hR eT hT hn n hw Q d (k + 1) (by omega) (by omega)
    have ek := hn k h0 (by omega)
    rw [HX10_takeOf_4]
    by_cases c : k + 1 = n
    · rw [show toF (k + 1) n = k by unfold toF; rw [if_pos (by omega)]; omega] at ih
      simp (disch := first | omega | (simp only [DT, DS, ne_eq, Nat.reduceEqDiff, not_false_eq_true]; done)) only [RX10_takeOf, BW, wr_id, OM, OE, PL, ↓reduceIte, mSt.e hs, hR', TGs, eT, ek, Nat.reduceLeDiff, Nat.reduceAdd]
      exact ih
    · rw [show toF (k + 1) n = toF k n by unfold toF; by_cases z : 1 ≤ n ∧ n ≤ k; rw [if_pos (by omega), if_pos z]; rw [if_neg (by omega), if_neg z]] at ih
      simp (disch := first | omega | (simp only [DT, DS, ne_eq, Nat.reduceEqDiff, not_false_eq_true]; done)) only [RX10_takeOf, BW, wr_id, OM, OE, PL, ↓reduceIte, mSt.e hs, hR', TGs, eT, ek, Nat.reduceLeDiff, Nat.reduceAdd]
      exact ih
theorem s_takeOf {M : xm} {T : Int} (hs : mSt M) (hR : inR M) (eT : mA M aM 22 = T) (hT : 0 ≤ T ∧ T ≤ 40) (hn : ∀ k : Int, 0 ≤ k → k < T → mA M amTn k.toNat = k + 1) (n : Int) (hw : -2147483648 ≤ n ∧ n ≤ 2147483647) (Q : Option xv → xm → Prop) : Wp qX10_takeOf 0 [vR aM, vI n, vX, vX] [] M Q ↔ Q (some (vI (toF T n))) M := by
  have g := l_takeOf hs hR eT hT hn n hw Q T.toNat 0 (by omega) (by omega)
  rw [show toF 0 n = -1 by unfold toF; rw [if_neg (by omega)]] at g
  simp (disch := first | omega | (simp only [DT, DS, ne_eq, Nat.reduceEqDiff, not_false_eq_true]; done)) only [RX10_takeOf, BW, wr_id, OM, OE, PL, ↓reduceIte, TGs, Nat.reduceLeDiff, Nat.reduceAdd]
  exact g
def alB (p : Int → Bool) : Nat → Bool
  | 0 => true
  | k + 1 => alB p k && p k
theorem alB_f {p : Int → Bool} {j : Nat} (h : alB p j = false) : ∀ d, alB p (j + d) = false
  | 0 => h
  | d + 1 => by
    show (alB p (j + d) && p ((j + d : Nat) : Int)) = false
    rw [alB_f h d]
    rfl
/-- bit for bit the same -/
def eqB (w v : Rw) : Bool := decide (rwK w = rwK v ∧ rwL w = rwL v ∧ rwN w = rwN v) && alB (fun i => decide (rwV w i = rwV v i)) (rwL w).toNat
theorem sv_nn {kd : Int} {x : UInt64} (h : svK kd x) : isNaN64 x = false := by
  by_cases c : 3 ≤ kd
  · exact (sv_mg h c).nn (by decide)
  · obtain ⟨v, _, e⟩ := h.1 (by omega)
    rw [e]
    exact (mg_i _).nn (by decide)
theorem l_equal {M : xm} {a b : Int} {w v : Rw} (hs : mSt M) (hR : inR M) (ha : 0 ≤ a ∧ a ≤ 39) (hb : 0 ≤ b ∧ b ≤ 39) (ta : mTk M a w) (tb : mTk M b v) (oa : okR w) (ob : okR v) (x1 x2 : xv) (Q : Option xv → xm → Prop) : ∀ (d : Nat) (k : Int) (E : Bool) (x7 x8 x9 x10 : xv), k + d = rwL w → 0 ≤ k → E = (decide (rwK w = rwK v ∧ rwL w = rwL v ∧ rwN w = rwN v) && alB (fun i => decide (rwV w i = rwV v i)) k.toNat) → (Wp qX10_equal 82 [vR aM, x1, x2, vI a, vI b, vI (bi (E = true)), vI k, x7, x8, x9, x10] [] M Q ↔ Q (some (vI (bi (eqB w v = true)))) M)
  | 0, k, E, x7, x8, x9, x10, hd, h0, hE => by
    have hR' : ∀ L k, wr (mA M L k) = mA M L k := hR
    obtain ⟨a1, a2, a3, a4⟩ := ta
    have ol := oa.2.1
    obtain rfl : k = rwL w := by omega
    have e : E = eqB w v := hE
    rw [← e, HX10_equal_82]
    simp (disch := first | omega | (simp only [DT, DS, ne_eq, Nat.reduceEqDiff, not_false_eq_true]; done)) only [RX10_equal, BW, wr_id, OM, OE, PL, ↓reduceIte, mSt.e hs, hR', TGs, a2, wr_bi, Nat.reduceLeDiff, Nat.reduceAdd]
    cases E <;> simp [bi_T, bi_F]
  | d + 1, k, E, x7, x8, x9, x10, hd, h0, hE => by
    have hR' : ∀ L k, wr (mA M L k) = mA M L k := hR
    obtain ⟨a1, a2, a3, a4⟩ := id ta
    obtain ⟨b1, b2, b3, b4⟩ := id tb
    have ol := oa.2.1
    have ih := fun E' y7 y8 y9 y10 => l_equal hs hR ha hb ta tb oa ob x1 x2 Q d (k + 1) E' y7 y8 y9 y10 (by omega) (by omega)
    rw [show (k + 1).toNat = k.toNat + 1 by omega, alB, show ((k.toNat : Nat) : Int) = k by omega, ← Bool.and_assoc, ← hE] at ih
    rw [HX10_equal_82]
    cases E
    · have e : eqB w v = false := by
        unfold eqB
        cases z : decide (rwK w = rwK v ∧ rwL w = rwL v ∧ rwN w = rwN v)
        · rfl
        · rw [z, Bool.true_and] at hE
          have := alB_f hE.symm (d + 1)
          rw [show k.toNat + (d + 1) = (rwL w).toNat by omega] at this
          rw [this]
          rfl
      rw [e]
      simp (disch := first | omega | (simp only [DT, DS, ne_eq, Nat.reduceEqDiff, not_false_eq_true]; done)) only [RX10_equal, BW, wr_id, OM, OE, PL, ↓reduceIte, mSt.e hs, hR', TGs, a2, bi_ff, Nat.reduceLeDiff, Nat.reduceAdd]
    · have hEt := Bool.and_eq_true_iff.mp hE.symm
      obtain ⟨k1, k2, k3⟩ := of_decide_eq_true hEt.1
      have va := a4 k h0 (by omega)
      have vb := b4 k h0 (by omega)
      have xa := sv_nn (oa.2.2.2.2.1 k h0 (by omega))
      have xb := sv_nn (ob.2.2.2.2.1 k h0 (by omega))
      simp only [Bool.true_and] at ih
      have bti : (wr (xiand (xishr (rwN w) k) 1) = 1) = (bt (rwN w) k = true) := by
        unfold bt
        rw [decide_eq_true_eq]
      cases cb : bt (rwN w) k
      · have nb : ¬ wr (xiand (xishr (rwN w) k) 1) = 1 := by rw [bti, cb]; decide
        by_cases c : rwV w k = rwV v k
        · have g := (sm_bits xa).mpr c
          have i1 := ih true (vD (rwV w k)) vX (vD (rwV v k)) vX (by rw [decide_eq_true c])
          have xe := g.2
          simp only [bi_T] at i1
          cases cm : mnB (rwV v k)
          · rw [cm] at xe
            simp (disch := first | omega | (simp only [DT, DS, ne_eq, Nat.reduceEqDiff, not_false_eq_true]; done)) only [RX10_equal, BW, wr_id, OM, OE, PL, ↓reduceIte, mSt.e hs, hR', TGs, a2, a3, va, vb, nb, bi_T, cmp_l, g.1, s_hasMinus, xe, cm, bi_ff, Nat.reduceLeDiff, Nat.reduceAdd]
            exact i1
          · rw [cm] at xe
            simp (disch := first | omega | (simp only [DT, DS, ne_eq, Nat.reduceEqDiff, not_false_eq_true]; done)) only [RX10_equal, BW, wr_id, OM, OE, PL, ↓reduceIte, mSt.e hs, hR', TGs, a2, a3, va, vb, nb, bi_T, cmp_l, g.1, s_hasMinus, xe, cm, Nat.reduceLeDiff, Nat.reduceAdd]
            exact i1
        · have i1 := ih false (vD (rwV w k)) vX (vD (rwV v k)) vX (by rw [decide_eq_false c])
          simp only [bi_ff] at i1
          by_cases g : FP.dcmp (rwV w k) (rwV v k) = some .eq
          · have xe : ¬ mnB (rwV w k) = mnB (rwV v k) := fun q => c ((sm_bits xa).mp ⟨g, q⟩)
            cases cm : mnB (rwV v k)
            · have cw : mnB (rwV w k) = true := by cases z : mnB (rwV w k); rw [z, cm] at xe; exact absurd rfl xe; rfl
              simp (disch := first | omega | (simp only [DT, DS, ne_eq, Nat.reduceEqDiff, not_false_eq_true]; done)) only [RX10_equal, BW, wr_id, OM, OE, PL, ↓reduceIte, mSt.e hs, hR', TGs, a2, a3, va, vb, nb, bi_T, cmp_l, g, s_hasMinus, cw, cm, bi_ff, Nat.reduceLeDiff, Nat.reduceAdd]
              exact i1
            · have cw : mnB (rwV w k) = false := by cases z : mnB (rwV w k); rfl; rw [z, cm] at xe; exact absurd rfl xe
              simp (disch := first | omega | (simp only [DT, DS, ne_eq, Nat.reduceEqDiff, not_false_eq_true]; done)) only [RX10_equal, BW, wr_id, OM, OE, PL, ↓reduceIte, mSt.e hs, hR', TGs, a2, a3, va, vb, nb, bi_T, cmp_l, g, s_hasMinus, cw, cm, bi_ff, Nat.reduceLeDiff, Nat.reduceAdd]
              exact i1
          · simp (disch := first | omega | (simp only [DT, DS, ne_eq, Nat.reduceEqDiff, not_false_eq_true]; done)) only [RX10_equal, BW, wr_id, OM, OE, PL, ↓reduceIte, mSt.e hs, hR', TGs, a2, a3, va, vb, nb, bi_T, cmp_l, g, Nat.reduceLeDiff, Nat.reduceAdd]
            exact i1
      · have nb : wr (xiand (xishr (rwN w) k) 1) = 1 := by rw [bti, cb]
        have c : rwV w k = rwV v k := by rw [oa.2.2.2.2.2 k h0 (by omega) (Or.inl cb), ob.2.2.2.2.2 k h0 (by omega) (Or.inl (by rw [← k3]; exact cb))]
        have i1 := ih true (vD (rwV w k)) vX (vD (rwV v k)) vX (by rw [decide_eq_true c])
        simp only [bi_T] at i1
        simp (disch := first | omega | (simp only [DT, DS, ne_eq, Nat.reduceEqDiff, not_false_eq_true]; done)) only [RX10_equal, BW, wr_id, OM, OE, PL, ↓reduceIte, mSt.e hs, hR', TGs, a2, a3, va, vb, nb, bi_T, Nat.reduceLeDiff, Nat.reduceAdd]
        exact i1
def eqF (T : Int) (TK : Int → Rw) (t u : Int) : Int := if (1 ≤ t ∧ t ≤ T) ∧ 1 ≤ u ∧ u ≤ T then (if eqB (TK (t - 1)) (TK (u - 1)) = true then 1 else 0) else -1
theorem s_equal {M : xm} {T : Int} {TK : Int → Rw} (hs : mSt M) (hR : inR M) (eT : mA M aM 22 = T) (hT : 0 ≤ T ∧ T ≤ 40) (hn : ∀ k : Int, 0 ≤ k → k < T → mA M amTn k.toNat = k + 1) (hk : ∀ k : Int, 0 ≤ k → k < T → mTk M k (TK k) ∧ okR (TK k)) (t u : Int) (ht : -2147483648 ≤ t ∧ t ≤ 2147483647) (hu : -2147483648 ≤ u ∧ u ≤ 2147483647) (Q : Option xv → xm → Prop) : Wp qX10_equal 0 [vR aM, vI t, vI u, vX, vX, vX, vX, vX, vX, vX, vX] [] M Q ↔ Q (some (vI (eqF T TK t u))) M := by
  have hR' : ∀ L k, wr (mA M L k) = mA M L k := hR
  have q1 := s_takeOf hs hR eT hT hn t ht
  have q2 := s_takeOf hs hR eT hT hn u hu
  unfold toF at q1 q2
  unfold eqF
  by_cases c1 : 1 ≤ t ∧ t ≤ T
  · simp only [if_pos c1] at q1
    by_cases c2 : 1 ≤ u ∧ u ≤ T
    · simp only [if_pos c2] at q2
      rw [if_pos ⟨c1, c2⟩]
      obtain ⟨ta, oa⟩ := hk (t - 1) (by omega) (by omega)
      obtain ⟨tb, ob⟩ := hk (u - 1) (by omega) (by omega)
      obtain ⟨a1, a2, a3, a4⟩ := id ta
      obtain ⟨b1, b2, b3, b4⟩ := id tb
      have oa1 := oa.1
      have oa2 := oa.2.1
      have oa3 := oa.2.2.1
      have ob1 := ob.1
      have ob2 := ob.2.1
      have wn1 : wr (rwN (TK (t - 1))) = rwN (TK (t - 1)) := by rw [← a3]; exact hR _ _
      have wn2 : wr (rwN (TK (u - 1))) = rwN (TK (u - 1)) := by rw [← b3]; exact hR _ _
      have g := fun E => l_equal hs hR (show 0 ≤ t - 1 ∧ t - 1 ≤ 39 by omega) (show 0 ≤ u - 1 ∧ u - 1 ≤ 39 by omega) ta tb oa ob (vI t) (vI u) Q (rwL (TK (t - 1))).toNat 0 E vX vX vX vX (by omega) (by omega)
      have e1 : (if eqB (TK (t - 1)) (TK (u - 1)) = true then (1 : Int) else 0) = bi (eqB (TK (t - 1)) (TK (u - 1)) = true) := by
        cases eqB (TK (t - 1)) (TK (u - 1)) <;> simp [bi_T, bi_F]
      rw [e1]
      have e2 : alB (fun i => decide (rwV (TK (t - 1)) i = rwV (TK (u - 1)) i)) (0 : Int).toNat = true := rfl
      rw [e2, Bool.and_true] at g
      by_cases d1 : rwK (TK (t - 1)) = rwK (TK (u - 1))
      · by_cases d2 : rwL (TK (t - 1)) = rwL (TK (u - 1))
        · by_cases d3 : rwN (TK (t - 1)) = rwN (TK (u - 1))
          · have g1 := g true (by rw [decide_eq_true ⟨d1, d2, d3⟩])
            simp only [bi_T] at g1
            simp (disch := first | omega | (simp only [DT, DS, ne_eq, Nat.reduceEqDiff, not_false_eq_true]; done)) only [RX10_equal, BW, wr_id, OM, OE, PL, ↓reduceIte, mSt.e hs, hR', TGs, q1, q2, a1, a2, a3, b1, b2, b3, wn1, wn2, d3, Nat.reduceLeDiff, Nat.reduceAdd]
            exact g1
          · have g1 := g false (by rw [decide_eq_false (fun q => d3 q.2.2)])
            simp only [bi_ff] at g1
            simp (disch := first | omega | (simp only [DT, DS, ne_eq, Nat.reduceEqDiff, not_false_eq_true]; done)) only [RX10_equal, BW, wr_id, OM, OE, PL, ↓reduceIte, mSt.e hs, hR', TGs, q1, q2, a1, a2, a3, b1, b2, b3, wn1, wn2, d3, Nat.reduceLeDiff, Nat.reduceAdd]
            exact g1
        · have g1 := g false (by rw [decide_eq_false (fun q => d2 q.2.1)])
          simp only [bi_ff] at g1
          simp (disch := first | omega | (simp only [DT, DS, ne_eq, Nat.reduceEqDiff, not_false_eq_true]; done)) only [RX10_equal, BW, wr_id, OM, OE, PL, ↓reduceIte, mSt.e hs, hR', TGs, q1, q2, a1, a2, b1, b2, Nat.reduceLeDiff, Nat.reduceAdd]
          exact g1
      · have g1 := g false (by rw [decide_eq_false (fun q => d1 q.1)])
        simp only [bi_ff] at g1
        simp (disch := first | omega | (simp only [DT, DS, ne_eq, Nat.reduceEqDiff, not_false_eq_true]; done)) only [RX10_equal, BW, wr_id, OM, OE, PL, ↓reduceIte, mSt.e hs, hR', TGs, q1, q2, a1, b1, Nat.reduceLeDiff, Nat.reduceAdd]
        exact g1
    · simp only [if_neg c2] at q2
      rw [if_neg (fun q => c2 q.2)]
      simp (disch := first | omega | (simp only [DT, DS, ne_eq, Nat.reduceEqDiff, not_false_eq_true]; done)) only [RX10_equal, BW, wr_id, OM, OE, PL, ↓reduceIte, TGs, q1, q2, Nat.reduceLeDiff, Nat.reduceAdd]
  · simp only [if_neg c1] at q1
    rw [if_neg (fun q => c1 q.1)]
    by_cases c2 : 1 ≤ u ∧ u ≤ T
    · simp only [if_pos c2] at q2
      simp (disch := first | omega | (simp only [DT, DS, ne_eq, Nat.reduceEqDiff, not_false_eq_true]; done)) only [RX10_equal, BW, wr_id, OM, OE, PL, ↓reduceIte, TGs, q1, q2, Nat.reduceLeDiff, Nat.reduceAdd]
    · simp only [if_neg c2] at q2
      simp (disch := first | omega | (simp only [DT, DS, ne_eq, Nat.reduceEqDiff, not_false_eq_true]; done)) only [RX10_equal, BW, wr_id, OM, OE, PL, ↓reduceIte, TGs, q1, q2, Nat.reduceLeDiff, Nat.reduceAdd]
