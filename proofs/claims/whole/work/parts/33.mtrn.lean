/-! 33.mtrn: the reference's TURN -/
def trnS (fl : Bool) (into len mk : Int) (vs : Int → UInt64) (k : Int) (z : ZT) : Int ⊕ ZT :=
  if len ≤ k then .inl 3
  else if bt mk k = true then .inr (zP z, zK z, zO z, zU z, zN z, zM z + (if 3 ≤ into then 2 ^ k.toNat else 0), upV (zV z) k.toNat 0, zS z)
  else if fl = true then .inr (zP z, zK z, zO z, zU z, zN z + fsF into (vs k), zM z, upV (zV z) k.toNat (fvF into (vs k)), zS z)
  else .inr (zP z, zK z, zO z, zU z, zN z + wsF into (FP.d2l (vs k)).toInt, zM z, upV (zV z) k.toNat (wvF into (FP.d2l (vs k)).toInt), zS z)
theorem fs_b (k : Int) (x : UInt64) : 0 ≤ fsF k x ∧ fsF k x ≤ 1 := by
  unfold fsF si
  repeat' split
  all_goals omega
theorem l_turn {M0 : xm} (hs : mSt M0) (m n o into : Int) (fl : Bool) (hm : 0 ≤ m ∧ m ≤ 23) (hn : 1 ≤ n ∧ n ≤ 16) (en : mA M0 aM 19 = n) (hco : ∀ j, 0 ≤ mA M0 amCo j ∧ mA M0 amCo j ≤ 24) (ho : 0 ≤ o ∧ o ≤ 23) (eo : mA M0 amCo (3 * m).toNat = o + 1) (hin : 0 ≤ into ∧ into ≤ 4) (hvf : fl = true → ∀ k, 0 ≤ k → k ≤ 15 → mg 1056 (rV M0 o k)) (hvw : fl = false → ∀ k, 0 ≤ k → k ≤ 15 → -2147483648 ≤ (FP.d2l (rV M0 o k)).toInt ∧ (FP.d2l (rV M0 o k)).toInt ≤ 2147483647) (Q : Option xv → xm → Prop) :
    ∀ (d : Nat) (k : Int) (z : ZT) (M : xm) (x5 x6 : xv), k + d = n → 0 ≤ k → mF M0 m M → mV M m z k → (0 ≤ zN z ∧ zN z ≤ 1000000 + k) → (0 ≤ zM z ∧ zM z < 2 ^ (k).toNat) → mPost M0 m n Q (lpF (trnS fl into (rL M0 o) (rN M0 o) (rV M0 o)) d k z) → Wp qX10_turn 46 [vR aM, vI m, vI (bi (fl = true)), vI into, vI k, x5, x6] [] M Q
  | 0, k, z, M, x5, x6, hd, h0, hF, hV, hsa, hmk, hP => by
    have hsM := hF.st hs
    have hR' : ∀ L k, wr (mA M L k) = mA M L k := hF.2.2.2.2.2
    have e19 : mA M aM 19 = n := by rw [mF_m hF (by decide)]; exact en
    rw [HX10_turn_46]
    simp (disch := omega) only [RX10_turn, BW, wr_id, OM, PL, ↓reduceIte, mSt.e hsM, hR', TGs, e19]
    obtain rfl : k = n := by omega
    exact hP M hF hV
  | d + 1, k, z, M, x5, x6, hd, h0, hF, hV, hsa, hmk, hP => by
    have hsM := hF.st hs
    have hR := hF.2.2.2.2.2
    have hR' : ∀ L k, wr (mA M L k) = mA M L k := hR
    have e19 : mA M aM 19 = n := by rw [mF_m hF (by decide)]; exact en
    obtain ⟨v1, v2, v3, v4, v5, v6, v7⟩ := id hV
    have hpw := pow_b h0 (show k ≤ 15 by omega)
    have hk15 : 0 ≤ k ∧ k ≤ 15 := by omega
    have fin : ∀ (M1 : xm) (y5 y6 : xv) (z' : ZT), mF M0 m M1 → mV M1 m z' (k + 1) → (0 ≤ zN z' ∧ zN z' ≤ 1000000 + (k + 1)) → (0 ≤ zM z' ∧ zM z' < 2 ^ ((k + 1)).toNat) → trnS fl into (rL M0 o) (rN M0 o) (rV M0 o) k z = .inr z' → Wp qX10_turn 46 [vR aM, vI m, vI (bi (fl = true)), vI into, vI (k + 1), y5, y6] [] M1 Q := fun M1 y5 y6 z' a1 a2 b0 b1 a6 => l_turn hs m n o into fl hm hn en hco ho eo hin hvf hvw Q d (k + 1) z' M1 y5 y6 (by omega) (by omega) a1 a2 b0 b1 (by rw [lpF_r a6] at hP; exact hP)
    have iq := in_q (k := k) hs hF hm hco (i := 0) (by omega) ho (by rw [Int.add_zero]; exact eo) hk15
    rw [HX10_turn_46]
    by_cases c1 : rL M0 o ≤ k
    · rw [lpF_l (show trnS fl into (rL M0 o) (rN M0 o) (rV M0 o) k z = .inl 3 from if_pos c1)] at hP
      simp (disch := omega) only [RX10_turn, BW, wr_id, OM, OE, PL, ↓reduceIte, mSt.e hsM, hR', TGs, e19, iq.1, Nat.reduceLeDiff, Nat.reduceAdd]
      exact mfail hF (by decide) (wr_id (by omega) (by omega)) (wr_id (by omega) (by omega)) hP
    · by_cases c2 : bt (rN M0 o) k = true
      · by_cases c3 : 3 ≤ into
        · simp (disch := first | omega | (simp only [DT, DS, ne_eq, Nat.reduceEqDiff, not_false_eq_true]; done)) only [RX10_turn, BW, wr_id, OM, OE, PL, ↓reduceIte, mSt.e hsM, hR', TGs, e19, iq.1, iq.2.1, iq.2.2, bi_t c2, MM, DT, v6, shl_1, Nat.reduceLeDiff, Nat.reduceAdd]
          exact fin _ _ _ _ ((hF.wM (Or.inr (Or.inr (Or.inr rfl))) (wr_id (by omega) (by omega))).wFr _ _) (mV_v (mV_m hV _) h0 _) ⟨hsa.1, by show zN z ≤ _; omega⟩ ⟨by show 0 ≤ zM z + _; omega, by show zM z + _ < _; omega⟩ (by unfold trnS; rw [if_neg c1, if_pos c2, if_pos c3]; rfl)
        · simp (disch := first | omega | (simp only [DT, DS, ne_eq, Nat.reduceEqDiff, not_false_eq_true]; done)) only [RX10_turn, BW, wr_id, OM, OE, PL, ↓reduceIte, mSt.e hsM, hR', TGs, e19, iq.1, iq.2.1, iq.2.2, bi_t c2, MM, DT, v6, shl_1, Int.add_zero, Nat.reduceLeDiff, Nat.reduceAdd]
          exact fin _ _ _ _ ((hF.wM (Or.inr (Or.inr (Or.inr rfl))) (wr_id (by omega) (by omega))).wFr _ _) (mV_v (mV_m hV _) h0 _) ⟨hsa.1, by show zN z ≤ _; omega⟩ ⟨by show 0 ≤ zM z; omega, by show zM z < _; omega⟩ (by unfold trnS; rw [if_neg c1, if_pos c2, if_neg c3, Int.add_zero]; rfl)
      · have hsb : 0 ≤ mA M amIn (20 * m + 17).toNat ∧ mA M amIn (20 * m + 17).toNat ≤ 1000000000 := by rw [v3]; omega
        by_cases c3 : fl = true
        · have hw := s_floatingInto m (rV M0 o k) into M hsM hR hm (hvf c3 k hk15.1 hk15.2) hin hsb
          rw [v3] at hw
          have hb := fs_b into (rV M0 o k)
          simp (disch := first | omega | (simp only [DT, DS, ne_eq, Nat.reduceEqDiff, not_false_eq_true]; done)) only [RX10_turn, BW, wr_id, OM, OE, PL, ↓reduceIte, mSt.e hsM, hR', TGs, e19, iq.1, iq.2.1, iq.2.2, bi_f c2, bi_t c3, hw, MM, DT, Nat.reduceLeDiff, Nat.reduceAdd]
          have g := fin _ (vD (rV M0 o k)) vX _ ((hF.wI (Or.inr (Or.inr rfl)) (wr_id (by omega) (by omega))).wFr k.toNat (fvF into (rV M0 o k))) (mV_v (mV_n hV hm.1 (zN z + fsF into (rV M0 o k))) h0 _) ⟨by show 0 ≤ zN z + _; omega, by show zN z + _ ≤ _; omega⟩ ⟨hmk.1, by show zM z < _; omega⟩ (by unfold trnS; rw [if_neg c1, if_neg c2, if_pos c3]; rfl)
          rw [bi_t c3] at g
          exact g
        · have c4 : fl = false := by cases fl <;> simp at c3 ⊢
          have hr := hvw c4 k hk15.1 hk15.2
          have hw := s_wholeInto m (FP.d2l (rV M0 o k)).toInt into M hsM hR hm hr hin hsb
          rw [v3] at hw
          have hb := ws_b into (FP.d2l (rV M0 o k)).toInt
          simp (disch := first | omega | (simp only [DT, DS, ne_eq, Nat.reduceEqDiff, not_false_eq_true]; done)) only [RX10_turn, BW, wr_id, OM, OE, PL, ↓reduceIte, mSt.e hsM, hR', TGs, e19, iq.1, iq.2.1, iq.2.2, bi_f c2, bi_f c3, hw, MM, DT, Nat.reduceLeDiff, Nat.reduceAdd]
          have g := fin _ (vD (rV M0 o k)) vX _ ((hF.wI (Or.inr (Or.inr rfl)) (wr_id (by omega) (by omega))).wFr k.toNat (wvF into (FP.d2l (rV M0 o k)).toInt)) (mV_v (mV_n hV hm.1 (zN z + wsF into (FP.d2l (rV M0 o k)).toInt)) h0 _) ⟨by show 0 ≤ zN z + _; omega, by show zN z + _ ≤ _; omega⟩ ⟨hmk.1, by show zM z < _; omega⟩ (by unfold trnS; rw [if_neg c1, if_neg c2, if_neg c3]; rfl)
          rw [bi_f c3] at g
          exact g
