/-! 30.msrc: the reference's SOURCE -/
theorem mF_a {M0 M : xm} {m : Int} (h : mF M0 m M) {l : Nat} (j : Nat) (h1 : ¬ l = amIn) (h2 : ¬ l = aM) : mA M l j = mA M0 l j := h.1 l j (fun z => h1 z.1) (fun z => h2 z.1)
theorem mF_m {M0 M : xm} {m : Int} (h : mF M0 m M) {j : Nat} (hj : ¬ (j = 16 ∨ j = 17 ∨ j = 18 ∨ j = 28)) : mA M aM j = mA M0 aM j := h.1 aM j (fun z => absurd z.1 (by decide)) (fun z => hj z.2)
theorem mF_i {M0 M : xm} {m : Int} (h : mF M0 m M) {j : Nat} (hj : ¬ (j = (20 * m + 15).toNat ∨ j = (20 * m + 16).toNat ∨ j = (20 * m + 17).toNat)) : mA M amIn j = mA M0 amIn j := h.1 amIn j (fun z => hj z.2) (fun z => absurd z.1 (by decide))
theorem mF_d {M0 M : xm} {m : Int} (h : mF M0 m M) {j : Nat} (hj : ¬ (j = (82 * m + 80).toNat ∨ j = (82 * m + 81).toNat)) : mB M amDb j = mB M0 amDb j := h.2.1 amDb j (fun z => hj z.2) (by decide)
theorem shl_1 {k : Int} (h0 : 0 ≤ k) (h1 : k ≤ 15) : xishl 1 k = 2 ^ k.toNat := by
  have h : ∀ j : Nat, j < 16 → xishl 1 (j : Int) = 2 ^ j := by decide
  have e : ((k.toNat : Nat) : Int) = k := by omega
  rw [← h k.toNat (by omega), e]
theorem pow_b {k : Int} (h0 : 0 ≤ k) (h1 : k ≤ 15) : (1 : Int) ≤ 2 ^ k.toNat ∧ (2 : Int) ^ k.toNat ≤ 32768 ∧ (2 : Int) ^ (k + 1).toNat = 2 * 2 ^ k.toNat := by
  have h : ∀ j : Nat, j < 16 → (1 : Int) ≤ 2 ^ j ∧ (2 : Int) ^ j ≤ 32768 := by decide
  have e : (k + 1).toNat = k.toNat + 1 := by omega
  rw [e, Int.pow_succ]
  exact ⟨(h k.toNat (by omega)).1, (h k.toNat (by omega)).2, Int.mul_comm _ _⟩
theorem ws_b (k v : Int) : 0 ≤ wsF k v ∧ wsF k v ≤ 1 := by
  unfold wsF si
  repeat' split
  all_goals omega
theorem mfail {M0 M : xm} {m n f k : Int} {Q : Option xv → xm → Prop} (hF : mF M0 m M) (hf : wr f = f) (hm : wr m = m) (hk : wr k = k) (hP : mPost M0 m n Q (.inl (f, k))) : Q (some (vI 0)) (wA (wA (wA M aM 16 f) aM 17 m) aM 18 k) := by
  refine hP _ (((hF.o.wM (Or.inl rfl) hf).wM (Or.inr (Or.inl rfl)) hm).wM (Or.inr (Or.inr (Or.inl rfl))) hk) ?_ ?_ ?_ <;> simp [MM]
theorem mSt.e {M : xm} (h : mSt M) : mR M aM 1 = amDb ∧ mR M aM 2 = amIn ∧ mR M aM 4 = amKd ∧ mR M aM 5 = amRk ∧ mR M aM 6 = amKn ∧ mR M aM 7 = amCo ∧ mR M aM 8 = amTb ∧ mR M aM 9 = amTm ∧ mR M aM 13 = amOr ∧ mR M aM 14 = amTr ∧ mR M aM 20 = amPr ∧ mR M aM 21 = amPm ∧ mR M aM 23 = amTn ∧ mR M aM 24 = amTk ∧ mR M aM 25 = amTl ∧ mR M aM 26 = amTo ∧ mR M aM 27 = amTs ∧ mR M aM 29 = amFr ∧ mR M aM 30 = amFa := h
theorem l_source {M0 : xm} (hs : mSt M0) (m t n rk kn tl : Int) (hm : 0 ≤ m ∧ m ≤ 23) (ht : 0 ≤ t ∧ t ≤ 7) (hn : 1 ≤ n ∧ n ≤ 16) (en : mA M0 aM 19 = n) (hrk : 0 ≤ rk ∧ rk ≤ 4) (erk : mA M0 amRk m.toNat = rk) (hkn : -1000 ≤ kn ∧ kn ≤ 1000) (ekn : mA M0 amKn (3 * m + 1).toNat = kn) (htl : 0 ≤ tl ∧ tl ≤ 16) (Q : Option xv → xm → Prop) :
    ∀ (d : Nat) (k : Int) (z : ZT) (M : xm) (x6 x7 x8 : xv), k + d = n → 0 ≤ k → mF M0 m M → mV M m z k → 0 ≤ zP z → (0 ≤ zN z ∧ zN z ≤ 1000000 + k) → (0 ≤ zM z ∧ zM z < 2 ^ k.toNat) → mPost M0 m n Q (lpF (srcS tl kn rk (fun j => mA M0 amTb (16 * t + (j : Int)).toNat)) d k z) → Wp qX10_source 57 [vR aM, vI m, vI t, vI tl, vI (20 * m + 15), vI k, x6, x7, x8] [] M Q
  | 0, k, z, M, x6, x7, x8, hd, h0, hF, hV, hp, hsa, hmk, hP => by
    have hsM := hF.st hs
    have hR' : ∀ L k, wr (mA M L k) = mA M L k := hF.2.2.2.2.2
    have e19 : mA M aM 19 = n := by rw [mF_m hF (by decide)]; exact en
    rw [HX10_source_57]
    simp (disch := omega) only [RX10_source, BW, wr_id, OM, PL, ↓reduceIte, mSt.e hsM, hR', TGs, e19]
    obtain rfl : k = n := by omega
    exact hP M hF hV
  | d + 1, k, z, M, x6, x7, x8, hd, h0, hF, hV, hp, hsa, hmk, hP => by
    have hsM := hF.st hs
    have hR := hF.2.2.2.2.2
    have hR' : ∀ L k, wr (mA M L k) = mA M L k := hR
    have e19 : mA M aM 19 = n := by rw [mF_m hF (by decide)]; exact en
    have e1 : mA M amRk m.toNat = rk := by rw [mF_a hF _ (by decide) (by decide)]; exact erk
    have e2 : mA M amKn (3 * m + 1).toNat = kn := by rw [mF_a hF _ (by decide) (by decide)]; exact ekn
    obtain ⟨v1, v2, v3, v4, v5, v6, v7⟩ := id hV
    have hpw := pow_b h0 (show k ≤ 15 by omega)
    have hzw : wr (zP z) = zP z := by rw [← v1]; exact hR' _ _
    by_cases c0 : tl = 0
    · have hst : srcS tl kn rk (fun j => mA M0 amTb (16 * t + (j : Int)).toNat) k z = .inl 5 := by
        unfold srcS
        rw [if_pos c0]
      rw [lpF_l hst] at hP
      subst c0
      rw [HX10_source_57]
      simp (disch := omega) only [RX10_source, BW, wr_id, OM, PL, ↓reduceIte, mSt.e hsM, hR', TGs, e19, s_fails _ _ _ M hsM hR, Nat.reduceLeDiff, Nat.reduceAdd]
      exact mfail hF (by decide) (wr_id (by omega) (by omega)) (wr_id (by omega) (by omega)) hP
    · by_cases c1 : tl ≤ zP z
      · have hst : srcS tl kn rk (fun j => mA M0 amTb (16 * t + (j : Int)).toNat) k z = .inl 3 := by
          unfold srcS
          rw [if_neg c0, if_pos c1]
        rw [lpF_l hst] at hP
        rw [HX10_source_57]
        simp (disch := omega) only [RX10_source, BW, wr_id, OM, OE, PL, ↓reduceIte, mSt.e hsM, hR', TGs, e19, v1, hzw, s_fails _ _ _ M hsM hR, Nat.reduceLeDiff, Nat.reduceAdd]
        exact mfail hF (by decide) (wr_id (by omega) (by omega)) (wr_id (by omega) (by omega)) hP
      · have e3 : mA M amTb (16 * t + zP z).toNat = mA M0 amTb (16 * t + ((zP z).toNat : Int)).toNat := by rw [mF_a hF _ (by decide) (by decide), show ((zP z).toNat : Int) = zP z by omega]
        have hvb := inR.b hR amTb (16 * t + zP z).toNat
        rw [e3] at hvb
        generalize hv : mA M0 amTb (16 * t + ((zP z).toNat : Int)).toNat = v at e3 hvb
        have hem := emod_t (a := zP z + kn) (b := tl) (by omega)
        have hb1 := tmod_bounds (a := zP z + kn) (M := tl) (by omega)
        have hb2 := Int.emod_nonneg (zP z + kn) (show tl ≠ 0 by omega)
        have hb3 := Int.emod_lt_of_pos (zP z + kn) (show 0 < tl by omega)
        have hwb := ws_b rk v
        generalize hpl : (zP z + kn) % tl = p' at hem hb2 hb3
        generalize htm : (zP z + kn).tmod tl = tm at hem hb1
        have fin : ∀ (M1 : xm) (y6 y7 y8 : xv) (z' : ZT), mF M0 m M1 → mV M1 m z' (k + 1) → zP z' = p' → (0 ≤ zN z' ∧ zN z' ≤ 1000000 + (k + 1)) → (0 ≤ zM z' ∧ zM z' < 2 ^ (k + 1).toNat) → mPost M0 m n Q (lpF (srcS tl kn rk (fun j => mA M0 amTb (16 * t + (j : Int)).toNat)) d (k + 1) z') → Wp qX10_source 57 [vR aM, vI m, vI t, vI tl, vI (20 * m + 15), vI (k + 1), y6, y7, y8] [] M1 Q := fun M1 y6 y7 y8 z' a1 a2 a3 a4 a5 a6 => l_source hs m t n rk kn tl hm ht hn en hrk erk hkn ekn htl Q d (k + 1) z' M1 y6 y7 y8 (by omega) (by omega) a1 a2 (by rw [a3]; exact hb2) a4 a5 a6
        rw [HX10_source_57]
        by_cases c2 : 3 ≤ rk ∧ v = -2147483648
        · by_cases cn : tm < 0
          · rw [if_pos cn] at hem
            have hst : srcS tl kn rk (fun j => mA M0 amTb (16 * t + (j : Int)).toNat) k z = .inr (p', zK z, zO z, zU z, zN z, zM z + 2 ^ k.toNat, upV (zV z) k.toNat 0, zS z) := by
              unfold srcS
              rw [if_neg c0, if_neg c1]
              simp only [hv, hpl]
              rw [if_pos c2]
            rw [lpF_r hst] at hP
            obtain ⟨c3, c4⟩ := c2
            simp (disch := first | omega | (simp only [DT, DS, ne_eq, Nat.reduceEqDiff, not_false_eq_true]; done)) only [RX10_source, BW, wr_id, OM, OE, PL, ↓reduceIte, mSt.e hsM, hR', TGs, e19, v1, e1, e2, e3, MM, DT, htm, v6, shl_1, Int.add_zero, Nat.reduceLeDiff, Nat.reduceAdd]
            rw [hem]
            exact fin _ _ _ _ _ (((hF.wI (Or.inl rfl) (wr_id (by omega) (by omega))).wM (Or.inr (Or.inr (Or.inr rfl))) (wr_id (by omega) (by omega))).wFr _ _) (mV_v (mV_m (mV_p hV hm.1 _) _) h0 _) rfl ⟨hsa.1, by show zN z ≤ _; omega⟩ ⟨by show 0 ≤ zM z + _; omega, by show zM z + _ < _; omega⟩ hP
          · rw [if_neg cn] at hem
            have hst : srcS tl kn rk (fun j => mA M0 amTb (16 * t + (j : Int)).toNat) k z = .inr (p', zK z, zO z, zU z, zN z, zM z + 2 ^ k.toNat, upV (zV z) k.toNat 0, zS z) := by
              unfold srcS
              rw [if_neg c0, if_neg c1]
              simp only [hv, hpl]
              rw [if_pos c2]
            rw [lpF_r hst] at hP
            obtain ⟨c3, c4⟩ := c2
            simp (disch := first | omega | (simp only [DT, DS, ne_eq, Nat.reduceEqDiff, not_false_eq_true]; done)) only [RX10_source, BW, wr_id, OM, OE, PL, ↓reduceIte, mSt.e hsM, hR', TGs, e19, v1, e1, e2, e3, MM, DT, htm, v6, shl_1, Int.add_zero, Nat.reduceLeDiff, Nat.reduceAdd]
            rw [hem]
            exact fin _ _ _ _ _ (((hF.wI (Or.inl rfl) (wr_id (by omega) (by omega))).wM (Or.inr (Or.inr (Or.inr rfl))) (wr_id (by omega) (by omega))).wFr _ _) (mV_v (mV_m (mV_p hV hm.1 _) _) h0 _) rfl ⟨hsa.1, by show zN z ≤ _; omega⟩ ⟨by show 0 ≤ zM z + _; omega, by show zM z + _ < _; omega⟩ hP
        · by_cases cn : tm < 0
          · rw [if_pos cn] at hem
            have hst : srcS tl kn rk (fun j => mA M0 amTb (16 * t + (j : Int)).toNat) k z = .inr (p', zK z, zO z, zU z, zN z + wsF rk v, zM z, upV (zV z) k.toNat (wvF rk v), zS z) := by
              unfold srcS
              rw [if_neg c0, if_neg c1]
              simp only [hv, hpl]
              rw [if_neg c2]
            rw [lpF_r hst] at hP
            have hS2 : mSt (wA (wA M amIn (20 * m + 15).toNat p') aM 28 (zM z)) := hsM
            have hR2 : inR (wA (wA M amIn (20 * m + 15).toNat p') aM 28 (zM z)) := (hR.wA _ _ (wr_id (by omega) (by omega))).wA _ _ (wr_id (by omega) (by omega))
            have hV2 := mV_m (mV_p hV hm.1 p') (zM z)
            have e17 : mA (wA (wA M amIn (20 * m + 15).toNat p') aM 28 (zM z)) amIn (20 * m + 17).toNat = zN z := hV2.2.2.1
            have hw := s_wholeInto m v rk _ hS2 hR2 hm hvb hrk (by rw [e17]; omega)
            rw [e17] at hw
            have go : Wp qX10_source 57 [vR aM, vI m, vI t, vI tl, vI (20 * m + 15), vI (k + 1), vI v, vI tm, vI 0] [] (wB (wA (wA (wA M amIn (20 * m + 15).toNat p') aM 28 (zM z)) amIn (20 * m + 17).toNat (zN z + wsF rk v)) amFr k.toNat (wvF rk v)) Q := fin _ _ _ _ _ ((((hF.wI (Or.inl rfl) (wr_id (by omega) (by omega))).wM (Or.inr (Or.inr (Or.inr rfl))) (wr_id (by omega) (by omega))).wI (Or.inr (Or.inr rfl)) (wr_id (by omega) (by omega))).wFr _ _) (mV_v (mV_n hV2 hm.1 _) h0 _) rfl ⟨by show 0 ≤ zN z + _; omega, by show zN z + _ ≤ _; omega⟩ ⟨hmk.1, by show zM z < _; omega⟩ hP
            by_cases c3 : rk < 3
            · simp (disch := first | omega | (simp only [DT, DS, ne_eq, Nat.reduceEqDiff, not_false_eq_true]; done)) only [RX10_source, BW, wr_id, OM, OE, PL, ↓reduceIte, mSt.e hsM, hR', TGs, e19, v1, e1, e2, e3, MM, DT, htm, v6, shl_1, Int.add_zero, Nat.reduceLeDiff, Nat.reduceAdd]
              rw [hem, hw]
              simp (disch := first | omega | (simp only [DT, DS, ne_eq, Nat.reduceEqDiff, not_false_eq_true]; done)) only [RX10_source, BW, wr_id, OM, OE, PL, ↓reduceIte, mSt.e hsM, hR', TGs, MM, DT, Int.add_zero, Nat.reduceLeDiff, Nat.reduceAdd]
              exact go
            · have c4 : ¬ v = -2147483648 := fun q => c2 ⟨by omega, q⟩
              simp (disch := first | omega | (simp only [DT, DS, ne_eq, Nat.reduceEqDiff, not_false_eq_true]; done)) only [RX10_source, BW, wr_id, OM, OE, PL, ↓reduceIte, mSt.e hsM, hR', TGs, e19, v1, e1, e2, e3, MM, DT, htm, v6, shl_1, Int.add_zero, Nat.reduceLeDiff, Nat.reduceAdd]
              rw [hem, hw]
              simp (disch := first | omega | (simp only [DT, DS, ne_eq, Nat.reduceEqDiff, not_false_eq_true]; done)) only [RX10_source, BW, wr_id, OM, OE, PL, ↓reduceIte, mSt.e hsM, hR', TGs, MM, DT, Int.add_zero, Nat.reduceLeDiff, Nat.reduceAdd]
              exact go
          · rw [if_neg cn] at hem
            have hst : srcS tl kn rk (fun j => mA M0 amTb (16 * t + (j : Int)).toNat) k z = .inr (p', zK z, zO z, zU z, zN z + wsF rk v, zM z, upV (zV z) k.toNat (wvF rk v), zS z) := by
              unfold srcS
              rw [if_neg c0, if_neg c1]
              simp only [hv, hpl]
              rw [if_neg c2]
            rw [lpF_r hst] at hP
            have hS2 : mSt (wA (wA M amIn (20 * m + 15).toNat p') aM 28 (zM z)) := hsM
            have hR2 : inR (wA (wA M amIn (20 * m + 15).toNat p') aM 28 (zM z)) := (hR.wA _ _ (wr_id (by omega) (by omega))).wA _ _ (wr_id (by omega) (by omega))
            have hV2 := mV_m (mV_p hV hm.1 p') (zM z)
            have e17 : mA (wA (wA M amIn (20 * m + 15).toNat p') aM 28 (zM z)) amIn (20 * m + 17).toNat = zN z := hV2.2.2.1
            have hw := s_wholeInto m v rk _ hS2 hR2 hm hvb hrk (by rw [e17]; omega)
            rw [e17] at hw
            have go : Wp qX10_source 57 [vR aM, vI m, vI t, vI tl, vI (20 * m + 15), vI (k + 1), vI v, vI p', vI 0] [] (wB (wA (wA (wA M amIn (20 * m + 15).toNat p') aM 28 (zM z)) amIn (20 * m + 17).toNat (zN z + wsF rk v)) amFr k.toNat (wvF rk v)) Q := fin _ _ _ _ _ ((((hF.wI (Or.inl rfl) (wr_id (by omega) (by omega))).wM (Or.inr (Or.inr (Or.inr rfl))) (wr_id (by omega) (by omega))).wI (Or.inr (Or.inr rfl)) (wr_id (by omega) (by omega))).wFr _ _) (mV_v (mV_n hV2 hm.1 _) h0 _) rfl ⟨by show 0 ≤ zN z + _; omega, by show zN z + _ ≤ _; omega⟩ ⟨hmk.1, by show zM z < _; omega⟩ hP
            by_cases c3 : rk < 3
            · simp (disch := first | omega | (simp only [DT, DS, ne_eq, Nat.reduceEqDiff, not_false_eq_true]; done)) only [RX10_source, BW, wr_id, OM, OE, PL, ↓reduceIte, mSt.e hsM, hR', TGs, e19, v1, e1, e2, e3, MM, DT, htm, v6, shl_1, Int.add_zero, Nat.reduceLeDiff, Nat.reduceAdd]
              rw [hem, hw]
              simp (disch := first | omega | (simp only [DT, DS, ne_eq, Nat.reduceEqDiff, not_false_eq_true]; done)) only [RX10_source, BW, wr_id, OM, OE, PL, ↓reduceIte, mSt.e hsM, hR', TGs, MM, DT, Int.add_zero, Nat.reduceLeDiff, Nat.reduceAdd]
              exact go
            · have c4 : ¬ v = -2147483648 := fun q => c2 ⟨by omega, q⟩
              simp (disch := first | omega | (simp only [DT, DS, ne_eq, Nat.reduceEqDiff, not_false_eq_true]; done)) only [RX10_source, BW, wr_id, OM, OE, PL, ↓reduceIte, mSt.e hsM, hR', TGs, e19, v1, e1, e2, e3, MM, DT, htm, v6, shl_1, Int.add_zero, Nat.reduceLeDiff, Nat.reduceAdd]
              rw [hem, hw]
              simp (disch := first | omega | (simp only [DT, DS, ne_eq, Nat.reduceEqDiff, not_false_eq_true]; done)) only [RX10_source, BW, wr_id, OM, OE, PL, ↓reduceIte, mSt.e hsM, hR', TGs, MM, DT, Int.add_zero, Nat.reduceLeDiff, Nat.reduceAdd]
              exact go
