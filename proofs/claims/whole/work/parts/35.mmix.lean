/-! 35.mmix: the reference's MIX -/
def cB (M : xm) (m i : Int) : Bool := decide (0 < mA M amCo (3 * m + i).toNat ∧ 1 ≤ mA M amIn (20 * (mA M amCo (3 * m + i).toNat - 1)).toNat)
def oI (M : xm) (m i : Int) : Int := mA M amCo (3 * m + i).toNat - 1
def mxF (c : Int → Bool) (l : Int → Int) (v : Int → Int → UInt64) (k : Int) : Nat → Int → Int → Option Int
  | 0, _, S => some S
  | d + 1, i, S => if c i = true then (if l i ≤ k then none else mxF c l v k d (i + 1) (S + (FP.d2l (v i k)).toInt)) else mxF c l v k d (i + 1) S
/-- MIX -/
def mixS (c : Int → Bool) (l : Int → Int) (v : Int → Int → UInt64) (k : Int) (z : ZT) : Int ⊕ ZT := match mxF c l v k 3 0 0 with
  | none => .inl 3
  | some s => .inr (zP z, zK z, zO z, zU z, zN z + si 2147483647 s, zM z, upV (zV z) k.toNat (FP.i2d (Int32.ofInt (cz 2147483647 s))), zS z)
theorem kd_b {M : xm} (hkb : ∀ o : Int, 0 ≤ o → o ≤ 23 → 0 ≤ mA M amIn (20 * o).toNat ∧ mA M amIn (20 * o).toNat ≤ 5) {c : Int} (h : 0 ≤ c ∧ c ≤ 24) : 0 ≤ mA M amIn (20 * (c - 1)).toNat ∧ mA M amIn (20 * (c - 1)).toNat ≤ 5 := by
  by_cases e : c = 0
  · rw [e]
    exact hkb 0 (by omega) (by omega)
  · exact hkb (c - 1) (by omega) (by omega)
theorem q_counts {M0 M : xm} {m i : Int} (hs : mSt M0) (hF : mF M0 m M) (hm : 0 ≤ m ∧ m ≤ 23) (hi : 0 ≤ i ∧ i ≤ 2) (hco : ∀ j, 0 ≤ mA M0 amCo j ∧ mA M0 amCo j ≤ 24) (hkb : ∀ o : Int, 0 ≤ o → o ≤ 23 → 0 ≤ mA M0 amIn (20 * o).toNat ∧ mA M0 amIn (20 * o).toNat ≤ 5) (Q : Option xv → xm → Prop) : Wp qX10_counts 0 [vR aM, vI m, vI i] [] M Q ↔ Q (some (vI (bi (cB M0 m i = true)))) M := by
  have hco' : ∀ j, mA M amCo j = mA M0 amCo j := fun j => mF_a hF j (by decide) (by decide)
  have hc := hco (3 * m + i).toNat
  have hki : mA M amIn (20 * (mA M0 amCo (3 * m + i).toNat - 1)).toNat = mA M0 amIn (20 * (mA M0 amCo (3 * m + i).toNat - 1)).toNat := mF_i hF (by omega)
  have q := s_counts m i M (hF.st hs) hF.2.2.2.2.2 hm hi (fun j => by rw [hco']; exact hco j) (by rw [hco', hki]; exact kd_b hkb hc) Q
  rw [hco', hki] at q
  rw [q, cB, decide_eq_true_eq]
theorem cB_o {M : xm} {m i : Int} (h : cB M m i = true) (hco : ∀ j, 0 ≤ mA M amCo j ∧ mA M amCo j ≤ 24) : (0 ≤ oI M m i ∧ oI M m i ≤ 23) ∧ mA M amCo (3 * m + i).toNat = oI M m i + 1 ∧ 1 ≤ mA M amIn (20 * oI M m i).toNat := by
  have h1 := of_decide_eq_true h
  have h2 := hco (3 * m + i).toNat
  exact ⟨by unfold oI; omega, by unfold oI; omega, h1.2⟩
theorem l_mixi {M0 M : xm} (hs : mSt M0) (m k : Int) (hF : mF M0 m M) (hm : 0 ≤ m ∧ m ≤ 23) (hk : 0 ≤ k ∧ k ≤ 15) (hco : ∀ j, 0 ≤ mA M0 amCo j ∧ mA M0 amCo j ≤ 24) (hkb : ∀ o : Int, 0 ≤ o → o ≤ 23 → 0 ≤ mA M0 amIn (20 * o).toNat ∧ mA M0 amIn (20 * o).toNat ≤ 5) (hvw : ∀ i : Int, 0 ≤ i → i ≤ 2 → cB M0 m i = true → ∀ k, 0 ≤ k → k ≤ 15 → -2147483648 ≤ (FP.d2l (rV M0 (oI M0 m i) k)).toInt ∧ (FP.d2l (rV M0 (oI M0 m i) k)).toInt ≤ 2147483647) (Q : Option xv → xm → Prop)
    (hf : mxF (cB M0 m) (fun i => rL M0 (oI M0 m i)) (fun i => rV M0 (oI M0 m i)) k 3 0 0 = none → Q (some (vI 0)) (wA (wA (wA M aM 16 3) aM 17 m) aM 18 k))
    (hg : ∀ S, -6442450944 ≤ S ∧ S ≤ 6442450944 → mxF (cB M0 m) (fun i => rL M0 (oI M0 m i)) (fun i => rV M0 (oI M0 m i)) k 3 0 0 = some S → Wp qX10_mix 112 [vR aM, vI m, vI k, vJ S, vX, vI 3] [] M Q) :
    ∀ (d : Nat) (i S : Int), i + d = 3 → 0 ≤ i → (-2147483648 * i ≤ S ∧ S ≤ 2147483648 * i) → mxF (cB M0 m) (fun i => rL M0 (oI M0 m i)) (fun i => rV M0 (oI M0 m i)) k 3 0 0 = mxF (cB M0 m) (fun i => rL M0 (oI M0 m i)) (fun i => rV M0 (oI M0 m i)) k d i S → Wp qX10_mix 65 [vR aM, vI m, vI k, vJ S, vX, vI i] [] M Q
  | 0, i, S, hd, h0, hS, he => by
    obtain rfl : i = 3 := by omega
    have h := hg S (by omega) he
    rw [HX10_mix_65]
    simp (disch := omega) only [RX10_mix, BW, wr_id, OM, OE, PL, ↓reduceIte, Nat.reduceLeDiff, Nat.reduceAdd] at h ⊢
    exact h
  | d + 1, i, S, hd, h0, hS, he => by
    have hsM := hF.st hs
    have hR := hF.2.2.2.2.2
    have hR' : ∀ L k, wr (mA M L k) = mA M L k := hR
    have qc := q_counts (i := i) hs hF hm (by omega) hco hkb
    rw [HX10_mix_65]
    by_cases c1 : cB M0 m i = true
    · have ho := cB_o c1 hco
      have iq := in_q (k := k) hs hF hm hco (i := i) (by omega) ho.1 ho.2.1 hk
      have hr := hvw i h0 (by omega) c1 k hk.1 hk.2
      by_cases c2 : rL M0 (oI M0 m i) ≤ k
      · have h := hf (by rw [he, mxF, if_pos c1, if_pos c2])
        simp (disch := first | omega | (simp only [DT, DS, ne_eq, Nat.reduceEqDiff, not_false_eq_true]; done)) only [RX10_mix, BW, wr_id, OM, OE, PL, ↓reduceIte, mSt.e hsM, hR', TGs, qc, bi_t c1, iq.1, Nat.reduceLeDiff, Nat.reduceAdd]
        exact h
      · have he2 : mxF (cB M0 m) (fun i => rL M0 (oI M0 m i)) (fun i => rV M0 (oI M0 m i)) k 3 0 0 = mxF (cB M0 m) (fun i => rL M0 (oI M0 m i)) (fun i => rV M0 (oI M0 m i)) k d (i + 1) (S + (FP.d2l (rV M0 (oI M0 m i) k)).toInt) := by rw [he, mxF, if_pos c1, if_neg c2]
        have ih := l_mixi hs m k hF hm hk hco hkb hvw Q hf hg d (i + 1) _ (by omega) (by omega) (by omega) he2
        simp (disch := first | omega | (simp only [DT, DS, ne_eq, Nat.reduceEqDiff, not_false_eq_true]; done)) only [RX10_mix, BW, wr_id, w64_id, OM, OE, PL, ↓reduceIte, mSt.e hsM, hR', TGs, qc, bi_t c1, iq.1, iq.2.2, Nat.reduceLeDiff, Nat.reduceAdd]
        exact ih
    · have he2 : mxF (cB M0 m) (fun i => rL M0 (oI M0 m i)) (fun i => rV M0 (oI M0 m i)) k 3 0 0 = mxF (cB M0 m) (fun i => rL M0 (oI M0 m i)) (fun i => rV M0 (oI M0 m i)) k d (i + 1) S := by rw [he, mxF, if_neg c1]
      have ih := l_mixi hs m k hF hm hk hco hkb hvw Q hf hg d (i + 1) S (by omega) (by omega) (by omega) he2
      simp (disch := first | omega | (simp only [DT, DS, ne_eq, Nat.reduceEqDiff, not_false_eq_true]; done)) only [RX10_mix, BW, wr_id, OM, OE, PL, ↓reduceIte, mSt.e hsM, hR', TGs, qc, bi_f c1, Nat.reduceLeDiff, Nat.reduceAdd]
      exact ih
theorem l_mix {M0 : xm} (hs : mSt M0) (m n : Int) (hm : 0 ≤ m ∧ m ≤ 23) (hn : 1 ≤ n ∧ n ≤ 16) (en : mA M0 aM 19 = n) (hco : ∀ j, 0 ≤ mA M0 amCo j ∧ mA M0 amCo j ≤ 24) (hkb : ∀ o : Int, 0 ≤ o → o ≤ 23 → 0 ≤ mA M0 amIn (20 * o).toNat ∧ mA M0 amIn (20 * o).toNat ≤ 5) (hvw : ∀ i : Int, 0 ≤ i → i ≤ 2 → cB M0 m i = true → ∀ k, 0 ≤ k → k ≤ 15 → -2147483648 ≤ (FP.d2l (rV M0 (oI M0 m i) k)).toInt ∧ (FP.d2l (rV M0 (oI M0 m i) k)).toInt ≤ 2147483647) (Q : Option xv → xm → Prop) :
    ∀ (d : Nat) (k : Int) (z : ZT) (M : xm) (x3 x4 x5 : xv), k + d = n → 0 ≤ k → mF M0 m M → mV M m z k → (0 ≤ zN z ∧ zN z ≤ 1000000 + k) → mPost M0 m n Q (lpF (mixS (cB M0 m) (fun i => rL M0 (oI M0 m i)) (fun i => rV M0 (oI M0 m i))) d k z) → Wp qX10_mix 52 [vR aM, vI m, vI k, x3, x4, x5] [] M Q
  | 0, k, z, M, x3, x4, x5, hd, h0, hF, hV, hsa, hP => by
    have hsM := hF.st hs
    have hR' : ∀ L k, wr (mA M L k) = mA M L k := hF.2.2.2.2.2
    have e19 : mA M aM 19 = n := by rw [mF_m hF (by decide)]; exact en
    rw [HX10_mix_52]
    simp (disch := omega) only [RX10_mix, BW, wr_id, OM, PL, ↓reduceIte, mSt.e hsM, hR', TGs, e19]
    obtain rfl : k = n := by omega
    exact hP M hF hV
  | d + 1, k, z, M, x3, x4, x5, hd, h0, hF, hV, hsa, hP => by
    have hsM := hF.st hs
    have hR := hF.2.2.2.2.2
    have hR' : ∀ L k, wr (mA M L k) = mA M L k := hR
    have e19 : mA M aM 19 = n := by rw [mF_m hF (by decide)]; exact en
    obtain ⟨v1, v2, v3, v4, v5, v6, v7⟩ := id hV
    have hpw := pow_b h0 (show k ≤ 15 by omega)
    have hk15 : 0 ≤ k ∧ k ≤ 15 := by omega
    have fin : ∀ (M1 : xm) (y3 y4 y5 : xv) (z' : ZT), mF M0 m M1 → mV M1 m z' (k + 1) → (0 ≤ zN z' ∧ zN z' ≤ 1000000 + (k + 1)) → mixS (cB M0 m) (fun i => rL M0 (oI M0 m i)) (fun i => rV M0 (oI M0 m i)) k z = .inr z' → Wp qX10_mix 52 [vR aM, vI m, vI (k + 1), y3, y4, y5] [] M1 Q := fun M1 y3 y4 y5 z' a1 a2 b0 a6 => l_mix hs m n hm hn en hco hkb hvw Q d (k + 1) z' M1 y3 y4 y5 (by omega) (by omega) a1 a2 b0 (by rw [lpF_r a6] at hP; exact hP)
    have hsb : 0 ≤ mA M amIn (20 * m + 17).toNat ∧ mA M amIn (20 * m + 17).toNat ≤ 1000000000 := by rw [v3]; omega
    have key : Wp qX10_mix 65 [vR aM, vI m, vI k, vJ 0, vX, vI 0] [] M Q := by
      refine l_mixi hs m k hF hm hk15 hco hkb hvw Q (fun e => ?_) (fun S hS e => ?_) 3 0 0 (by omega) (by omega) (by omega) rfl
      · rw [lpF_l (show mixS (cB M0 m) (fun i => rL M0 (oI M0 m i)) (fun i => rV M0 (oI M0 m i)) k z = .inl 3 by unfold mixS; rw [e])] at hP
        exact mfail hF (by decide) (wr_id (by omega) (by omega)) (wr_id (by omega) (by omega)) hP
      · have hw := s_heldTo32 m S M hsM hR hm (by omega) hsb
        rw [v3] at hw
        have hb := si_b 2147483647 S
        simp (disch := first | omega | (simp only [DT, DS, ne_eq, Nat.reduceEqDiff, not_false_eq_true]; done)) only [RX10_mix, BW, wr_id, w64_id, OM, OE, PL, ↓reduceIte, mSt.e hsM, hR', TGs, e19, hw, MM, DT, Nat.reduceLeDiff, Nat.reduceAdd]
        exact fin _ _ _ _ _ ((hF.wI (Or.inr (Or.inr rfl)) (wr_id (by omega) (by omega))).wFr k.toNat (FP.i2d (Int32.ofInt (cz 2147483647 S)))) (mV_v (mV_n hV hm.1 (zN z + si 2147483647 S)) h0 _) ⟨by show 0 ≤ zN z + _; omega, by show zN z + _ ≤ _; omega⟩ (by unfold mixS; rw [e]; rfl)
    rw [HX10_mix_52]
    simp (disch := first | omega | (simp only [DT, DS, ne_eq, Nat.reduceEqDiff, not_false_eq_true]; done)) only [RX10_mix, BW, wr_id, OM, OE, PL, ↓reduceIte, mSt.e hsM, hR', TGs, e19, Nat.reduceLeDiff, Nat.reduceAdd]
    exact key
