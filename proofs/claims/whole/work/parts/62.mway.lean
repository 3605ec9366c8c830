/-! 62.mway: the reference's way -/
/-- only the ints at L are others -/
def aG (L : Nat) (M0 M : xm) : Prop := (∀ l j, ¬ l = L → mA M l j = mA M0 l j) ∧ mB M = mB M0 ∧ mR M = mR M0 ∧ mC M = mC M0 ∧ (mK M = mK M0 ∧ mS M = mS M0) ∧ inR M
theorem aG.refl {L : Nat} {M : xm} (h : inR M) : aG L M M := ⟨fun _ _ _ => rfl, rfl, rfl, rfl, ⟨rfl, rfl⟩, h⟩
theorem aG.w {L : Nat} {M0 M : xm} (h : aG L M0 M) (i : Nat) {x : Int} (hx : wr x = x) : aG L M0 (wA M L i x) := by
  obtain ⟨a1, a2, a3, a4, a5, a6⟩ := h
  refine ⟨fun l j v => ?_, a2, a3, a4, a5, a6.wA _ _ hx⟩
  rw [wA_o _ _ (fun q => v q.1)]
  exact a1 l j v
theorem aG.s {L : Nat} {M0 M : xm} (h : aG L M0 M) (hs : mSt M0) : mSt M := by
  unfold mSt at hs ⊢
  rw [h.2.2.1]
  exact hs
def faI (M : xm) (N : Int) (f : Int → Int) : Prop := ∀ b : Int, 0 ≤ b → b < N → mA M amFa b.toNat = f b
section WY
variable {M0 : xm} {N : Int}
theorem l_way1 (hs : mSt M0) (eN : mA M0 aM 3 = N) (hN : 0 ≤ N ∧ N ≤ 24) (hkd : ∀ j, 0 ≤ mA M0 amKd j ∧ mA M0 amKd j ≤ 10) {fr to n a : Int} {f : Int → Int} (hn : 1 ≤ n ∧ n ≤ 24) (ha : 0 ≤ a ∧ a < N) (ea : f a = n) (Q : Option xv → xm → Prop) (hg : ∀ M x5, aG amFa M0 M → faI M N (lvP (mA M0) n f (a.toNat + 1)) → Wp qX10_way 48 [vR aM, vI fr, vI to, vI n, vI (a + 1), x5] [] M Q) :
    ∀ (d : Nat) (b : Int) (M : xm), b + d = N → 0 ≤ b → aG amFa M0 M → (∀ j : Int, 0 ≤ j → j < N → mA M amFa j.toNat = if j < b then lvP (mA M0) n f (a.toNat + 1) j else lvP (mA M0) n f a.toNat j) → Wp qX10_way 60 [vR aM, vI fr, vI to, vI n, vI a, vI b] [] M Q
  | 0, b, M, hd, h0, hG, hF => by
    have hR' : ∀ L k, wr (mA M L k) = mA M L k := hG.2.2.2.2.2
    have hsM := hG.s hs
    have e3 : mA M aM 3 = N := by rw [hG.1 _ _ (by decide)]; exact eN
    obtain rfl : b = N := by omega
    rw [HX10_way_60]
    simp (disch := first | omega | (simp only [DT, DS, ne_eq, Nat.reduceEqDiff, not_false_eq_true]; done)) only [RX10_way, BW, wr_id, OM, OE, PL, ↓reduceIte, mSt.e hsM, hR', TGs, e3, Nat.reduceLeDiff, Nat.reduceAdd]
    exact hg M _ hG (fun j j0 j1 => by rw [hF j j0 j1, if_pos j1])
  | d + 1, b, M, hd, h0, hG, hF => by
    have hR := hG.2.2.2.2.2
    have hR' : ∀ L k, wr (mA M L k) = mA M L k := hR
    have hsM := hG.s hs
    have e3 : mA M aM 3 = N := by rw [hG.1 _ _ (by decide)]; exact eN
    have ek : mA M amKd b.toNat = mA M0 amKd b.toNat := hG.1 _ _ (by decide)
    have hk := hkd b.toNat
    have efa : mA M amFa a.toNat = n := by
      rw [hF a ha.1 ha.2]
      split
      · exact (lvP_a hn.1).mpr ea
      · exact (lvP_a hn.1).mpr ea
    have ea' : f ((a.toNat : Nat) : Int) = n := by rw [show ((a.toNat : Nat) : Int) = a by omega]; exact ea
    have efb : mA M amFa b.toNat = lvP (mA M0) n f a.toNat b := by rw [hF b h0 (by omega), if_neg (by omega)]
    have wfb : wr (lvP (mA M0) n f a.toNat b) = lvP (mA M0) n f a.toNat b := by rw [← efb]; exact hR _ _
    have st := lvP_s (C := mA M0) (k := a.toNat) hn.1 ea' b
    rw [show ((a.toNat : Nat) : Int) = a by omega] at st
    have ql : ∀ Q, Wp qX10_leads 0 [vR aM, vI a, vI b] [] M Q ↔ Q (some (vI (bi (ldB (mA M0) a b = true)))) M := fun Q => by
      rw [s_leads a b M hsM hR (by omega) (by omega), hG.1 amCo _ (by decide), hG.1 amCo _ (by decide), hG.1 amCo _ (by decide)]
      unfold ldB
      rw [decide_eq_true_eq]
    have ih0 := fun M' => l_way1 hs eN hN hkd hn ha ea Q hg d (b + 1) M' (by omega) (by omega)
    have same : (¬ (lvP (mA M0) n f a.toNat b = 0 ∧ ¬ mA M0 amKd b.toNat = 6 ∧ ldB (mA M0) a b = true)) → Wp qX10_way 60 [vR aM, vI fr, vI to, vI n, vI a, vI (b + 1)] [] M Q := fun c => by
      refine ih0 M hG (fun j j0 j1 => ?_)
      rw [if_neg c] at st
      rw [hF j j0 j1]
      by_cases e : j = b
      · rw [e, if_neg (by omega), if_pos (by omega), st]
      · by_cases e2 : j < b
        · rw [if_pos e2, if_pos (by omega)]
        · rw [if_neg e2, if_neg (by omega)]
    rw [HX10_way_60]
    by_cases c0 : lvP (mA M0) n f a.toNat b = 0
    · by_cases c6 : mA M0 amKd b.toNat = 6
      · have g := same (fun q => q.2.1 c6)
        simp (disch := first | omega | (simp only [DT, DS, ne_eq, Nat.reduceEqDiff, not_false_eq_true]; done)) only [RX10_way, BW, wr_id, OM, OE, PL, ↓reduceIte, mSt.e hsM, hR', TGs, e3, efa, efb, c0, ek, c6, Nat.reduceLeDiff, Nat.reduceAdd]
        exact g
      · cases cl : ldB (mA M0) a b
        · have g := same (fun q => absurd q.2.2 (by rw [cl]; decide))
          simp only [cl, bi_ff] at ql
          simp (disch := first | omega | (simp only [DT, DS, ne_eq, Nat.reduceEqDiff, not_false_eq_true]; done)) only [RX10_way, BW, wr_id, OM, OE, PL, ↓reduceIte, mSt.e hsM, hR', TGs, e3, efa, efb, c0, ek, c6, ql, Nat.reduceLeDiff, Nat.reduceAdd]
          exact g
        · simp only [cl, bi_T] at ql
          rw [if_pos ⟨c0, c6, cl⟩] at st
          have g := ih0 (wA M amFa b.toNat (n + 1)) (hG.w _ (wr_id (by omega) (by omega))) (fun j j0 j1 => by
            by_cases e : j = b
            · rw [e, wA_e, if_pos (by omega), st]
            · rw [wA_o _ _ (fun q => by have := q.2; omega), hF j j0 j1]
              by_cases e2 : j < b
              · rw [if_pos e2, if_pos (by omega)]
              · rw [if_neg e2, if_neg (by omega)])
          simp (disch := first | omega | (simp only [DT, DS, ne_eq, Nat.reduceEqDiff, not_false_eq_true]; done)) only [RX10_way, BW, wr_id, OM, OE, PL, ↓reduceIte, mSt.e hsM, hR', TGs, e3, efa, efb, c0, ek, c6, ql, Nat.reduceLeDiff, Nat.reduceAdd]
          exact g
    · have g := same (fun q => c0 q.1)
      simp (disch := first | omega | (simp only [DT, DS, ne_eq, Nat.reduceEqDiff, not_false_eq_true]; done)) only [RX10_way, BW, wr_id, OM, OE, PL, ↓reduceIte, mSt.e hsM, hR', TGs, e3, efa, efb, wfb, c0, Nat.reduceLeDiff, Nat.reduceAdd]
      exact g
theorem l_way2 (hs : mSt M0) (eN : mA M0 aM 3 = N) (hN : 0 ≤ N ∧ N ≤ 24) (hkd : ∀ j, 0 ≤ mA M0 amKd j ∧ mA M0 amKd j ≤ 10) {fr to n : Int} {f : Int → Int} (hn : 1 ≤ n ∧ n ≤ 24) (Q : Option xv → xm → Prop) (hg : ∀ M x4 x5, aG amFa M0 M → faI M N (lvP (mA M0) n f N.toNat) → Wp qX10_way 30 [vR aM, vI fr, vI to, vI (n + 1), x4, x5] [] M Q) :
    ∀ (d : Nat) (a : Int) (M : xm) (x5 : xv), a + d = N → 0 ≤ a → aG amFa M0 M → faI M N (lvP (mA M0) n f a.toNat) → Wp qX10_way 48 [vR aM, vI fr, vI to, vI n, vI a, x5] [] M Q
  | 0, a, M, x5, hd, h0, hG, hF => by
    have hR' : ∀ L k, wr (mA M L k) = mA M L k := hG.2.2.2.2.2
    have hsM := hG.s hs
    have e3 : mA M aM 3 = N := by rw [hG.1 _ _ (by decide)]; exact eN
    obtain rfl : a = N := by omega
    rw [HX10_way_48]
    simp (disch := first | omega | (simp only [DT, DS, ne_eq, Nat.reduceEqDiff, not_false_eq_true]; done)) only [RX10_way, BW, wr_id, OM, OE, PL, ↓reduceIte, mSt.e hsM, hR', TGs, e3, Nat.reduceLeDiff, Nat.reduceAdd]
    exact hg M _ _ hG hF
  | d + 1, a, M, x5, hd, h0, hG, hF => by
    have hR' : ∀ L k, wr (mA M L k) = mA M L k := hG.2.2.2.2.2
    have hsM := hG.s hs
    have e3 : mA M aM 3 = N := by rw [hG.1 _ _ (by decide)]; exact eN
    have ih := fun M' y5 => l_way2 hs eN hN hkd (fr := fr) (to := to) hn Q hg d (a + 1) M' y5 (by omega) (by omega)
    rw [show (a + 1).toNat = a.toNat + 1 by omega] at ih
    rw [HX10_way_48]
    by_cases ea : f a = n
    · have g := l_way1 hs eN hN hkd (fr := fr) (to := to) hn ⟨h0, by omega⟩ ea Q (fun M' y5 g1 g2 => ih M' y5 g1 g2) N.toNat 0 M (by omega) (by omega) hG (fun j j0 j1 => by rw [hF j j0 j1, if_neg (by omega)])
      simp (disch := first | omega | (simp only [DT, DS, ne_eq, Nat.reduceEqDiff, not_false_eq_true]; done)) only [RX10_way, BW, wr_id, OM, OE, PL, ↓reduceIte, mSt.e hsM, hR', TGs, e3, Nat.reduceLeDiff, Nat.reduceAdd]
      exact g
    · have efa : mA M amFa a.toNat = lvP (mA M0) n f a.toNat a := hF a h0 (by omega)
      have wfa : wr (lvP (mA M0) n f a.toNat a) = lvP (mA M0) n f a.toNat a := by rw [← efa]; exact hG.2.2.2.2.2 _ _
      have c1 : ¬ lvP (mA M0) n f a.toNat a = n := fun q => ea ((lvP_a hn.1).mp q)
      have e2 : ¬ f ((a.toNat : Nat) : Int) = n := by rw [show ((a.toNat : Nat) : Int) = a by omega]; exact ea
      have g := ih M (vI 0) hG (fun j j0 j1 => by rw [lvP_n e2]; exact hF j j0 j1)
      simp (disch := first | omega | (simp only [DT, DS, ne_eq, Nat.reduceEqDiff, not_false_eq_true]; done)) only [RX10_way, BW, wr_id, OM, OE, PL, ↓reduceIte, mSt.e hsM, hR', TGs, e3, Nat.reduceLeDiff, Nat.reduceAdd]
      rw [HX10_way_60]
      simp (disch := first | omega | (simp only [DT, DS, ne_eq, Nat.reduceEqDiff, not_false_eq_true]; done)) only [RX10_way, BW, wr_id, OM, OE, PL, ↓reduceIte, mSt.e hsM, hR', TGs, e3, efa, wfa, c1, Nat.reduceLeDiff, Nat.reduceAdd]
      exact g
theorem l_way3 (hs : mSt M0) (eN : mA M0 aM 3 = N) (hN : 0 ≤ N ∧ N ≤ 24) (hkd : ∀ j, 0 ≤ mA M0 amKd j ∧ mA M0 amKd j ≤ 10) {fr to : Int} (ht : 0 ≤ to ∧ to < N) (Q : Option xv → xm → Prop) :
    ∀ (d : Nat) (n : Int) (f : Int → Int) (M : xm) (x4 x5 : xv), n + d = 25 → 1 ≤ n → aG amFa M0 M → faI M N f → (∀ M', aG amFa M0 M' → Q (some (vI (wyF (mA M0) N to d n f to))) M') → Wp qX10_way 30 [vR aM, vI fr, vI to, vI n, x4, x5] [] M Q
  | 0, n, f, M, x4, x5, hd, h0, hG, hF, hg => by
    have hR' : ∀ L k, wr (mA M L k) = mA M L k := hG.2.2.2.2.2
    have hsM := hG.s hs
    have et : mA M amFa to.toNat = f to := hF to ht.1 ht.2
    obtain rfl : n = 25 := by omega
    rw [HX10_way_30]
    simp (disch := first | omega | (simp only [DT, DS, ne_eq, Nat.reduceEqDiff, not_false_eq_true]; done)) only [RX10_way, BW, wr_id, OM, OE, PL, ↓reduceIte, mSt.e hsM, hR', TGs, et, Nat.reduceLeDiff, Nat.reduceAdd]
    exact hg M hG
  | d + 1, n, f, M, x4, x5, hd, h0, hG, hF, hg => by
    have hR' : ∀ L k, wr (mA M L k) = mA M L k := hG.2.2.2.2.2
    have hsM := hG.s hs
    have et : mA M amFa to.toNat = f to := hF to ht.1 ht.2
    have wt : wr (f to) = f to := by rw [← et]; exact hG.2.2.2.2.2 _ _
    rw [HX10_way_30]
    unfold wyF at hg
    by_cases c : f to = 0
    · rw [if_pos c] at hg
      have g := l_way2 hs eN hN hkd (fr := fr) (to := to) (f := f) (n := n) ⟨h0, by omega⟩ Q (fun M' y4 y5 g1 g2 => l_way3 hs eN hN hkd ht Q d (n + 1) _ M' y4 y5 (by omega) (by omega) g1 g2 hg) N.toNat 0 M x5 (by omega) (by omega) hG (fun j j0 j1 => by rw [show (0 : Int).toNat = 0 from rfl, lvP_0]; exact hF j j0 j1)
      simp (disch := first | omega | (simp only [DT, DS, ne_eq, Nat.reduceEqDiff, not_false_eq_true]; done)) only [RX10_way, BW, wr_id, OM, OE, PL, ↓reduceIte, mSt.e hsM, hR', TGs, et, c, Nat.reduceLeDiff, Nat.reduceAdd]
      exact g
    · rw [if_neg c] at hg
      simp (disch := first | omega | (simp only [DT, DS, ne_eq, Nat.reduceEqDiff, not_false_eq_true]; done)) only [RX10_way, BW, wr_id, OM, OE, PL, ↓reduceIte, mSt.e hsM, hR', TGs, et, wt, c, Nat.reduceLeDiff, Nat.reduceAdd]
      exact hg M hG
theorem l_way0 (hs : mSt M0) (fr to : Int) (Q : Option xv → xm → Prop) (hg : ∀ M, aG amFa M0 M → (∀ j : Nat, j < 24 → mA M amFa j = 0) → Wp qX10_way 21 [vR aM, vI fr, vI to, vI 24, vX, vX] [] M Q) :
    ∀ (d : Nat) (k : Int) (M : xm), k + d = 24 → 0 ≤ k → aG amFa M0 M → (∀ j : Nat, (j : Int) < k → mA M amFa j = 0) → Wp qX10_way 2 [vR aM, vI fr, vI to, vI k, vX, vX] [] M Q
  | 0, k, M, hd, h0, hG, hF => by
    obtain rfl : k = 24 := by omega
    have h := hg M hG (fun j hj => hF j (by omega))
    rw [HX10_way_2]
    simp (disch := omega) only [RX10_way, BW, wr_id, OM, OE, PL, ↓reduceIte, Nat.reduceLeDiff, Nat.reduceAdd] at h ⊢
    exact h
  | d + 1, k, M, hd, h0, hG, hF => by
    have hR' : ∀ L k, wr (mA M L k) = mA M L k := hG.2.2.2.2.2
    have hsM := hG.s hs
    have ih := l_way0 hs fr to Q hg d (k + 1) (wA M amFa k.toNat 0) (by omega) (by omega) (hG.w _ (by decide)) (fun j hj => by
      by_cases e : j = k.toNat
      · rw [e, wA_e]
      · rw [wA_o _ _ (fun q => e q.2)]
        exact hF j (by omega))
    rw [HX10_way_2]
    simp (disch := first | omega | (simp only [DT, DS, ne_eq, Nat.reduceEqDiff, not_false_eq_true]; done)) only [RX10_way, BW, wr_id, OM, OE, PL, ↓reduceIte, mSt.e hsM, hR', TGs, Nat.reduceLeDiff, Nat.reduceAdd]
    exact ih
theorem s_way (hs : mSt M0) (hR : inR M0) (eN : mA M0 aM 3 = N) (hN : 0 ≤ N ∧ N ≤ 24) (hkd : ∀ j, 0 ≤ mA M0 amKd j ∧ mA M0 amKd j ≤ 10) {fr to : Int} (hf : 0 ≤ fr ∧ fr < N) (ht : 0 ≤ to ∧ to < N) (Q : Option xv → xm → Prop) (hg : ∀ M', aG amFa M0 M' → Q (some (vI (wyF (mA M0) N to 24 1 (f1 fr) to))) M') : Wp qX10_way 0 [vR aM, vI fr, vI to, vX, vX, vX] [] M0 Q := by
  have g := l_way0 hs fr to Q (fun M hG hF => by
    have hR' : ∀ L k, wr (mA M L k) = mA M L k := hG.2.2.2.2.2
    have hsM := hG.s hs
    have g := l_way3 hs eN hN hkd (fr := fr) ht Q 24 1 (f1 fr) (wA M amFa fr.toNat 1) vX vX (by omega) (by omega) (hG.w _ (by decide)) (fun b b0 b1 => by
      unfold f1
      by_cases e : b = fr
      · rw [e, wA_e, if_pos rfl]
      · rw [wA_o _ _ (fun q => by have := q.2; omega), if_neg e]
        exact hF _ (by omega)) hg
    simp (disch := first | omega | (simp only [DT, DS, ne_eq, Nat.reduceEqDiff, not_false_eq_true]; done)) only [RX10_way, BW, wr_id, OM, OE, PL, ↓reduceIte, mSt.e hsM, hR', TGs, Nat.reduceLeDiff, Nat.reduceAdd]
    exact g) 24 0 M0 (by omega) (by omega) (aG.refl hR) (fun j hj => by omega)
  simp (disch := omega) only [RX10_way, BW, wr_id]
  exact g
end WY
theorem wy_b {C : Nat → Nat → Int} {N o : Int} (hN : 0 ≤ N) (ho : 0 ≤ o ∧ o < N) : ∀ (d : Nat) (n : Int) (f : Int → Int), lvI N n f → 0 ≤ wyF C N o d n f o ∧ wyF C N o d n f o ≤ n + d
  | 0, n, f, h => by
    have := h.2.1 o ho.1 ho.2
    unfold wyF
    omega
  | d + 1, n, f, h => by
    unfold wyF
    split
    · have := wy_b (C := C) hN ho d (n + 1) _ (lvI_s (C := C) hN h)
      omega
    · have := h.2.1 o ho.1 ho.2
      omega
/-- what cord answers: -1, the loop, or 1 -/
def cdF (C : Nat → Nat → Int) (N o m i : Int) : Int := if ¬ ((0 ≤ m ∧ m ≤ N - 1) ∧ 0 ≤ i ∧ i ≤ if C amKd m.toNat = 5 then 2 else 1) ∨ ¬ (o = -1 ∨ (0 ≤ o ∧ o ≤ N - 1)) then -1 else if 0 ≤ o ∧ ¬ C amKd m.toNat = 6 ∧ ¬ C amKd o.toNat = 6 ∧ 0 < wyF C N o 24 1 (f1 m) o then -10 - wyF C N o 24 1 (f1 m) o else 1
theorem s_cord {M : xm} {N : Int} (hs : mSt M) (hR : inR M) (eN : mA M aM 3 = N) (hN : 0 ≤ N ∧ N ≤ 24) (hkd : ∀ j, 0 ≤ mA M amKd j ∧ mA M amKd j ≤ 10) (o m i : Int) (ho : -2147483648 ≤ o ∧ o ≤ 2147483647) (hm : -2147483648 ≤ m ∧ m ≤ 2147483647) (hi : -2147483648 ≤ i ∧ i ≤ 2147483647) (Q : Option xv → xm → Prop) (hg : ∀ M', aG amFa M M' → Q (some (vI (cdF (mA M) N o m i))) (if cdF (mA M) N o m i = 1 then wA M' amCo (3 * m + i).toNat (o + 1) else M')) : Wp qX10_cord 0 [vR aM, vI o, vI m, vI i, vX] [] M Q := by
  have hR' : ∀ L k, wr (mA M L k) = mA M L k := hR
  have h0 := hg M (aG.refl hR)
  have q1 := s_hasIn m i M hs hR hm hi (by rw [eN]; exact hN)
  have q2 := s_isModule o M hs hR ho (by rw [eN]; exact hN)
  rw [eN] at q1 q2
  have kb := fun j => hkd j
  unfold cdF at hg h0
  by_cases c1 : (0 ≤ m ∧ m ≤ N - 1) ∧ 0 ≤ i ∧ i ≤ if mA M amKd m.toNat = 5 then 2 else 1
  · simp only [bi_t c1] at q1
    have ci : 0 ≤ i ∧ i ≤ 2 := by
      have := c1.2
      split at this <;> omega
    have hm' : 0 ≤ m ∧ m < N := by omega
    by_cases c2 : o = -1
    · rw [if_neg (by intro q; rcases q with q | q; exact q c1; exact q (Or.inl c2)), if_neg (by omega)] at h0
      rw [if_pos rfl] at h0
      subst c2
      simp (disch := first | omega | (simp only [DT, DS, ne_eq, Nat.reduceEqDiff, not_false_eq_true]; done)) only [RX10_cord, BW, wr_id, OM, OE, PL, ↓reduceIte, mSt.e hs, hR', TGs, q1, Nat.reduceLeDiff, Nat.reduceAdd]
      exact h0
    · by_cases c3 : 0 ≤ o ∧ o ≤ N - 1
      · simp only [bi_t c3] at q2
        have n1 : ¬ (¬ ((0 ≤ m ∧ m ≤ N - 1) ∧ 0 ≤ i ∧ i ≤ if mA M amKd m.toNat = 5 then 2 else 1) ∨ ¬ (o = -1 ∨ (0 ≤ o ∧ o ≤ N - 1))) := by
          intro q
          rcases q with q | q
          · exact q c1
          · exact q (Or.inr c3)
        simp only [if_neg n1] at hg
        rw [if_neg n1] at h0
        by_cases c4 : mA M amKd m.toNat = 6
        · rw [if_neg (fun q => q.2.1 c4), if_pos rfl] at h0
          simp (disch := first | omega | (simp only [DT, DS, ne_eq, Nat.reduceEqDiff, not_false_eq_true]; done)) only [RX10_cord, BW, wr_id, OM, OE, PL, ↓reduceIte, mSt.e hs, hR', TGs, q1, q2, c4, Nat.reduceLeDiff, Nat.reduceAdd]
          exact h0
        · have k1 := kb m.toNat
          by_cases c5 : mA M amKd o.toNat = 6
          · rw [if_neg (fun q => q.2.2.1 c5), if_pos rfl] at h0
            simp (disch := first | omega | (simp only [DT, DS, ne_eq, Nat.reduceEqDiff, not_false_eq_true]; done)) only [RX10_cord, BW, wr_id, OM, OE, PL, ↓reduceIte, mSt.e hs, hR', TGs, q1, q2, c4, c5, Nat.reduceLeDiff, Nat.reduceAdd]
            exact h0
          · have k2 := kb o.toNat
            have wb := wy_b (C := mA M) hN.1 (show 0 ≤ o ∧ o < N by omega) 24 1 (f1 m) (lvI_1 hm')
            have qw := s_way hs hR eN hN hkd (fr := m) (to := o) hm' (by omega)
            simp (disch := first | omega | (simp only [DT, DS, ne_eq, Nat.reduceEqDiff, not_false_eq_true]; done)) only [RX10_cord, BW, wr_id, OM, OE, PL, ↓reduceIte, mSt.e hs, hR', TGs, q1, q2, c4, c5, Nat.reduceLeDiff, Nat.reduceAdd]
            refine qw _ (fun M' hG => ?_)
            have hR2 : ∀ L k, wr (mA M' L k) = mA M' L k := hG.2.2.2.2.2
            have hs2 := hG.s hs
            have g := hg M' hG
            by_cases c6 : 0 < wyF (mA M) N o 24 1 (f1 m) o
            · rw [if_pos ⟨c3.1, c4, c5, c6⟩, if_neg (by omega)] at g
              simp (disch := first | omega | (simp only [DT, DS, ne_eq, Nat.reduceEqDiff, not_false_eq_true]; done)) only [RX10_cord, BW, wr_id, OM, OE, PL, ↓reduceIte, mSt.e hs2, hR2, TGs, Nat.reduceLeDiff, Nat.reduceAdd]
              exact g
            · rw [if_neg (fun q => c6 q.2.2.2), if_pos rfl] at g
              simp (disch := first | omega | (simp only [DT, DS, ne_eq, Nat.reduceEqDiff, not_false_eq_true]; done)) only [RX10_cord, BW, wr_id, OM, OE, PL, ↓reduceIte, mSt.e hs2, hR2, TGs, Nat.reduceLeDiff, Nat.reduceAdd]
              exact g
      · simp only [bi_f c3] at q2
        rw [if_pos (Or.inr (by omega)), if_neg (by decide)] at h0
        simp (disch := first | omega | (simp only [DT, DS, ne_eq, Nat.reduceEqDiff, not_false_eq_true]; done)) only [RX10_cord, BW, wr_id, OM, OE, PL, ↓reduceIte, mSt.e hs, hR', TGs, q1, q2, c2, Nat.reduceLeDiff, Nat.reduceAdd]
        exact h0
  · simp only [bi_f c1] at q1
    rw [if_pos (Or.inl c1), if_neg (by decide)] at h0
    simp (disch := first | omega | (simp only [DT, DS, ne_eq, Nat.reduceEqDiff, not_false_eq_true]; done)) only [RX10_cord, BW, wr_id, OM, OE, PL, ↓reduceIte, mSt.e hs, hR', TGs, q1, Nat.reduceLeDiff, Nat.reduceAdd]
    exact h0
