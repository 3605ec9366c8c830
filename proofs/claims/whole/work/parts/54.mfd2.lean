/-! 54.mfd2: the reference's feed, its loop (written by wip/whole/wgen7.py) -/
def sG (M0 M : xm) : Prop := (∀ l j, ¬ (l = amIn ∧ j < 480) → mA M l j = mA M0 l j) ∧ (∀ l j, ¬ (l = amDb ∧ j < 1968) → mB M l j = mB M0 l j) ∧ mR M = mR M0 ∧ mC M = mC M0 ∧ (mK M = mK M0 ∧ mS M = mS M0) ∧ inR M
theorem sG.d {M0 M M' : xm} {m : Int} (h : sG M0 M) (g : dG M m M') (hm : 0 ≤ m ∧ m ≤ 23) : sG M0 M' := by
  obtain ⟨a1, a2, a3, a4, a5, a6⟩ := h
  obtain ⟨b1, b2, b3, b4, b5, b6⟩ := g
  exact ⟨fun l j x => (b1 l j (fun q => x ⟨q.1, by omega⟩)).trans (a1 l j x), fun l j x => (b2 l j (fun q => x ⟨q.1, by omega⟩)).trans (a2 l j x), b3.trans a3, b4.trans a4, ⟨b5.1.trans a5.1, b5.2.trans a5.2⟩, b6⟩
theorem dG.no {M0 M : xm} {m : Int} (h : dG M0 m M) (hm : 0 ≤ m) : dG M0 m (wA M amIn (20 * m + 3 * 1).toNat 0) := by
  obtain ⟨a1, a2, a3, a4, a5, a6⟩ := h
  refine ⟨fun l j x => ?_, a2, a3, a4, a5, a6.wA _ _ (by decide)⟩
  rw [wA_o _ _ (fun q => x ⟨q.1, by omega, by omega⟩)]
  exact a1 l j x
theorem no_o {M : xm} {m v : Int} {x : Option Rw} (h : mRw M m v x) (hm : 0 ≤ m) (hv : 2 ≤ v ∧ v ≤ 4) : mRw (wA M amIn (20 * m + 3 * 1).toNat 0) m v x :=
  mRw_c h (fun j a b => wA_o M _ (by omega)) (fun j a b => rfl) ⟨hm, by omega⟩
theorem fd_sR (C : Nat → Nat → Int) (N : Int) (A : Int → SS) (o : Int) : sR (fdA C N A o) = sR (A o) := by
  unfold fdA
  split <;> rfl
theorem fd_up {C : Nat → Nat → Int} {k : Int} {A : Int → SS} {o : Int} (h : ¬ (o = k ∧ C amKd k.toNat = 6)) : fdA C (k + 1) A o = fdA C k A o := by
  unfold fdA
  by_cases c : o < k ∧ C amKd o.toNat = 6
  · rw [if_pos c, if_pos ⟨by omega, c.2⟩]
  · rw [if_neg c, if_neg (fun q => h ⟨Decidable.byContradiction (fun z => c ⟨by omega, q.2⟩), by
      have : o = k := Decidable.byContradiction (fun z => c ⟨by omega, q.2⟩)
      rw [← this]; exact q.2⟩)]
theorem l_feed {M0 : xm} {N : Int} {A : Int → SS} (hs : mSt M0) (eN : mA M0 aM 3 = N) (hN : 0 ≤ N ∧ N ≤ 24) (hco : ∀ j, 0 ≤ mA M0 amCo j ∧ mA M0 amCo j ≤ 24) (Q : Option xv → xm → Prop) (hg : ∀ M, sG M0 M → (∀ o, 0 ≤ o → o ≤ 23 → mS1 M o (fdA (mA M0) N A o)) → Q none M) :
    ∀ (d : Nat) (k : Int) (M : xm) (x2 : xv), k + d = N → 0 ≤ k → sG M0 M → (∀ o, 0 ≤ o → o ≤ 23 → mS1 M o (fdA (mA M0) k A o)) → Wp qX10_feed 2 [vR aM, vI k, x2] [] M Q
  | 0, k, M, x2, hd, h0, hG, ha => by
    have hR' : ∀ L k, wr (mA M L k) = mA M L k := hG.2.2.2.2.2
    have hsM : mSt M := by
      unfold mSt at hs ⊢
      rw [hG.2.2.1]
      exact hs
    have e3 : mA M aM 3 = N := by rw [hG.1 _ _ (fun q => absurd q.1 (by decide))]; exact eN
    obtain rfl : k = N := by omega
    rw [HX10_feed_2]
    simp (disch := first | omega | (simp only [DT, DS, ne_eq, Nat.reduceEqDiff, not_false_eq_true]; done)) only [RX10_feed, BW, wr_id, OM, OE, PL, ↓reduceIte, mSt.e hsM, hR', TGs, e3, Nat.reduceLeDiff, Nat.reduceAdd]
    exact hg M hG ha
  | d + 1, k, M, x2, hd, h0, hG, ha => by
    have hR := hG.2.2.2.2.2
    have hR' : ∀ L k, wr (mA M L k) = mA M L k := hR
    have hsM : mSt M := by
      unfold mSt at hs ⊢
      rw [hG.2.2.1]
      exact hs
    have e3 : mA M aM 3 = N := by rw [hG.1 _ _ (fun q => absurd q.1 (by decide))]; exact eN
    have ek : mA M amKd k.toNat = mA M0 amKd k.toNat := hG.1 _ _ (fun q => absurd q.1 (by decide))
    have ih := l_feed hs eN hN hco Q hg d (k + 1)
    rw [HX10_feed_2]
    by_cases c6 : mA M0 amKd k.toNat = 6
    · have sk := ha k h0 (by omega)
      have hko : fdA (mA M0) k A k = A k := by unfold fdA; rw [if_neg (by omega)]
      rw [hko] at sk
      have hkm : 0 ≤ k ∧ k ≤ 23 := by omega
      obtain ⟨g0, g2, g3, g4⟩ := fd_rows sk hkm hR
      have hc := hco (3 * k).toNat
      have e4 : mA (cpRow (cpRow (cpRow M k 3 k 4) k 2 k 3) k 1 k 2) amCo (3 * k).toNat = mA M0 amCo (3 * k).toNat := by
        rw [g0.1 _ _ (fun q => absurd q.1 (by decide))]
        exact hG.1 _ _ (fun q => absurd q.1 (by decide))
      have q1 := s_copyRow k 3 k 4 M hsM hR hkm (by omega) hkm (by omega) (by omega)
      have q2 := s_copyRow k 2 k 3 (cpRow M k 3 k 4) hsM (cpRow_R hR _ _ _ _) hkm (by omega) hkm (by omega) (by omega)
      have q3 := s_copyRow k 1 k 2 (cpRow (cpRow M k 3 k 4) k 2 k 3) hsM (cpRow_R (cpRow_R hR _ _ _ _) _ _ _ _) hkm (by omega) hkm (by omega) (by omega)
      have hs3 : mSt (cpRow (cpRow (cpRow M k 3 k 4) k 2 k 3) k 1 k 2) := hsM
      have hR3 := g0.2.2.2.2.2
      generalize hM1 : cpRow M k 3 k 4 = M1 at q1 q2 q3 g0 g2 g3 g4 e4 hs3 hR3
      generalize hM2 : cpRow M1 k 2 k 3 = M2 at q2 q3 g0 g2 g3 g4 e4 hs3 hR3
      generalize hM3 : cpRow M2 k 1 k 2 = M3 at q3 g0 g2 g3 g4 e4 hs3 hR3
      have hR3' : ∀ L k, wr (mA M3 L k) = mA M3 L k := hR3
      have fin : ∀ M4 y2, dG M k M4 → mRw M4 k 1 (iRw A (mA M0 amCo (3 * k).toNat)) → mRw M4 k 2 (sF (A k) 1) → mRw M4 k 3 (sF (A k) 2) → mRw M4 k 4 (sF (A k) 3) → Wp qX10_feed 2 [vR aM, vI (k + 1), y2] [] M4 Q := fun M4 y2 a0 a1 a2 a3 a4 => by
        refine ih M4 y2 (by omega) (by omega) (hG.d a0 hkm) (fun o u v => ?_)
        by_cases e : o = k
        · have e5 : fdA (mA M0) (k + 1) A k = fdS (A k) (iRw A (mA M0 amCo (3 * k).toNat)) := by unfold fdA; rw [if_pos ⟨by omega, c6⟩]
          rw [e, e5]
          exact fd_put sk hkm a0 a1 a2 a3 a4
        · rw [fd_up (fun q => e q.1)]
          exact mS1_c (ha o u v) u (fun j _ _ => a0.1 _ _ (by omega)) (fun j _ _ => a0.2.1 _ _ (by omega))
      simp (disch := first | omega | (simp only [DT, DS, ne_eq, Nat.reduceEqDiff, not_false_eq_true]; done)) only [RX10_feed, BW, wr_id, OM, OE, PL, ↓reduceIte, mSt.e hsM, hR', TGs, e3, ek, c6, Nat.reduceLeDiff, Nat.reduceAdd]
      rw [HX10_feed_23]
      simp (disch := first | omega | (simp only [DT, DS, ne_eq, Nat.reduceEqDiff, not_false_eq_true]; done)) only [RX10_feed, BW, wr_id, OM, OE, PL, ↓reduceIte, Int.reduceSub, Int.reduceAdd, q1, Nat.reduceLeDiff, Nat.reduceAdd]
      rw [HX10_feed_23]
      simp (disch := first | omega | (simp only [DT, DS, ne_eq, Nat.reduceEqDiff, not_false_eq_true]; done)) only [RX10_feed, BW, wr_id, OM, OE, PL, ↓reduceIte, Int.reduceSub, Int.reduceAdd, q2, Nat.reduceLeDiff, Nat.reduceAdd]
      rw [HX10_feed_23]
      simp (disch := first | omega | (simp only [DT, DS, ne_eq, Nat.reduceEqDiff, not_false_eq_true]; done)) only [RX10_feed, BW, wr_id, OM, OE, PL, ↓reduceIte, Int.reduceSub, Int.reduceAdd, q3, Nat.reduceLeDiff, Nat.reduceAdd]
      rw [HX10_feed_23]
      by_cases c0 : mA M0 amCo (3 * k).toNat = 0
      · simp (disch := first | omega | (simp only [DT, DS, ne_eq, Nat.reduceEqDiff, not_false_eq_true]; done)) only [RX10_feed, BW, wr_id, OM, OE, PL, ↓reduceIte, mSt.e hs3, hR3', TGs, e4, c0, s_noRow k 1 M3 hs3 hR3, Nat.reduceLeDiff, Nat.reduceAdd]
        exact fin _ _ (g0.no h0) (by unfold iRw; rw [if_pos (by omega)]; exact wA_e _ _ _ _) (no_o g2 h0 (by omega)) (no_o g3 h0 (by omega)) (no_o g4 h0 (by omega))
      · have hx : mRw M (mA M0 amCo (3 * k).toNat - 1) 0 (iRw A (mA M0 amCo (3 * k).toNat)) := by
          unfold iRw
          rw [if_neg (by omega), ← fd_sR (mA M0) k A]
          exact (ha _ (by omega) (by omega)).1
        have hx3 : mRw M3 (mA M0 amCo (3 * k).toNat - 1) 0 (iRw A (mA M0 amCo (3 * k).toNat)) := by
          refine mRw_c hx (fun j a b => g0.1 _ _ (fun q => ?_)) (fun j a b => g0.2.1 _ _ (fun q => ?_)) ⟨by omega, by omega⟩
          · generalize mA M0 amCo (3 * k).toNat = c at *
            rcases (show c - 1 < k ∨ c - 1 = k ∨ k < c - 1 by omega) with e | e | e <;> omega
          · generalize mA M0 amCo (3 * k).toNat = c at *
            rcases (show c - 1 < k ∨ c - 1 = k ∨ k < c - 1 by omega) with e | e | e <;> omega
        simp (disch := first | omega | (simp only [DT, DS, ne_eq, Nat.reduceEqDiff, not_false_eq_true]; done)) only [RX10_feed, BW, wr_id, OM, OE, PL, ↓reduceIte, mSt.e hs3, hR3', TGs, e4, s_copyRow _ 0 k 1 M3 hs3 hR3, Nat.reduceLeDiff, Nat.reduceAdd]
        exact fin _ _ (g0.cp _ 0 h0 (by omega)) (cpRow_w hx3 ⟨by omega, by omega⟩ ⟨h0, by omega⟩) (cp_o g2 ⟨h0, h0⟩ (by omega) (by omega) (by omega)) (cp_o g3 ⟨h0, h0⟩ (by omega) (by omega) (by omega)) (cp_o g4 ⟨h0, h0⟩ (by omega) (by omega) (by omega))
    · have ek6 : wr (mA M0 amKd k.toNat) = mA M0 amKd k.toNat := by rw [← ek]; exact hR _ _
      simp (disch := first | omega | (simp only [DT, DS, ne_eq, Nat.reduceEqDiff, not_false_eq_true]; done)) only [RX10_feed, BW, wr_id, OM, OE, PL, ↓reduceIte, mSt.e hsM, hR', TGs, e3, ek, ek6, c6, Nat.reduceLeDiff, Nat.reduceAdd]
      exact ih M _ (by omega) (by omega) hG (fun o u v => by rw [fd_up (fun q => c6 q.2)]; exact ha o u v)
