/-! 50.mblk: the reference's block: its modules act in their order (written by wip/whole/wgen6.py) -/
/-- what stays as it is while modules act -/
def bG (M0 M : xm) : Prop := (∀ l j, ¬ (l = amIn ∧ j < 480) → ¬ (l = aM ∧ (j = 15 ∨ j = 16 ∨ j = 17 ∨ j = 18 ∨ j = 28)) → ¬ l = amTr → mA M l j = mA M0 l j) ∧
  (∀ l j, ¬ (l = amDb ∧ j < 1968) → ¬ l = amFr → mB M l j = mB M0 l j) ∧ mR M = mR M0 ∧ mC M = mC M0 ∧ (mK M = mK M0 ∧ mS M = mS M0) ∧ inR M
theorem bG.c {M0 M : xm} (h : bG M0 M) : cEq M0 M := fun j => by
  refine ⟨?_, ?_, ?_, ?_, ?_, ?_⟩ <;> exact h.1 _ _ (fun q => absurd q.1 (by decide)) (fun q => absurd q.1 (by decide)) (by decide)
theorem bG.m {M0 M : xm} (h : bG M0 M) {j : Nat} (hj : ¬ (j = 15 ∨ j = 16 ∨ j = 17 ∨ j = 18 ∨ j = 28)) : mA M aM j = mA M0 aM j := h.1 _ _ (fun q => absurd q.1 (by decide)) (fun q => hj q.2) (by decide)
theorem bG.g {M0 M M' : xm} {m : Int} (h : bG M0 M) (g : mGo M m M') (hm : 0 ≤ m ∧ m ≤ 23) : bG M0 M' := by
  obtain ⟨a1, a2, a3, a4, a5, a6⟩ := h
  obtain ⟨b1, b2, b3, b4, b5, b6⟩ := g
  exact ⟨fun l j x y z => (b1 l j (fun q => x ⟨q.1, by omega⟩) (fun q => x ⟨q.1, by omega⟩) (fun q => y ⟨q.1, by omega⟩)).trans (a1 l j x y z), fun l j x y => (b2 l j (fun q => x ⟨q.1, by omega⟩) (fun q => x ⟨q.1, by omega⟩) y).trans (a2 l j x y), b3.trans a3, b4.trans a4, ⟨b5.1.trans a5.1, b5.2.trans a5.2⟩, b6⟩
theorem bG.t {M0 M : xm} (h : bG M0 M) (i : Nat) {x k : Int} (hx : wr x = x) (hk : wr k = k) : bG M0 (wA (wA M amTr i x) aM 15 k) := by
  obtain ⟨a1, a2, a3, a4, a5, a6⟩ := h
  refine ⟨fun l j u v w => ?_, a2, a3, a4, a5, (a6.wA _ _ hx).wA _ _ hk⟩
  rw [wA_o _ _ (fun q => v ⟨q.1, Or.inl q.2⟩), wA_o _ _ (fun q => w q.1)]
  exact a1 l j u v w
theorem l_block1 {M0 : xm} {n t N : Int} {A0 : Int → SS} (hc : mCf M0 n) (eN : mA M0 aM 3 = N) (hN : 0 ≤ N ∧ N ≤ 24) (hord : ∀ i : Nat, (i : Int) < N → 0 ≤ mA M0 amOr i ∧ mA M0 amOr i ≤ 23) (hself : ∀ m : Int, 0 ≤ m → m ≤ 23 → ¬ mA M0 amKd m.toNat = 6 → ¬ mA M0 amCo (3 * m).toNat = m + 1) (ht : t ≤ 49900) (Q : Option xv → xm → Prop)
    (hf : ∀ f m j c M, bkF (mA M0) n (mA M0 amOr) N.toNat 0 A0 = .inl (f, m, j, c) → bG M0 M → (1 ≤ c ∧ c ≤ N) → mA M aM 15 = c → (∀ i : Nat, (i : Int) < c → mA M amTr i = mA M0 amOr i + 1) → mA M aM 16 = f → mA M aM 17 = m → mA M aM 18 = j → Wp qX10_block 105 [vR aM, vI n, vI 0, vI (c - 1)] [] M Q)
    (hg : ∀ A M, bkF (mA M0) n (mA M0 amOr) N.toNat 0 A0 = .inr A → bG M0 M → mA M aM 16 = mA M0 aM 16 → mA M aM 15 = N → (∀ i : Nat, (i : Int) < N → mA M amTr i = mA M0 amOr i + 1) → mAs M (t + N) A → Wp qX10_block 105 [vR aM, vI n, vI 1, vI (N - 1)] [] M Q) :
    ∀ (d : Nat) (k : Int) (A : Int → SS) (M : xm), k + d = N → 0 ≤ k → bG M0 M → mA M aM 16 = mA M0 aM 16 → mA M aM 15 = k → (∀ i : Nat, (i : Int) < k → mA M amTr i = mA M0 amOr i + 1) → mAs M (t + k) A → bkF (mA M0) n (mA M0 amOr) N.toNat 0 A0 = bkF (mA M0) n (mA M0 amOr) d k A → Wp qX10_block 42 [vR aM, vI n, vI 1, vI k] [] M Q
  | 0, k, A, M, hd, h0, hb, e16, e15, htr, ha, he => by
    have hcM := mCf_c hc hb.c hb.2.2.2.2.2 hb.2.2.1 (hb.m (by decide))
    have hR' : ∀ L k, wr (mA M L k) = mA M L k := hcM.2.1
    have e3 : mA M aM 3 = N := by rw [hb.m (by decide)]; exact eN
    obtain rfl : k = N := by omega
    have g := hg A M he hb e16 e15 htr ha
    rw [HX10_block_42]
    simp (disch := first | omega | (simp only [DT, DS, ne_eq, Nat.reduceEqDiff, not_false_eq_true]; done)) only [RX10_block, BW, wr_id, OM, OE, PL, ↓reduceIte, mSt.e hcM.1, hR', TGs, e3, e15, Nat.reduceLeDiff, Nat.reduceAdd]
    exact g
  | d + 1, k, A, M, hd, h0, hb, e16, e15, htr, ha, he => by
    have hcM := mCf_c hc hb.c hb.2.2.2.2.2 hb.2.2.1 (hb.m (by decide))
    have hR' : ∀ L k, wr (mA M L k) = mA M L k := hcM.2.1
    have e3 : mA M aM 3 = N := by rw [hb.m (by decide)]; exact eN
    have eo : mA M amOr k.toNat = mA M0 amOr k.toNat := hb.1 _ _ (fun q => absurd q.1 (by decide)) (fun q => absurd q.1 (by decide)) (by decide)
    have ho := hord k.toNat (by omega)
    have hb2 : bG M0 (wA (wA M amTr k.toNat (mA M0 amOr k.toNat + 1)) aM 15 (k + 1)) := hb.t _ (wr_id (by omega) (by omega)) (wr_id (by omega) (by omega))
    have hc2 := mCf_c hc hb2.c hb2.2.2.2.2.2 hb2.2.2.1 (hb2.m (by decide))
    have ha2 : mAs (wA (wA M amTr k.toNat (mA M0 amOr k.toNat + 1)) aM 15 (k + 1)) (t + k) A := fun o a b => ⟨mS1_c (ha o a b).1 a (fun j _ _ => by rw [wA_o _ _ (fun q => absurd q.1 (by decide)), wA_o _ _ (fun q => absurd q.1 (by decide))]) (fun j _ _ => rfl), (ha o a b).2⟩
    have e16' : mA (wA (wA M amTr k.toNat (mA M0 amOr k.toNat + 1)) aM 15 (k + 1)) aM 16 = mA M0 aM 16 := by rw [wA_o _ _ (by decide), wA_o _ _ (fun q => absurd q.1 (by decide))]; exact e16
    have e15' : mA (wA (wA M amTr k.toNat (mA M0 amOr k.toNat + 1)) aM 15 (k + 1)) aM 15 = k + 1 := wA_e _ _ _ _
    have htr' : ∀ i : Nat, (i : Int) < k + 1 → mA (wA (wA M amTr k.toNat (mA M0 amOr k.toNat + 1)) aM 15 (k + 1)) amTr i = mA M0 amOr i + 1 := fun i hi => by
      rw [wA_o _ _ (fun q => absurd q.1 (by decide))]
      by_cases e : i = k.toNat
      · rw [e, wA_e]
      · rw [wA_o _ _ (fun q => e q.2)]
        exact htr i (by omega)
    generalize hM2 : wA (wA M amTr k.toNat (mA M0 amOr k.toNat + 1)) aM 15 (k + 1) = M2 at hb2 hc2 ha2 e16' e15' htr'
    have eo2 : mA M2 amOr k.toNat = mA M0 amOr k.toNat := hb2.1 _ _ (fun q => absurd q.1 (by decide)) (fun q => absurd q.1 (by decide)) (by decide)
    have key : ∀ Q' : Option xv → xm → Prop, (∀ M3, Wp qX10_block 42 [vR aM, vI n, vI 0, vI (k + 1)] [] M3 Q → Q' (some (vI 0)) M3) → (∀ M3, Wp qX10_block 42 [vR aM, vI n, vI 1, vI (k + 1)] [] M3 Q → Q' (some (vI 1)) M3) → Wp qX10_acts 0 [vR aM, vI (mA M0 amOr k.toNat), vX, vX] [] M2 Q' := fun Q' q0 q1 => by
      refine m_acts hc2 ha2 (by omega) ho (by rw [(hb2.c _).1, (hb2.c _).2.2.2.1]; exact hself _ ho.1 ho.2) Q' ?_
      rw [actF_c hb2.c]
      cases e : actF (mA M0) n A (mA M0 amOr k.toNat) with
      | inl fj =>
        obtain ⟨f, j⟩ := fj
        intro M3 g a b c
        refine q0 M3 ?_
        have hb3 := hb2.g g ho
        have hc3 := mCf_c hc hb3.c hb3.2.2.2.2.2 hb3.2.2.1 (hb3.m (by decide))
        have hR3 : ∀ L k, wr (mA M3 L k) = mA M3 L k := hc3.2.1
        have f3 : mA M3 aM 3 = N := by rw [hb3.m (by decide)]; exact eN
        have f15 : mA M3 aM 15 = k + 1 := by
          rw [g.1 _ _ (fun q => absurd q.1 (by decide)) (fun q => absurd q.1 (by decide)) (fun q => absurd q.2 (by decide))]
          exact e15'
        have ftr : ∀ i : Nat, (i : Int) < k + 1 → mA M3 amTr i = mA M0 amOr i + 1 := fun i hi => by
          rw [g.1 _ _ (fun q => absurd q.1 (by decide)) (fun q => absurd q.1 (by decide)) (fun q => absurd q.1 (by decide))]
          exact htr' i hi
        have G := hf f (mA M0 amOr k.toNat) j (k + 1) M3 (by rw [he, bkF, e]) hb3 (by omega) f15 ftr a b c
        rw [HX10_block_42]
        by_cases c1 : k + 1 < N
        · simp (disch := first | omega | (simp only [DT, DS, ne_eq, Nat.reduceEqDiff, not_false_eq_true]; done)) only [RX10_block, BW, wr_id, OM, OE, PL, ↓reduceIte, mSt.e hc3.1, hR3, TGs, f3, f15, Nat.reduceLeDiff, Nat.reduceAdd]
          exact G
        · simp (disch := first | omega | (simp only [DT, DS, ne_eq, Nat.reduceEqDiff, not_false_eq_true]; done)) only [RX10_block, BW, wr_id, OM, OE, PL, ↓reduceIte, mSt.e hc3.1, hR3, TGs, f3, f15, Nat.reduceLeDiff, Nat.reduceAdd]
          exact G
      | inr s =>
        intro M3 g h1
        refine q1 M3 ?_
        have hb3 := hb2.g g.o ho
        have f16 : mA M3 aM 16 = mA M0 aM 16 := g.2.2.2.2.1.2.2.trans e16'
        have f15 : mA M3 aM 15 = k + 1 := by
          rw [g.1 _ _ (fun q => absurd q.1 (by decide)) (fun q => absurd q.1 (by decide)) (fun q => absurd q.2 (by decide))]
          exact e15'
        have ftr : ∀ i : Nat, (i : Int) < k + 1 → mA M3 amTr i = mA M0 amOr i + 1 := fun i hi => by
          rw [g.1 _ _ (fun q => absurd q.1 (by decide)) (fun q => absurd q.1 (by decide)) (fun q => absurd q.1 (by decide))]
          exact htr' i hi
        have hok := act_ok hc (fun o a b => (ha o a b).2) ho e
        have ha3 := mAs_up ha2 ho g h1 hok
        rw [show t + k + 1 = t + (k + 1) by omega] at ha3
        exact l_block1 hc eN hN hord hself ht Q hf hg d (k + 1) _ M3 (by omega) (by omega) hb3 f16 f15 ftr ha3 (by rw [he, bkF, e])
    rw [HX10_block_42]
    simp (disch := first | omega | (simp only [DT, DS, ne_eq, Nat.reduceEqDiff, not_false_eq_true]; done)) only [RX10_block, BW, wr_id, OM, OE, PL, ↓reduceIte, mSt.e hcM.1, hR', TGs, e3, e15, eo, MM, DT, hM2, mSt.e hc2.1, eo2, Nat.reduceLeDiff, Nat.reduceAdd]
    refine key _ (fun M3 h => ?_) (fun M3 h => ?_)
    · simp (disch := first | omega | (simp only [DT, DS, ne_eq, Nat.reduceEqDiff, not_false_eq_true]; done)) only [RX10_block, BW, wr_id, OM, OE, PL, ↓reduceIte, Nat.reduceLeDiff, Nat.reduceAdd]
      exact h
    · simp (disch := first | omega | (simp only [DT, DS, ne_eq, Nat.reduceEqDiff, not_false_eq_true]; done)) only [RX10_block, BW, wr_id, OM, OE, PL, ↓reduceIte, Nat.reduceLeDiff, Nat.reduceAdd]
      exact h
