/-! 51.mtra: the reference's block: the trace is closed -/
def trF (ord : Nat → Int) (c : Int) (i : Nat) : Int := if (i : Int) < c then ord i + 1 else -(ord (2 * c - 1 - (i : Int)).toNat + 1)
def tG (M0 M : xm) : Prop := (∀ l j, ¬ (l = aM ∧ j = 15) → ¬ l = amTr → mA M l j = mA M0 l j) ∧ mB M = mB M0 ∧ mR M = mR M0 ∧ mC M = mC M0 ∧ (mK M = mK M0 ∧ mS M = mS M0) ∧ inR M
theorem tG.refl {M : xm} (h : inR M) : tG M M := ⟨fun _ _ _ _ => rfl, rfl, rfl, rfl, ⟨rfl, rfl⟩, h⟩
theorem tG.t {M0 M : xm} (h : tG M0 M) (i : Nat) {x k : Int} (hx : wr x = x) (hk : wr k = k) : tG M0 (wA (wA M amTr i x) aM 15 k) := by
  obtain ⟨a1, a2, a3, a4, a5, a6⟩ := h
  refine ⟨fun l j v w => ?_, a2, a3, a4, a5, (a6.wA _ _ hx).wA _ _ hk⟩
  rw [wA_o _ _ (fun q => v q), wA_o _ _ (fun q => w q.1)]
  exact a1 l j v w
theorem l_block2 {M0 : xm} {c g : Int} {x1 : xv} {ord : Nat → Int} (hs : mSt M0) (hc : 0 ≤ c ∧ c ≤ 24) (hord : ∀ i : Nat, (i : Int) < c → 0 ≤ ord i ∧ ord i ≤ 23) (Q : Option xv → xm → Prop)
    (hg : ∀ M, tG M0 M → mA M aM 15 = 2 * c → (∀ i : Nat, (i : Int) < 2 * c → mA M amTr i = trF ord c i) → Wp qX10_block 141 [vR aM, x1, vI g, vI (-1)] [] M Q) :
    ∀ (d : Nat) (k : Int) (M : xm), k + 1 = d → k < c → tG M0 M → mA M aM 15 = 2 * c - 1 - k → (∀ i : Nat, (i : Int) < 2 * c - 1 - k → mA M amTr i = trF ord c i) → Wp qX10_block 105 [vR aM, x1, vI g, vI k] [] M Q
  | 0, k, M, hd, hk, hG, e15, htr => by
    have hR' : ∀ L k, wr (mA M L k) = mA M L k := hG.2.2.2.2.2
    obtain rfl : k = -1 := by omega
    have h := hg M hG (by omega) (fun i hi => htr i (by omega))
    rw [HX10_block_105]
    simp (disch := omega) only [RX10_block, BW, wr_id, OM, OE, PL, ↓reduceIte, Nat.reduceLeDiff, Nat.reduceAdd] at h ⊢
    exact h
  | d + 1, k, M, hd, hk, hG, e15, htr => by
    have hR' : ∀ L k, wr (mA M L k) = mA M L k := hG.2.2.2.2.2
    have hsM : mSt M := by
      unfold mSt at hs ⊢
      rw [hG.2.2.1]
      exact hs
    have ek := htr k.toNat (by omega)
    have ho := hord k.toNat (by omega)
    unfold trF at ek
    rw [if_pos (by omega)] at ek
    have ih := l_block2 hs hc hord Q hg d (k - 1) (wA (wA M amTr (2 * c - 1 - k).toNat (-(ord k.toNat + 1))) aM 15 (2 * c - 1 - k + 1)) (by omega) (by omega) (hG.t _ (wr_id (by omega) (by omega)) (wr_id (by omega) (by omega))) (by rw [wA_e]; omega) (fun i hi => by
      rw [wA_o _ _ (fun q => absurd q.1 (by decide))]
      by_cases e : i = (2 * c - 1 - k).toNat
      · rw [e, wA_e]
        unfold trF
        rw [if_neg (by omega), show (2 * c - 1 - (((2 * c - 1 - k).toNat : Nat) : Int)).toNat = k.toNat by omega]
      · rw [wA_o _ _ (fun q => e q.2)]
        exact htr i (by omega))
    rw [HX10_block_105]
    simp (disch := first | omega | (simp only [DT, DS, ne_eq, Nat.reduceEqDiff, not_false_eq_true]; done)) only [RX10_block, BW, wr_id, OM, OE, PL, ↓reduceIte, mSt.e hsM, hR', TGs, e15, ek, MM, DT, Nat.reduceLeDiff, Nat.reduceAdd]
    exact ih
