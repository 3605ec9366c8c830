/-! 87.crak: the developers' own: the order, the shortest loop; C: the cells that count -/
def uC (M : xm) (C : Nat → Nat → Int) (N : Int) : Prop := (mR M aRack 1 = aUnits ∧ mR M aRack 2 = aLine ∧ mR M aRack 3 = aActed ∧ mR M aRack 4 = aSteps) ∧ (mA M aRack 0 = N ∧ 0 ≤ N ∧ N ≤ 24) ∧ inR M ∧ (∀ m : Int, 0 ≤ m → m < N → (mR M aUnits m.toNat = uA m.toNat ∧ tg (mR M (uA m.toNat) 5) = 32 ∧ (ln (mR M (uA m.toNat) 5) : Int) = nin (C amKd m.toNat)) ∧ mA M (uA m.toNat) 1 = C amKd m.toNat ∧ ∀ i : Int, 0 ≤ i → i < nin (C amKd m.toNat) → mA M (mR M (uA m.toNat) 5) i.toNat = C amCo (3 * m + i).toNat - 1) ∧ (∀ m, 0 ≤ m → m < N → ¬ C amKd m.toNat = 5 → C amCo (3 * m + 2).toNat = 0) ∧ (∀ m i, 0 ≤ m → m < N → 0 ≤ i → i ≤ 2 → 0 ≤ C amCo (3 * m + i).toNat ∧ C amCo (3 * m + i).toNat ≤ N) ∧ ∀ m, 0 ≤ C amKd m ∧ C amKd m ≤ 10
/-- line, acted, steps alone are others -/
def rkG (M0 M : xm) : Prop := (∀ l j, ¬ l = aLine → ¬ l = aActed → ¬ l = aSteps → mA M l j = mA M0 l j) ∧ mB M = mB M0 ∧ mR M = mR M0 ∧ mC M = mC M0 ∧ (mK M = mK M0 ∧ mS M = mS M0) ∧ inR M
theorem rkG.refl {M : xm} (h : inR M) : rkG M M := ⟨fun _ _ _ _ _ => rfl, rfl, rfl, rfl, ⟨rfl, rfl⟩, h⟩
theorem rkG.w {M0 M : xm} (h : rkG M0 M) {L : Nat} (hL : L = aLine ∨ L = aActed ∨ L = aSteps) (i : Nat) {x : Int} (hx : wr x = x) : rkG M0 (wA M L i x) := by
  obtain ⟨a1, a2, a3, a4, a5, a6⟩ := h
  refine ⟨fun l j u v w => ?_, a2, a3, a4, a5, a6.wA _ _ hx⟩
  rw [wA_o _ _ (fun q => by rcases hL with e | e | e <;> (rw [e] at q; first | exact u q.1 | exact v q.1 | exact w q.1))]
  exact a1 l j u v w
/-- the ins lie elsewhere -/
def uI (M : xm) (N : Int) : Prop := ∀ m : Int, 0 ≤ m → m < N → ¬ mR M (uA m.toNat) 5 = aLine ∧ ¬ mR M (uA m.toNat) 5 = aSteps
theorem rkG.u {M0 M : xm} {C : Nat → Nat → Int} {N : Int} (h : rkG M0 M) (g : uC M0 C N) (hI : uI M0 N) : uC M C N ∧ uI M N := by
  obtain ⟨g1, g2, g3, g4, g5, g6, g7⟩ := g
  obtain ⟨a1, a2, a3, a4, a5, a6⟩ := h
  refine ⟨⟨by rw [a3]; exact g1, by rw [a1 _ _ (by decide) (by decide) (by decide)]; exact g2, a6, fun m x y => ?_, g5, g6, g7⟩, fun m x y => by rw [a3]; exact hI m x y⟩
  obtain ⟨u1, u2, u3⟩ := g4 m x y
  obtain ⟨i1, i2⟩ := hI m x y
  have n1 : ∀ L, tg L = 32 ∨ tg L = 34 → ¬ uA m.toNat = L := fun L t q => by rw [← q, TGf.1] at t; omega
  refine ⟨by rw [a3]; exact u1, by rw [a1 _ _ (n1 _ (by decide)) (n1 _ (by decide)) (n1 _ (by decide))]; exact u2, fun i p q => ?_⟩
  rw [a3, a1 _ _ i1 (fun z => absurd u1.2.1 (by rw [z]; decide)) i2]
  exact u3 i p q
section UC
variable {M : xm} {C : Nat → Nat → Int} {N m : Int}
theorem d_inCount (h : uC M C N) (hm : 0 ≤ m ∧ m < N) (Q : Option xv → xm → Prop) : Wp qX8_inCount 0 [vR (uA m.toNat)] [] M Q ↔ Q (some (vI (nin (C amKd m.toNat)))) M := by
  have h1 := (h.2.2.2.1 m hm.1 hm.2).1
  have hz := tg_ne h1.2.1 (by decide)
  simp (disch := first | omega | (simp only [DT, DS, ne_eq, Nat.reduceEqDiff, not_false_eq_true]; done)) only [RX8_inCount, TGf, h1.2.1, h1.2.2, hz, BW, wr_id, OM, OE, PL, ↓reduceIte, TGs, bi_T, bi_F, bi_ff, Nat.reduceLeDiff, Nat.reduceLT, Nat.reduceAdd]
theorem d_cordOf (h : uC M C N) (hm : 0 ≤ m ∧ m < N) {i : Int} (hi : 0 ≤ i ∧ i < nin (C amKd m.toNat)) (Q : Option xv → xm → Prop) : Wp qX8_cordOf 0 [vR (uA m.toNat), vI i] [] M Q ↔ Q (some (vI (C amCo (3 * m + i).toNat - 1))) M := by
  have h1 := h.2.2.2.1 m hm.1 hm.2
  have hz := tg_ne h1.1.2.1 (by decide)
  have hb := nin_b (C amKd m.toNat)
  have e := h1.2.2 i hi.1 hi.2
  simp (disch := first | omega | (simp only [DT, DS, ne_eq, Nat.reduceEqDiff, not_false_eq_true]; done)) only [RX8_cordOf, RX8_hasIn, TGf, h1.1.2.1, h1.1.2.2, hz, e, BW, wr_id, OM, OE, PL, ↓reduceIte, TGs, bi_T, bi_F, bi_ff, Nat.reduceLeDiff, Nat.reduceLT, Nat.reduceAdd]
def rdi (C : Nat → Nat → Int) (L : List Int) (m : Int) (j : Int) : Bool := decide (C amCo (3 * m + j).toNat - 1 < 0) || L.contains (C amCo (3 * m + j).toNat - 1)
def acM (M : xm) (N : Int) (L : List Int) : Prop := ∀ o : Int, 0 ≤ o → o < N → mA M aActed o.toNat = if L.contains o = true then 1 else 0
theorem l_isReady (h : uC M C N) (hm : 0 ≤ m ∧ m < N) {L : List Int} (hL : acM M N L) (Q : Option xv → xm → Prop) : ∀ (d : Nat) (i : Int) (x3 : xv), i + d = nin (C amKd m.toNat) → 0 ≤ i → alB (rdi C L m) i.toNat = true → (Wp qX3_isReady 2 [vR aRack, vR (uA m.toNat), vI i, x3] [] M Q ↔ Q (some (vI (bi (alB (rdi C L m) 3 = true)))) M)
  | 0, i, x3, hd, h0, ha => by
    have q := d_inCount h hm
    have hb := nin_b (C amKd m.toNat)
    have e : alB (rdi C L m) 3 = true := by
      by_cases k5 : C amKd m.toNat = 5
      · have : nin (C amKd m.toNat) = 3 := by rw [k5]; rfl
        rw [show i.toNat = 3 by omega] at ha
        exact ha
      · have n2 : nin (C amKd m.toNat) = 2 := by unfold nin; rw [if_neg k5]
        rw [show i.toNat = 2 by omega] at ha
        have z := h.2.2.2.2.1 m hm.1 hm.2 k5
        show (alB (rdi C L m) 2 && rdi C L m ((2 : Nat) : Int)) = true
        rw [ha]
        show rdi C L m 2 = true
        unfold rdi
        rw [z]
        rfl
    rw [HX3_isReady_2, bi_t e]
    simp (disch := first | omega | (simp only [DT, DS, ne_eq, Nat.reduceEqDiff, not_false_eq_true]; done)) only [RX3_isReady, TGf, q, BW, wr_id, OM, OE, PL, ↓reduceIte, TGs, bi_T, bi_F, bi_ff, Nat.reduceLeDiff, Nat.reduceLT, Nat.reduceAdd]
  | d + 1, i, x3, hd, h0, ha => by
    have q := d_inCount h hm
    have hb := nin_b (C amKd m.toNat)
    have qc := d_cordOf h hm (i := i) (by omega)
    have kb := h.2.2.2.2.2.1 m i hm.1 hm.2 h0 (by omega)
    have eN := h.2.1
    have hR' : ∀ L k, wr (mA M L k) = mA M L k := h.2.2.1
    have ih := fun y3 => l_isReady h hm hL Q d (i + 1) y3 (by omega) (by omega)
    rw [show (i + 1).toNat = i.toNat + 1 by omega, alB, ha, show ((i.toNat : Nat) : Int) = i by omega, Bool.true_and] at ih
    rw [HX3_isReady_2]
    by_cases c1 : C amCo (3 * m + i).toNat - 1 < 0
    · have r : rdi C L m i = true := by unfold rdi; rw [decide_eq_true c1]; rfl
      simp (disch := first | omega | (simp only [DT, DS, ne_eq, Nat.reduceEqDiff, not_false_eq_true]; done)) only [RX3_isReady, TGf, q, qc, BW, wr_id, OM, OE, PL, ↓reduceIte, TGs, bi_T, bi_F, bi_ff, Nat.reduceLeDiff, Nat.reduceLT, Nat.reduceAdd]
      exact ih _ r
    · have ea := hL (C amCo (3 * m + i).toNat - 1) (by omega) (by omega)
      cases b : L.contains (C amCo (3 * m + i).toNat - 1)
      · rw [b, if_neg (by decide)] at ea
        have r : rdi C L m i = false := by unfold rdi; rw [decide_eq_false c1, b]; rfl
        have f1 : alB (rdi C L m) (i.toNat + 1) = false := by rw [alB, show ((i.toNat : Nat) : Int) = i by omega, r, Bool.and_false]
        have f2 := alB_f f1 (3 - (i.toNat + 1))
        rw [show i.toNat + 1 + (3 - (i.toNat + 1)) = 3 by omega] at f2
        rw [f2]
        simp (disch := first | omega | (simp only [DT, DS, ne_eq, Nat.reduceEqDiff, not_false_eq_true]; done)) only [RX3_isReady, TGf, q, qc, eN.1, h.1.2.2.1, ea, BW, wr_id, OM, OE, PL, ↓reduceIte, TGs, bi_T, bi_F, bi_ff, Nat.reduceLeDiff, Nat.reduceLT, Nat.reduceAdd]
      · rw [b, if_pos rfl] at ea
        have r : rdi C L m i = true := by unfold rdi; rw [b, Bool.or_true]
        simp (disch := first | omega | (simp only [DT, DS, ne_eq, Nat.reduceEqDiff, not_false_eq_true]; done)) only [RX3_isReady, TGf, q, qc, eN.1, h.1.2.2.1, ea, BW, wr_id, OM, OE, PL, ↓reduceIte, TGs, bi_T, bi_F, bi_ff, Nat.reduceLeDiff, Nat.reduceLT, Nat.reduceAdd]
        exact ih _ r
theorem l_least (h : uC M C N) {L : List Int} (hL : acM M N L) (Q : Option xv → xm → Prop) : ∀ (d : Nat) (k : Int), k + d = N → 0 ≤ k → (Wp qX3_leastReady 2 [vR aRack, vI k] [] M Q ↔ Q (some (vI (lrF C L d k))) M)
  | 0, k, hd, h0 => by
    have eN := h.2.1
    have hR' : ∀ L k, wr (mA M L k) = mA M L k := h.2.2.1
    obtain rfl : k = N := by omega
    rw [HX3_leastReady_2, lrF]
    simp (disch := first | omega | (simp only [DT, DS, ne_eq, Nat.reduceEqDiff, not_false_eq_true]; done)) only [RX3_leastReady, eN.1, BW, wr_id, OM, OE, PL, ↓reduceIte, TGs, bi_T, bi_F, bi_ff, Nat.reduceLeDiff, Nat.reduceLT, Nat.reduceAdd]
  | d + 1, k, hd, h0 => by
    have eN := h.2.1
    have hR' : ∀ L k, wr (mA M L k) = mA M L k := h.2.2.1
    have hm : 0 ≤ k ∧ k < N := by omega
    have hu := (h.2.2.2.1 k hm.1 hm.2).1.1
    have ea := hL k hm.1 hm.2
    have hb := nin_b (C amKd k.toNat)
    have ih := l_least h hL Q d (k + 1) (by omega) (by omega)
    have er : rdB C L k = (alB (rdi C L k) 3 && !(decide (k < 0) || L.contains k)) := by
      unfold rdB
      show _ = ((((true && rdi C L k ((0 : Nat) : Int)) && rdi C L k ((1 : Nat) : Int)) && rdi C L k ((2 : Nat) : Int)) && _)
      unfold rdi
      rw [Bool.true_and, show 3 * k + ((0 : Nat) : Int) = 3 * k by omega, show ((1 : Nat) : Int) = 1 from rfl, show ((2 : Nat) : Int) = 2 from rfl]
    rw [decide_eq_false (show ¬ k < 0 by omega), Bool.false_or] at er
    rw [HX3_leastReady_2, lrF, er]
    cases b : L.contains k
    · rw [b, if_neg (by decide)] at ea
      have qr : ∀ Q, Wp qX3_isReady 0 [vR aRack, vR (uA k.toNat), vX, vX] [] M Q ↔ Q (some (vI (bi (alB (rdi C L k) 3 = true)))) M := fun Q => by
        have g := l_isReady h hm hL Q (nin (C amKd k.toNat)).toNat 0 vX (by omega) (by omega) rfl
        simp (disch := first | omega | (simp only [DT, DS, ne_eq, Nat.reduceEqDiff, not_false_eq_true]; done)) only [RX3_isReady, BW, wr_id, OM, OE, PL, ↓reduceIte, TGs, bi_T, bi_F, bi_ff, Nat.reduceLeDiff, Nat.reduceLT, Nat.reduceAdd]
        exact g
      cases r : alB (rdi C L k) 3
      · simp only [r, bi_ff] at qr
        simp (disch := first | omega | (simp only [DT, DS, ne_eq, Nat.reduceEqDiff, not_false_eq_true]; done)) only [RX3_leastReady, eN.1, h.1.1, h.1.2.2.1, ea, hu, qr, TGf, Bool.false_and, Bool.false_eq_true, BW, wr_id, OM, OE, PL, ↓reduceIte, TGs, bi_T, bi_F, bi_ff, Nat.reduceLeDiff, Nat.reduceLT, Nat.reduceAdd]
        exact ih
      · simp only [r, bi_T] at qr
        simp (disch := first | omega | (simp only [DT, DS, ne_eq, Nat.reduceEqDiff, not_false_eq_true]; done)) only [RX3_leastReady, eN.1, h.1.1, h.1.2.2.1, ea, hu, qr, TGf, Bool.true_and, Bool.not_false, BW, wr_id, OM, OE, PL, ↓reduceIte, TGs, bi_T, bi_F, bi_ff, Nat.reduceLeDiff, Nat.reduceLT, Nat.reduceAdd]
    · rw [b, if_pos rfl] at ea
      simp (disch := first | omega | (simp only [DT, DS, ne_eq, Nat.reduceEqDiff, not_false_eq_true]; done)) only [RX3_leastReady, eN.1, h.1.1, h.1.2.2.1, ea, Bool.not_true, Bool.and_false, Bool.false_eq_true, BW, wr_id, OM, OE, PL, ↓reduceIte, TGs, bi_T, bi_F, bi_ff, Nat.reduceLeDiff, Nat.reduceLT, Nat.reduceAdd]
      exact ih
def lnM (M : xm) (L : List Int) : Prop := ∀ i, i < L.length → mA M aLine i = L.getD i 0
theorem lnM_a {M : xm} {L : List Int} (h : lnM M L) (x : Int) : lnM (wA M aLine L.length x) (L ++ [x]) := fun i hi => by
  rw [List.length_append] at hi
  have hi' : i < L.length + 1 := hi
  by_cases e : i = L.length
  · rw [e, wA_e, List.getD_eq_getElem?_getD, List.getElem?_append_right (Nat.le_refl _), Nat.sub_self]
    rfl
  · rw [wA_o _ _ (fun q => e q.2), List.getD_eq_getElem?_getD, List.getElem?_append_left (by omega), ← List.getD_eq_getElem?_getD]
    exact h i (by omega)
theorem acM_a {M : xm} {N : Int} {L : List Int} (h : acM M N L) {x : Int} (hx : 0 ≤ x) : acM (wA M aActed x.toNat 1) N (L ++ [x]) := fun o a b => by
  by_cases e : o = x
  · rw [e, wA_e, if_pos (by simp)]
  · rw [wA_o _ _ (fun q => by have := q.2; omega), h o a b]
    have e2 : (L ++ [x]).contains o = L.contains o := by simp [e]
    rw [e2]
theorem l_line2 {M0 : xm} (hu0 : uC M0 C N) (hI0 : uI M0 N) {rk : Int → Nat} (hrk : noLp C N rk) (Q : Option xv → xm → Prop) : ∀ (d : Nat) (L : List Int) (M : xm), (L.length : Int) + d = N → rkG M0 M → lnM M L → acM M N L → (∀ m : Int, 0 ≤ m → m < N → C amKd m.toNat = 6 → m ∈ L) → (∀ M', rkG M0 M' → lnM M' (orF C N d L) → Q none M') → Wp qX3_lineUp 64 [vR aRack, vI (dlL (C amKd) N.toNat).length, vI (L.length : Int)] [] M Q
  | 0, L, M, hd, hG, hL, hA, _, hg => by
    obtain ⟨hu, hI⟩ := hG.u hu0 hI0
    have hR' : ∀ L k, wr (mA M L k) = mA M L k := hu.2.2.1
    have eN := hu.2.1
    have g := hg M hG hL
    rw [HX3_lineUp_64]
    simp (disch := first | omega | (simp only [DT, DS, ne_eq, Nat.reduceEqDiff, not_false_eq_true]; done)) only [RX3_lineUp, eN.1, BW, wr_id, OM, OE, PL, ↓reduceIte, TGs, bi_T, bi_F, bi_ff, Nat.reduceLeDiff, Nat.reduceLT, Nat.reduceAdd]
    exact g
  | d + 1, L, M, hd, hG, hL, hA, hdl, hg => by
    obtain ⟨hu, hI⟩ := hG.u hu0 hI0
    have hR' : ∀ L k, wr (mA M L k) = mA M L k := hu.2.2.1
    have eN := hu.2.1
    have ex : ∃ m : Int, 0 ≤ m ∧ m < N ∧ ¬ m ∈ L := Classical.byContradiction (fun q => by
      have g := pgn N.toNat L (fun m a b => Classical.byContradiction (fun z => q ⟨m, a, by omega, z⟩))
      omega)
    obtain ⟨m, a, b, c⟩ := ex
    obtain ⟨m', a', b', c'⟩ := rd_ex hrk hdl (rk m) m (Nat.le_refl _) a b c
    obtain ⟨g1, g2, g3⟩ := lrF_ok (C := C) (L := L) N.toNat 0 ⟨m', a', by omega, c'⟩
    have ql : ∀ Q, Wp qX3_leastReady 0 [vR aRack, vX] [] M Q ↔ Q (some (vI (lrF C L N.toNat 0))) M := fun Q => by
      have g := l_least hu hA Q N.toNat 0 (by omega) (by omega)
      simp (disch := first | omega | (simp only [DT, DS, ne_eq, Nat.reduceEqDiff, not_false_eq_true]; done)) only [RX3_leastReady, BW, wr_id, OM, OE, PL, ↓reduceIte, TGs, bi_T, bi_F, bi_ff, Nat.reduceLeDiff, Nat.reduceLT, Nat.reduceAdd]
      exact g
    unfold orF at hg
    generalize lrF C L N.toNat 0 = x at *
    have hL2 : lnM (wA (wA M aActed x.toNat 1) aLine L.length x) (L ++ [x]) := lnM_a (fun i hi => by rw [wA_o _ _ (fun q => absurd q.1 (by decide))]; exact hL i hi) x
    have hA2 : acM (wA (wA M aActed x.toNat 1) aLine L.length x) N (L ++ [x]) := fun o p q => by rw [wA_o _ _ (fun z => absurd z.1 (by decide))]; exact acM_a hA g1 o p q
    have e : (L.length : Int) + 1 = ((L ++ [x]).length : Int) := by rw [List.length_append]; rfl
    have ih := l_line2 hu0 hI0 hrk Q d (L ++ [x]) _ (by rw [← e]; omega) ((hG.w (by simp) x.toNat (x := 1) (by decide)).w (by simp) L.length (wr_id (x := x) (by omega) (by omega))) hL2 hA2 (fun m a b c => List.mem_append.mpr (Or.inl (hdl m a b c))) hg
    rw [← e] at ih
    rw [HX3_lineUp_64]
    simp (disch := first | omega | (simp only [DT, DS, ne_eq, Nat.reduceEqDiff, not_false_eq_true]; done)) only [RX3_lineUp, RX3_placeNext, eN.1, ql, hu.1.2.1, hu.1.2.2.1, MM.2.2.1, Int.toNat_natCast, BW, wr_id, OM, OE, PL, ↓reduceIte, TGs, bi_T, bi_F, bi_ff, Nat.reduceLeDiff, Nat.reduceLT, Nat.reduceAdd]
    exact ih
theorem l_line1 {M0 : xm} (hu0 : uC M0 C N) (hI0 : uI M0 N) (Q : Option xv → xm → Prop) (hg : ∀ M, rkG M0 M → lnM M (dlL (C amKd) N.toNat) → acM M N (dlL (C amKd) N.toNat) → Wp qX3_lineUp 64 [vR aRack, vI (dlL (C amKd) N.toNat).length, vI (dlL (C amKd) N.toNat).length] [] M Q) : ∀ (d : Nat) (k : Int) (M : xm), k + d = N → 0 ≤ k → rkG M0 M → lnM M (dlL (C amKd) k.toNat) → acM M k (dlL (C amKd) k.toNat) → Wp qX3_lineUp 4 [vR aRack, vI ((dlL (C amKd) k.toNat).length : Int), vI k] [] M Q
  | 0, k, M, hd, h0, hG, hL, hA => by
    obtain ⟨hu, hI⟩ := hG.u hu0 hI0
    have hR' : ∀ L k, wr (mA M L k) = mA M L k := hu.2.2.1
    have eN := hu.2.1
    obtain rfl : k = N := by omega
    have g := hg M hG hL hA
    have hl := dlL_le (C amKd) k.toNat
    rw [HX3_lineUp_4]
    simp (disch := first | omega | (simp only [DT, DS, ne_eq, Nat.reduceEqDiff, not_false_eq_true]; done)) only [RX3_lineUp, eN.1, BW, wr_id, OM, OE, PL, ↓reduceIte, TGs, bi_T, bi_F, bi_ff, Nat.reduceLeDiff, Nat.reduceLT, Nat.reduceAdd]
    exact g
  | d + 1, k, M, hd, h0, hG, hL, hA => by
    obtain ⟨hu, hI⟩ := hG.u hu0 hI0
    have hR' : ∀ L k, wr (mA M L k) = mA M L k := hu.2.2.1
    have eN := hu.2.1
    have hm : 0 ≤ k ∧ k < N := by omega
    have hk := hu.2.2.2.1 k hm.1 hm.2
    have kb := hu.2.2.2.2.2.2 k.toNat
    have hl := dlL_le (C amKd) k.toNat
    have ih := fun M' => l_line1 hu0 hI0 Q hg d (k + 1) M' (by omega) (by omega)
    rw [show (k + 1).toNat = k.toNat + 1 by omega] at ih
    have nin' : ¬ k ∈ dlL (C amKd) k.toNat := fun q => by have := (dlL_mem _ _ _).mp q; omega
    rw [HX3_lineUp_4]
    by_cases c6 : C amKd k.toNat = 6
    · have e : dlL (C amKd) (k.toNat + 1) = dlL (C amKd) k.toNat ++ [k] := by
        rw [dlL, if_pos c6, show ((k.toNat : Nat) : Int) = k by omega]
      rw [e, List.length_append] at ih
      generalize hLL : dlL (C amKd) k.toNat = L at *
      have g := ih (wA (wA M aActed k.toNat 1) aLine L.length k) ((hG.w (by simp) k.toNat (x := 1) (by decide)).w (by simp) L.length (wr_id (x := k) (by omega) (by omega))) (lnM_a (fun i hi => by rw [wA_o _ _ (fun q => absurd q.1 (by decide))]; exact hL i hi) k) (fun o p q => by
        rw [wA_o _ _ (fun z => absurd z.1 (by decide))]
        by_cases z : o = k
        · rw [z, wA_e, if_pos (by simp)]
        · rw [wA_o _ _ (fun y => by have := y.2; omega), hA o p (by omega)]
          have e2 : (L ++ [k]).contains o = L.contains o := by simp [z]
          rw [e2])
      simp (disch := first | omega | (simp only [DT, DS, ne_eq, Nat.reduceEqDiff, not_false_eq_true]; done)) only [RX3_lineUp, eN.1, hk.1.1, hk.2.1, c6, TGf, hu.1.1, hu.1.2.1, hu.1.2.2.1, MM, DT, Int.toNat_natCast, BW, wr_id, OM, OE, PL, ↓reduceIte, TGs, bi_T, bi_F, bi_ff, Nat.reduceLeDiff, Nat.reduceLT, Nat.reduceAdd]
      exact g
    · have e : dlL (C amKd) (k.toNat + 1) = dlL (C amKd) k.toNat := by rw [dlL, if_neg c6]
      rw [e] at ih
      have g := ih (wA M aActed k.toNat 0) (hG.w (by simp) k.toNat (x := 0) (by decide)) (fun i hi => by rw [wA_o _ _ (fun q => absurd q.1 (by decide))]; exact hL i hi) (fun o p q => by
        by_cases z : o = k
        · rw [z, wA_e, if_neg (by rw [List.contains_iff_mem]; exact nin')]
        · rw [wA_o _ _ (fun y => by have := y.2; omega)]
          exact hA o p (by omega))
      simp (disch := first | omega | (simp only [DT, DS, ne_eq, Nat.reduceEqDiff, not_false_eq_true]; done)) only [RX3_lineUp, eN.1, hk.1.1, hk.2.1, c6, TGf, hu.1.1, hu.1.2.1, hu.1.2.2.1, MM, DT, BW, wr_id, OM, OE, PL, ↓reduceIte, TGs, bi_T, bi_F, bi_ff, Nat.reduceLeDiff, Nat.reduceLT, Nat.reduceAdd]
      exact g
theorem c_lineUp (hu : uC M C N) (hI : uI M N) {rk : Int → Nat} (hrk : noLp C N rk) (Q : Option xv → xm → Prop) (hg : ∀ M', rkG M M' → (∀ i : Nat, (i : Int) < N → mA M' aLine i = ofn C N i) → Q none M') : Wp qX3_lineUp 0 [vR aRack, vX, vX] [] M Q := by
  have hN := hu.2.1.2
  have hl := dlL_le (C amKd) N.toNat
  have hll := ordL_ok hrk hN.1
  have g := l_line1 hu hI Q (fun M1 g1 l1 a1 => l_line2 hu hI hrk Q (N.toNat - (dlL (C amKd) N.toNat).length) _ M1 (by omega) g1 l1 a1 (fun m a b c => (dlL_mem _ _ _).mpr ⟨a, by omega, c⟩) (fun M' g2 l2 => hg M' g2 (fun i hi => l2 i (by have : ((orF C N (N.toNat - (dlL (C amKd) N.toNat).length) (dlL (C amKd) N.toNat)).length : Int) = N := hll.1; omega)))) N.toNat 0 M (by omega) (by omega) (rkG.refl hu.2.2.1) (fun i hi => absurd hi (Nat.not_lt_zero i)) (fun o a b => by omega)
  simp (disch := first | omega | (simp only [DT, DS, ne_eq, Nat.reduceEqDiff, not_false_eq_true]; done)) only [RX3_lineUp, BW, wr_id, OM, OE, PL, ↓reduceIte, TGs, bi_T, bi_F, bi_ff, Nat.reduceLeDiff, Nat.reduceLT, Nat.reduceAdd]
  exact g
end UC
