/-! 66.cdef: the developers' own: where its things lie, what is kept of rows and modules -/
def alv (M : xm) (L : Nat) : Prop := L / 274877906944 < mC M (L % 274877906944)
/-- an array of samples, n long -/
def isV (V n : Nat) : Prop := n ≤ 16 ∧ V % 274877906944 = 33 + 64 * (n + 32768 * 25616)
theorem isV.t {V n : Nat} (h : isV V n) (hn : n ≤ 16) : tg V = 33 ∧ ln V = n := by
  unfold isV at h
  unfold tg ln
  omega
/-- a row where it lies -/
def cRw (M : xm) (L : Nat) : Option Rw → Prop
  | none => L = 0
  | some w => (alv M L ∧ tg L = 5) ∧ (mA M L 0 = rwK w ∧ mA M L 1 = rwL w ∧ mA M L 3 = rwN w) ∧ (alv M (mR M L 2) ∧ isV (mR M L 2) (rwL w).toNat) ∧ ∀ i, 0 ≤ i → i < rwL w → mB M (mR M L 2) i.toNat = rwV w i
theorem cRw.g {M : xm} {L : Nat} {x : Option Rw} (h : cRw M L x) : L = 0 ∨ tg L = 5 := by
  cases x with
  | none => exact Or.inl h
  | some w => exact Or.inr h.1.2
/-- rows stay where they are -/
def rowG (M0 M : xm) : Prop := (∀ k, mC M0 k ≤ mC M k) ∧ (∀ L j, alv M0 L → tg L = 5 → mA M L j = mA M0 L j ∧ mR M L j = mR M0 L j) ∧ ∀ V j n, alv M0 V → isV V n → mB M V j = mB M0 V j
theorem rowG.refl (M : xm) : rowG M M := ⟨fun _ => Nat.le_refl _, fun _ _ _ _ => ⟨rfl, rfl⟩, fun _ _ _ _ _ => rfl⟩
theorem alv_m {M0 M : xm} (h : ∀ k, mC M0 k ≤ mC M k) {L : Nat} (g : alv M0 L) : alv M L := Nat.lt_of_lt_of_le g (h _)
theorem rowG.trans {M0 M1 M2 : xm} (h : rowG M0 M1) (g : rowG M1 M2) : rowG M0 M2 := by
  obtain ⟨a1, a2, a3⟩ := h
  obtain ⟨b1, b2, b3⟩ := g
  exact ⟨fun k => Nat.le_trans (a1 k) (b1 k), fun L j x y => ⟨(b2 L j (alv_m a1 x) y).1.trans (a2 L j x y).1, (b2 L j (alv_m a1 x) y).2.trans (a2 L j x y).2⟩, fun V j n x y => (b3 V j n (alv_m a1 x) y).trans (a3 V j n x y)⟩
theorem cRw_f {M0 M : xm} (h : rowG M0 M) {L : Nat} {x : Option Rw} (g : cRw M0 L x) : cRw M L x := by
  obtain ⟨a1, a2, a3⟩ := h
  cases x with
  | none => exact g
  | some w =>
    obtain ⟨⟨g1, g2⟩, ⟨g3, g4, g5⟩, ⟨g6, g7⟩, g8⟩ := g
    have e := (a2 L 2 g1 g2).2
    refine ⟨⟨alv_m a1 g1, g2⟩, ⟨?_, ?_, ?_⟩, ⟨?_, ?_⟩, fun i x y => ?_⟩
    · rw [(a2 L 0 g1 g2).1]; exact g3
    · rw [(a2 L 1 g1 g2).1]; exact g4
    · rw [(a2 L 3 g1 g2).1]; exact g5
    · rw [e]; exact alv_m a1 g6
    · rw [e]; exact g7
    · rw [e, a3 _ _ _ g6 g7]; exact g8 i x y
/-- a module's state where it lies: S, and F of what it was fed -/
def cS1 (M : xm) (S F : Nat) (s : SS) : Prop := cRw M (mR M S 0) (sR s) ∧ (mA M S 1 = sP s ∧ mB M S 2 = sK s ∧ mB M S 3 = sO s ∧ mA M S 4 = sU s ∧ mA M S 5 = sN s ∧ mA M S 6 = sB s) ∧ ∀ j, 1 ≤ j → j ≤ 4 → cRw M (mR M F (j - 1).toNat) (sF s j)
theorem cS1_f {M0 M : xm} (h : rowG M0 M) {S F : Nat} {s : SS} (g : cS1 M0 S F s) (h1 : ∀ j, mA M S j = mA M0 S j) (h2 : ∀ j, mB M S j = mB M0 S j) (h3 : mR M S 0 = mR M0 S 0) (h4 : ∀ j, mR M F j = mR M0 F j) : cS1 M S F s := by
  obtain ⟨g1, ⟨g2, g3, g4, g5, g6, g7⟩, g8⟩ := g
  refine ⟨?_, ⟨?_, ?_, ?_, ?_, ?_, ?_⟩, fun j a b => ?_⟩
  · rw [h3]; exact cRw_f h g1
  · rw [h1]; exact g2
  · rw [h2]; exact g3
  · rw [h2]; exact g4
  · rw [h1]; exact g5
  · rw [h1]; exact g6
  · rw [h1]; exact g7
  · rw [h4]; exact cRw_f h (g8 j a b)
/-- its pointers -/
def cP (M : xm) : Prop := mR M aX 0 = aRack ∧ mR M aX 1 = aTabs ∧ mR M aX 2 = aPres ∧ mR M aX 3 = aTaks ∧ mR M aX 4 = aHist ∧ mR M aX 5 = aBlok ∧ mR M aRack 1 = aUnits ∧ mR M aRack 2 = aLine ∧ mR M aRack 3 = aActed ∧ mR M aRack 4 = aSteps ∧ mR M aTabs 0 = aPlaces ∧ mR M aTabs 1 = aLens ∧ mR M aPres 0 = aPKn ∧ mR M aPres 1 = aPSz ∧ mR M aTaks 1 = aTRows ∧ mR M aHist 2 = aRack ∧ mR M aBlok 3 = aRack ∧ mR M aBlok 4 = aTabs ∧ mR M aBlok 5 = aMarks ∧ (∀ t : Nat, t < 8 → mR M aPlaces t = tbA t) ∧ ∀ p : Nat, p < 8 → mR M aPKn p = pkA p
theorem cP.e {M : xm} (h : cP M) : mR M aX 0 = aRack ∧ mR M aX 1 = aTabs ∧ mR M aX 2 = aPres ∧ mR M aX 3 = aTaks ∧ mR M aX 4 = aHist ∧ mR M aX 5 = aBlok ∧ mR M aRack 1 = aUnits ∧ mR M aRack 2 = aLine ∧ mR M aRack 3 = aActed ∧ mR M aRack 4 = aSteps ∧ mR M aTabs 0 = aPlaces ∧ mR M aTabs 1 = aLens ∧ mR M aPres 0 = aPKn ∧ mR M aPres 1 = aPSz ∧ mR M aTaks 1 = aTRows ∧ mR M aHist 2 = aRack ∧ mR M aBlok 3 = aRack ∧ mR M aBlok 4 = aTabs ∧ mR M aBlok 5 = aMarks ∧ (∀ t : Nat, t < 8 → mR M aPlaces t = tbA t) ∧ ∀ p : Nat, p < 8 → mR M aPKn p = pkA p := h
def nin (kd : Int) : Int := if kd = 5 then 3 else 2
theorem nin_b (kd : Int) : 2 ≤ nin kd ∧ nin kd ≤ 3 := by unfold nin; split <;> omega
/-- module m: its pointers, and what it has in common with the reference's -/
def cU (M : xm) (m : Int) : Prop := (mR M aUnits m.toNat = uA m.toNat ∧ mR M (uA m.toNat) 3 = knA m.toNat ∧ mR M (uA m.toNat) 4 = nowA m.toNat ∧ mR M (uA m.toNat) 6 = paA m.toNat ∧ mR M (nowA m.toNat) 7 = fedA (10 * m).toNat) ∧
  (∀ s : Int, 0 ≤ s → s < 9 → mR M (paA m.toNat) s.toNat = psA (9 * m + s).toNat ∧ mR M (psA (9 * m + s).toNat) 7 = fedA (10 * m + 1 + s).toNat) ∧
  (mR M (uA m.toNat) 5 % 274877906944 = if mA M amKd m.toNat = 5 then 83871400160 else 83871400096) ∧
  (mA M (uA m.toNat) 0 = m ∧ mA M (uA m.toNat) 1 = mA M amKd m.toNat ∧ mA M (uA m.toNat) 2 = mA M amRk m.toNat) ∧
  (∀ k : Int, 0 ≤ k → k ≤ 2 → mA M (knA m.toNat) k.toNat = mA M amKn (3 * m + k).toNat) ∧
  (∀ i : Int, 0 ≤ i → i < nin (mA M amKd m.toNat) → mA M (mR M (uA m.toNat) 5) i.toNat = mA M amCo (3 * m + i).toNat - 1)
theorem cU.i {M : xm} {m : Int} (h : cU M m) : tg (mR M (uA m.toNat) 5) = 32 ∧ (ln (mR M (uA m.toNat) 5) : Int) = nin (mA M amKd m.toNat) := by
  have g := h.2.2.1
  unfold nin tg ln
  split at g
  · rw [if_pos (by assumption)]
    omega
  · rw [if_neg (by assumption)]
    omega
/-- all of that: N modules -/
def cS (M : xm) (N : Int) : Prop := cP M ∧ mCg M ∧ (mA M aRack 0 = N ∧ mA M aM 3 = N ∧ 0 ≤ N ∧ N ≤ 24) ∧ (∀ m, 0 ≤ m → m < N → cU M m) ∧ (∀ m, 0 ≤ m → m < N → ¬ mA M amKd m.toNat = 5 → mA M amCo (3 * m + 2).toNat = 0) ∧ ∀ m i, 0 ≤ m → m < N → 0 ≤ i → i ≤ 2 → mA M amCo (3 * m + i).toNat ≤ N
theorem cS.r {M : xm} {N : Int} (h : cS M N) : ∀ L k, wr (mA M L k) = mA M L k := h.2.1.2.1
section C1
variable {M : xm} {N : Int}
theorem c_hasIn {m : Int} (h : cU M m) (hR : inR M) (i : Int) (hi : -2147483648 ≤ i ∧ i ≤ 2147483647) (Q : Option xv → xm → Prop) : Wp qX8_hasIn 0 [vR (uA m.toNat), vI i] [] M Q ↔ Q (some (vI (bi (0 ≤ i ∧ i < nin (mA M amKd m.toNat))))) M := by
  have h1 := h.i
  have hb := nin_b (mA M amKd m.toNat)
  have hz := tg_ne h1.1 (by decide)
  by_cases c1 : i < 0
  · rw [bi_f (by omega)]
    simp (disch := first | omega | (simp only [DT, DS, ne_eq, Nat.reduceEqDiff, not_false_eq_true]; done)) only [RX8_hasIn, TGf, BW, wr_id, OM, OE, PL, ↓reduceIte, TGs, bi_T, bi_F, bi_ff, Nat.reduceLeDiff, Nat.reduceLT, Nat.reduceAdd]
  · by_cases c2 : i < nin (mA M amKd m.toNat)
    · rw [bi_t (by omega)]
      simp (disch := first | omega | (simp only [DT, DS, ne_eq, Nat.reduceEqDiff, not_false_eq_true]; done)) only [RX8_hasIn, TGf, h1.1, h1.2, hz, BW, wr_id, OM, OE, PL, ↓reduceIte, TGs, bi_T, bi_F, bi_ff, Nat.reduceLeDiff, Nat.reduceLT, Nat.reduceAdd]
    · rw [bi_f (by omega)]
      simp (disch := first | omega | (simp only [DT, DS, ne_eq, Nat.reduceEqDiff, not_false_eq_true]; done)) only [RX8_hasIn, TGf, h1.1, h1.2, hz, BW, wr_id, OM, OE, PL, ↓reduceIte, TGs, bi_T, bi_F, bi_ff, Nat.reduceLeDiff, Nat.reduceLT, Nat.reduceAdd]
theorem c_inCount {m : Int} (h : cU M m) (Q : Option xv → xm → Prop) : Wp qX8_inCount 0 [vR (uA m.toNat)] [] M Q ↔ Q (some (vI (nin (mA M amKd m.toNat)))) M := by
  have h1 := h.i
  have hz := tg_ne h1.1 (by decide)
  simp (disch := first | omega | (simp only [DT, DS, ne_eq, Nat.reduceEqDiff, not_false_eq_true]; done)) only [RX8_inCount, TGf, h1.1, h1.2, hz, BW, wr_id, OM, OE, PL, ↓reduceIte, TGs, bi_T, bi_F, bi_ff, Nat.reduceLeDiff, Nat.reduceLT, Nat.reduceAdd]
/-- what the cord at an in says, from 0 on (-1 nowhere) -/
theorem c_cordOf (h : cS M N) {m i : Int} (hm : 0 ≤ m ∧ m < N) (hi : 0 ≤ i ∧ i ≤ 2) (Q : Option xv → xm → Prop) : Wp qX8_cordOf 0 [vR (uA m.toNat), vI i] [] M Q ↔ Q (some (vI (mA M amCo (3 * m + i).toNat - 1))) M := by
  have hu := h.2.2.2.1 m hm.1 hm.2
  have h1 := hu.i
  have hb := nin_b (mA M amKd m.toNat)
  have q := c_hasIn hu h.2.1.2.1 i (by omega)
  have hR' := h.r
  by_cases c : i < nin (mA M amKd m.toNat)
  · have e := hu.2.2.2.2.2 i hi.1 c
    simp only [bi_t (show 0 ≤ i ∧ i < nin (mA M amKd m.toNat) by omega)] at q
    simp (disch := first | omega | (simp only [DT, DS, ne_eq, Nat.reduceEqDiff, not_false_eq_true]; done)) only [RX8_cordOf, TGf, q, h1.1, h1.2, e, BW, wr_id, OM, OE, PL, ↓reduceIte, TGs, bi_T, bi_F, bi_ff, Nat.reduceLeDiff, Nat.reduceLT, Nat.reduceAdd]
  · simp only [bi_f (show ¬ (0 ≤ i ∧ i < nin (mA M amKd m.toNat)) by omega)] at q
    have e : mA M amCo (3 * m + i).toNat = 0 := by
      have k5 : ¬ mA M amKd m.toNat = 5 := fun z => by
        unfold nin at c
        rw [if_pos z] at c
        omega
      have i2 : i = 2 := by
        unfold nin at c
        rw [if_neg k5] at c
        omega
      rw [i2]
      exact h.2.2.2.2.1 m hm.1 hm.2 k5
    rw [e]
    simp (disch := first | omega | (simp only [DT, DS, ne_eq, Nat.reduceEqDiff, not_false_eq_true]; done)) only [RX8_cordOf, TGf, q, Int.zero_sub, BW, wr_id, OM, OE, PL, ↓reduceIte, TGs, bi_T, bi_F, bi_ff, Nat.reduceLeDiff, Nat.reduceLT, Nat.reduceAdd]
theorem c_isFull (h : cS M N) (Q : Option xv → xm → Prop) : Wp qX3_isFull 0 [vR aRack] [] M Q ↔ Q (some (vI (bi (N = 24)))) M := by
  have e := h.2.2.1
  have hR' := h.r
  by_cases c : N = 24
  · rw [bi_t c]
    simp (disch := first | omega | (simp only [DT, DS, ne_eq, Nat.reduceEqDiff, not_false_eq_true]; done)) only [RX3_isFull, e.1, BW, wr_id, OM, OE, PL, ↓reduceIte, TGs, bi_T, bi_F, bi_ff, Nat.reduceLeDiff, Nat.reduceLT, Nat.reduceAdd]
  · rw [bi_f c]
    simp (disch := first | omega | (simp only [DT, DS, ne_eq, Nat.reduceEqDiff, not_false_eq_true]; done)) only [RX3_isFull, e.1, BW, wr_id, OM, OE, PL, ↓reduceIte, TGs, bi_T, bi_F, bi_ff, Nat.reduceLeDiff, Nat.reduceLT, Nat.reduceAdd]
def uR (N m : Int) : Nat := if 0 ≤ m ∧ m < N then uA m.toNat else 0
theorem c_at (h : cS M N) (m : Int) (hm : -2147483648 ≤ m ∧ m ≤ 2147483647) (Q : Option xv → xm → Prop) : Wp qX3_at 0 [vR aRack, vI m] [] M Q ↔ Q (some (vR (uR N m))) M := by
  have e := h.2.2.1
  have hR' := h.r
  unfold uR
  by_cases c1 : m < 0
  · rw [if_neg (by omega)]
    simp (disch := first | omega | (simp only [DT, DS, ne_eq, Nat.reduceEqDiff, not_false_eq_true]; done)) only [RX3_at, BW, wr_id, OM, OE, PL, ↓reduceIte, TGs, bi_T, bi_F, bi_ff, Nat.reduceLeDiff, Nat.reduceLT, Nat.reduceAdd]
  · by_cases c2 : m < N
    · rw [if_pos (by omega)]
      have hu := (h.2.2.2.1 m (by omega) c2).1.1
      simp (disch := first | omega | (simp only [DT, DS, ne_eq, Nat.reduceEqDiff, not_false_eq_true]; done)) only [RX3_at, e.1, cP.e h.1, hu, BW, wr_id, OM, OE, PL, ↓reduceIte, TGs, bi_T, bi_F, bi_ff, Nat.reduceLeDiff, Nat.reduceLT, Nat.reduceAdd]
    · rw [if_neg (by omega)]
      simp (disch := first | omega | (simp only [DT, DS, ne_eq, Nat.reduceEqDiff, not_false_eq_true]; done)) only [RX3_at, e.1, BW, wr_id, OM, OE, PL, ↓reduceIte, TGs, bi_T, bi_F, bi_ff, Nat.reduceLeDiff, Nat.reduceLT, Nat.reduceAdd]
def gR (M : xm) (N o : Int) : Nat := if 0 ≤ o ∧ o < N then mR M (nowA o.toNat) 0 else 0
theorem c_givenBy (h : cS M N) (m : Int) (hm : -2147483648 ≤ m ∧ m ≤ 2147483647) (Q : Option xv → xm → Prop) : Wp qX3_givenBy 0 [vR aRack, vI m] [] M Q ↔ Q (some (vR (gR M N m))) M := by
  have e := h.2.2.1
  have hR' := h.r
  unfold gR
  by_cases c1 : m < 0
  · rw [if_neg (by omega)]
    simp (disch := first | omega | (simp only [DT, DS, ne_eq, Nat.reduceEqDiff, not_false_eq_true]; done)) only [RX3_givenBy, BW, wr_id, OM, OE, PL, ↓reduceIte, TGs, bi_T, bi_F, bi_ff, Nat.reduceLeDiff, Nat.reduceLT, Nat.reduceAdd]
  · by_cases c2 : m < N
    · rw [if_pos (by omega)]
      have hu := (h.2.2.2.1 m (by omega) c2).1
      simp (disch := first | omega | (simp only [DT, DS, ne_eq, Nat.reduceEqDiff, not_false_eq_true]; done)) only [RX3_givenBy, e.1, cP.e h.1, hu.1, hu.2.2.1, TGf, BW, wr_id, OM, OE, PL, ↓reduceIte, TGs, bi_T, bi_F, bi_ff, Nat.reduceLeDiff, Nat.reduceLT, Nat.reduceAdd]
    · rw [if_neg (by omega)]
      simp (disch := first | omega | (simp only [DT, DS, ne_eq, Nat.reduceEqDiff, not_false_eq_true]; done)) only [RX3_givenBy, e.1, BW, wr_id, OM, OE, PL, ↓reduceIte, TGs, bi_T, bi_F, bi_ff, Nat.reduceLeDiff, Nat.reduceLT, Nat.reduceAdd]
theorem c_inLine (h : cS M N) (i : Int) (hi : -2147483648 ≤ i ∧ i ≤ 2147483647) (Q : Option xv → xm → Prop) : Wp qX3_inLine 0 [vR aRack, vI i] [] M Q ↔ Q (some (vI (if 0 ≤ i ∧ i < N then mA M aLine i.toNat else -1))) M := by
  have e := h.2.2.1
  have hR' := h.r
  by_cases c1 : i < 0
  · rw [if_neg (by omega)]
    simp (disch := first | omega | (simp only [DT, DS, ne_eq, Nat.reduceEqDiff, not_false_eq_true]; done)) only [RX3_inLine, BW, wr_id, OM, OE, PL, ↓reduceIte, TGs, bi_T, bi_F, bi_ff, Nat.reduceLeDiff, Nat.reduceLT, Nat.reduceAdd]
  · by_cases c2 : i < N
    · rw [if_pos (by omega)]
      simp (disch := first | omega | (simp only [DT, DS, ne_eq, Nat.reduceEqDiff, not_false_eq_true]; done)) only [RX3_inLine, e.1, cP.e h.1, BW, wr_id, OM, OE, PL, ↓reduceIte, TGs, bi_T, bi_F, bi_ff, Nat.reduceLeDiff, Nat.reduceLT, Nat.reduceAdd]
    · rw [if_neg (by omega)]
      simp (disch := first | omega | (simp only [DT, DS, ne_eq, Nat.reduceEqDiff, not_false_eq_true]; done)) only [RX3_inLine, e.1, BW, wr_id, OM, OE, PL, ↓reduceIte, TGs, bi_T, bi_F, bi_ff, Nat.reduceLeDiff, Nat.reduceLT, Nat.reduceAdd]
theorem c_rowAt (h : cS M N) {m i : Int} (hm : 0 ≤ m ∧ m < N) (hi : 0 ≤ i ∧ i ≤ 2) (Q : Option xv → xm → Prop) : Wp qX0_rowAt 0 [vR aBlok, vR (uA m.toNat), vI i] [] M Q ↔ Q (some (vR (gR M N (mA M amCo (3 * m + i).toNat - 1)))) M := by
  have hc := h.2.1.2.2.1 (3 * m + i).toNat
  simp (disch := first | omega | (simp only [DT, DS, ne_eq, Nat.reduceEqDiff, not_false_eq_true]; done)) only [RX0_rowAt, cP.e h.1, TGf, c_cordOf h hm hi, c_givenBy h, BW, wr_id, OM, OE, PL, ↓reduceIte, TGs, bi_T, bi_F, bi_ff, Nat.reduceLeDiff, Nat.reduceLT, Nat.reduceAdd]
theorem c_fail (h : cS M N) {f s : Int} (hf : wr f = f) (hs : wr s = s) (Q : Option xv → xm → Prop) : Wp qX0_fail 0 [vR aBlok, vI f, vI s] [] M Q ↔ Q (some (vR 0)) (wA (wA M aBlok 0 f) aBlok 2 s) := by
  simp (disch := first | omega | (simp only [DT, DS, ne_eq, Nat.reduceEqDiff, not_false_eq_true]; done)) only [RX0_fail, hf, hs, BW, wr_id, OM, OE, PL, ↓reduceIte, TGs, bi_T, bi_F, bi_ff, Nat.reduceLeDiff, Nat.reduceLT, Nat.reduceAdd]
end C1
