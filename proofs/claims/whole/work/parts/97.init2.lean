/-! 97.init2: both as they begin: their memory -/
def z1 : xm := nw Z0 10 0 44031 6
def z2 : xm := wR (iRack (nw z1 4 0 43525 5) aRack) aX 0 aRack
def z3 : xm := wR (m8 (nwR (grR (nw z2 7 0 43536 2) 16 33801 aTabs 0) 32 8 33811 8 aTabs 1) aLens 8) aX 1 aTabs
def z4 : xm := wR (m8 (nwR (grR (nw z3 3 0 43547 2) 72 15369 aPres 0) 32 8 15379 8 aPres 1) aPSz 8) aX 2 aPres
def z5 : xm := wR (nwR (nw z4 8 0 43558 2) 35 40 37895 40 aTaks 1) aX 3 aTaks
def z6 : xm := wR (wR (nw z5 2 0 43569 4) aHist 2 aRack) aX 4 aHist
def z7 : xm := wR (wR (wR (nwR (nw z6 1 0 43584 8) 32 48 7 48 aBlok 5) aBlok 3 aRack) aBlok 4 aTabs) aX 5 aBlok
def z8 : xm := nw z7 11 0 55295 31
def iMod (M : xm) (L : Nat) : xm := nwR (nwR (nwR (nwR (nwR (nwR (nwR (nwR (nwR (nwR (nwR (nwR (nwR (nwR (nwR (nwR (nwR (nwR (nwR M 33 19680 54792 19680 L 1) 32 4800 54801 4800 L 2) 32 24 54809 24 L 4) 32 24 54817 24 L 5) 32 72 54825 72 L 6) 32 72 54833 72 L 7) 32 128 54842 128 L 8) 32 8 54850 8 L 9) 32 24 54858 24 L 13) 32 48 54866 48 L 14) 32 576 54875 576 L 20) 32 8 54883 8 L 21) 32 40 54891 40 L 23) 32 40 54899 40 L 24) 32 40 54907 40 L 25) 32 40 54915 40 L 26) 33 640 54924 640 L 27) 33 16 54932 16 L 29) 32 24 54940 24 L 30
def z9 : xm := iMod z8 aM
theorem c_init10 {M : xm} {L : Nat} (t : tg L = 11) (Q : Option xv → xm → Prop) : Wp qX10_init 0 [vR L] [] M Q ↔ Q none (iMod M L) := by
  have hz := tg_ne t (by decide)
  simp (disch := first | omega | (simp only [DT, DS, ne_eq, Nat.reduceEqDiff, not_false_eq_true]; done)) only [RX10_init, t, hz, Int.reduceToNat, BW, wr_id, OM, OE, PL, ↓reduceIte, TGs, bi_T, bi_F, bi_ff, Nat.reduceLeDiff, Nat.reduceLT, Nat.reduceAdd]
  rfl
theorem za_1 : na Z0 10 0 44031 = aX := by decide +kernel
theorem za_2 : na z1 4 0 43525 = aRack := by decide +kernel
theorem za_3 : na z2 7 0 43536 = aTabs ∧ na (grR (nw z2 7 0 43536 2) 16 33801 aTabs 0) 32 8 33811 = aLens := by decide +kernel
theorem za_4 : na z3 3 0 43547 = aPres ∧ na (grR (nw z3 3 0 43547 2) 72 15369 aPres 0) 32 8 15379 = aPSz := by decide +kernel
theorem za_5 : na z4 8 0 43558 = aTaks := by decide +kernel
theorem za_6 : na z5 2 0 43569 = aHist ∧ mR (nw z5 2 0 43569 4) aX 0 = aRack := by decide +kernel
theorem za_7 : na z6 1 0 43584 = aBlok ∧ mR (nw z6 1 0 43584 8) aX 0 = aRack ∧ mR (nw z6 1 0 43584 8) aX 1 = aTabs := by decide +kernel
theorem za_8 : na z7 11 0 55295 = aM := by decide +kernel
theorem zf_2 : wR (iRack (nw z1 4 0 43525 5) aRack) aX 0 aRack = z2 := rfl
theorem zf_3 : wR (m8 (nwR (grR (nw z2 7 0 43536 2) 16 33801 aTabs 0) 32 8 33811 8 aTabs 1) aLens 8) aX 1 aTabs = z3 := rfl
theorem zf_4 : wR (m8 (nwR (grR (nw z3 3 0 43547 2) 72 15369 aPres 0) 32 8 15379 8 aPres 1) aPSz 8) aX 2 aPres = z4 := rfl
theorem zf_5 : wR (nwR (nw z4 8 0 43558 2) 35 40 37895 40 aTaks 1) aX 3 aTaks = z5 := rfl
theorem zf_6 : wR (wR (nw z5 2 0 43569 4) aHist 2 aRack) aX 4 aHist = z6 := rfl
theorem zf_7 : wR (wR (wR (nwR (nw z6 1 0 43584 8) 32 48 7 48 aBlok 5) aBlok 3 aRack) aBlok 4 aTabs) aX 5 aBlok = z7 := rfl
theorem c_init9 (Q : Option xv → xm → Prop) : Wp qX9_init 0 [vR aX] [] z1 Q ↔ Q none z7 := by
  have i3 := fun M Q => c_init3 (M := M) (L := aRack) (by decide) Q
  have i6 := fun Q => c_init6 (M := nw z2 7 0 43536 2) (L := aTabs) (V := aLens) (by decide) (by decide) za_3.2 Q
  have i2 := fun Q => c_init2 (M := nw z3 3 0 43547 2) (L := aPres) (V := aPSz) (by decide) (by decide) za_4.2 Q
  have i7 := fun M Q => c_init7 (M := M) (L := aTaks) (by decide) Q
  have i1 := fun M Q => c_init1 (M := M) (L := aHist) (R := aRack) (by decide) (by decide) Q
  have i0 := fun M Q => c_init0 (M := M) (L := aBlok) (R := aRack) (T := aTabs) (by decide) (by decide) (by decide) Q
  simp (disch := first | omega | decide) only [RX9_init, BW, ↓reduceIte, TGs, i3, i6, i2, i7, i1, i0, za_2, za_3, za_4, za_5, za_6, za_7, zf_2, zf_3, zf_4, zf_5, zf_6, zf_7, Nat.reduceLeDiff, Nat.reduceLT, Nat.reduceAdd, OM, OE, PL]
  exact ⟨fun h => h.2, fun h => ⟨by decide, h⟩⟩
