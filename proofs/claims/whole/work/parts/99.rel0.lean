/-! 99.rel0: WHAT HOLDS OF BOTH holds as they begin -/
theorem Rel_0 : Rel z9 0 := by
  obtain ⟨zA, zB, zR⟩ := zrA_9
  have a0 : ∀ l, ¬ l = aLens → ¬ l = aPSz → ∀ j, mA z9 l j = 0 := fun l x y j => zA l j x y
  have aC := a0 amCo (by decide) (by decide)
  have aK := a0 amKd (by decide) (by decide)
  have aR := a0 amRk (by decide) (by decide)
  have aN := a0 amKn (by decide) (by decide)
  have aT := a0 amTm (by decide) (by decide)
  have aB := a0 amTb (by decide) (by decide)
  have aI := a0 amIn (by decide) (by decide)
  have aP := a0 amPm (by decide) (by decide)
  have aQ := a0 amPr (by decide) (by decide)
  have aMM := a0 aM (by decide) (by decide)
  have aH := a0 aHist (by decide) (by decide)
  have aTk := a0 aTaks (by decide) (by decide)
  have aRa := a0 aRack (by decide) (by decide)
  have aBl := a0 aBlok (by decide) (by decide)
  have tb : ∀ i, ¬ tbA i = aLens ∧ ¬ tbA i = aPSz := fun i => by unfold tbA aLens aPSz; omega
  refine ⟨0, fun _ => ini, fun _ _ => ini, 0, fun _ => (0, 0, 0, fun _ => 0), fun _ => 0, ⟨⟨zp_P, ⟨zp_M, zR, fun j => ?_, fun j => ?_, fun j => ?_, fun j => ?_, fun j => ?_⟩, ⟨aRa 0, aMM 3, by decide, by decide⟩, fun m x y => by omega, fun m x y => by omega, fun m i x y => by omega⟩, ⟨fun t x y => ?_, fun t i x y _ _ => ?_⟩, fun m i x y => by omega, fun j _ => ⟨aC j, aN j⟩, fun i x => by omega⟩, ⟨⟨fun o x y => ?_, fun o x y => by omega, fun o x y => ini_ok (by omega), fun _ _ _ => rfl⟩, ?_, ?_, fun j x y => ?_⟩, ⟨⟨aMM 22, aMM 0, aTk 0, by decide, by decide⟩, fun k x y => by omega, fun k x y => by omega⟩, ⟨fun p x y => ⟨?_, ?_, fun j u v => ?_⟩, fun j => ?_, fun j => ?_⟩, ⟨?_, fun q => absurd (aMM 16) q, ?_, ?_, fun i x => ?_⟩, ⟨?_, fun m x y => by omega, fun m m' x y => by omega⟩, ?_⟩
  · rw [aC]; decide
  · rw [aK]; decide
  · rw [aR]; decide
  · rw [aN]; decide
  · rw [aT]; decide
  · rw [zp_L.1 _ (by omega), aT]; decide
  · rw [a0 _ (tb _).1 (tb _).2, aB]
  · refine ⟨?_, aI _, zB _ _, zB _ _, aI _, aI _, aI _, fun j _ _ => ?_⟩
    · exact aI _
    · exact aI _
  · rw [aH, aH, aH, aMM, aMM, aMM]; decide
  · rw [aMM, aMM]; decide
  · rw [aMM] at y; omega
  · rw [zp_L.2 _ (by omega), aP]; decide
  · rw [aP]; decide
  · rw [aP] at v; omega
  · rw [aQ]; decide
  · rw [aP]; decide
  · rw [aBl, aMM]
  · rw [aBl, aMM]
  · rw [aMM]; decide
  · rw [aMM] at x; omega
  · obtain ⟨⟨c1, c2, c3, c4, c5, c6⟩, _⟩ := zp_C
    rw [c1, c2, c3, c4, c5, c6]
    decide
  · obtain ⟨_, k1, k2⟩ := zp_C
    exact ⟨by omega, by omega⟩
/-- THE BEGINNING: both made -/
theorem t_init : Wp qX9_init 0 [vR aX] [] z1 (fun r M => r = none ∧ M = z7) ∧ Wp qX10_init 0 [vR aM] [] z8 (fun r M => r = none ∧ Rel M 0) := ⟨(c_init9 _).mpr ⟨rfl, rfl⟩, (c_init10 (L := aM) (by decide) _).mpr ⟨rfl, Rel_0⟩⟩
