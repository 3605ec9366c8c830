/-! 80.relx: of what the static part says nothing, more widely -/
def nonX (l : Nat) : Prop := tg l = 5 ∨ tg l = 6 ∨ tg l = 33 ∨ tg l = 1 ∨ tg l = 2 ∨ tg l = 34 ∨ tg l = 8 ∨ l = aMarks ∨ l = aLine ∨ l = aSteps ∨ l = amIn ∨ l = amOr ∨ l = amTr ∨ l = amFa ∨ l = amPr ∨ l = amPm ∨ l = amTn ∨ l = amTk ∨ l = amTl ∨ l = amTo ∨ l = aPSz ∨ l % 274877906944 = 32231133728
theorem nonX_u (i : Nat) : ¬ nonX (uA i) := by
  intro h
  unfold nonX at h
  rw [TGf.1 i] at h
  have e := DS.2.1 i
  rcases h with h | h | h | h | h | h | h | h | h | h | h | h | h | h | h | h | h | h | h | h | h | h <;> first | omega | (rw [h] at e; exact absurd e (by decide))
theorem nonX_k (i : Nat) : ¬ nonX (knA i) := by
  intro h
  have e : knA i % 274877906944 = 83764445408 := by unfold knA; omega
  have t : tg (knA i) = 32 := by unfold tg; omega
  unfold nonX at h
  rw [t] at h
  rcases h with h | h | h | h | h | h | h | h | h | h | h | h | h | h | h | h | h | h | h | h | h | h <;> first | omega | (rw [h] at e; exact absurd e (by decide))
theorem nonX_i {M : xm} {m : Int} (h : cU M m) : ¬ nonX (mR M (uA m.toNat) 5) := by
  intro g
  have t := h.i.1
  have e := h.2.2.1
  unfold nonX at g
  rw [t] at g
  split at e <;> rcases g with g | g | g | g | g | g | g | g | g | g | g | g | g | g | g | g | g | g | g | g | g | g <;> first | omega | (rw [g] at e; exact absurd e (by decide))
theorem cS_d {M M' : xm} {N : Int} (h : cS M N) (hR : inR M') (hr : ∀ l j, ¬ tg l = 5 → ¬ tg l = 33 → ¬ (tg l = 6 ∧ j = 0) → ¬ tg l = 35 → mR M' l j = mR M l j) (ha : ∀ l j, ¬ nonX l → (l = aM → j = 3) → mA M' l j = mA M l j) : cS M' N := by
  obtain ⟨p, ⟨s1, s2, s3, s4, s5, s6, s7⟩, ⟨n1, n2, n3⟩, u, z, c⟩ := h
  have rX : ∀ j, mR M' aX j = mR M aX j := fun j => hr _ _ (by decide) (by decide) (fun q => absurd q.1 (by decide)) (by decide)
  have rM : ∀ j, mR M' aM j = mR M aM j := fun j => hr _ _ (by decide) (by decide) (fun q => absurd q.1 (by decide)) (by decide)
  have rK : ∀ j, mR M' aRack j = mR M aRack j := fun j => hr _ _ (by decide) (by decide) (fun q => absurd q.1 (by decide)) (by decide)
  have rT : ∀ j, mR M' aTabs j = mR M aTabs j := fun j => hr _ _ (by decide) (by decide) (fun q => absurd q.1 (by decide)) (by decide)
  have rP : ∀ j, mR M' aPres j = mR M aPres j := fun j => hr _ _ (by decide) (by decide) (fun q => absurd q.1 (by decide)) (by decide)
  have rA : ∀ j, mR M' aTaks j = mR M aTaks j := fun j => hr _ _ (by decide) (by decide) (fun q => absurd q.1 (by decide)) (by decide)
  have rH : ∀ j, mR M' aHist j = mR M aHist j := fun j => hr _ _ (by decide) (by decide) (fun q => absurd q.1 (by decide)) (by decide)
  have rB : ∀ j, mR M' aBlok j = mR M aBlok j := fun j => hr _ _ (by decide) (by decide) (fun q => absurd q.1 (by decide)) (by decide)
  have rU : ∀ j, mR M' aUnits j = mR M aUnits j := fun j => hr _ _ (by decide) (by decide) (fun q => absurd q.1 (by decide)) (by decide)
  have r1 : ∀ j, mR M' aPlaces j = mR M aPlaces j := fun j => hr _ _ (by decide) (by decide) (fun q => absurd q.1 (by decide)) (by decide)
  have r2 : ∀ j, mR M' aPKn j = mR M aPKn j := fun j => hr _ _ (by decide) (by decide) (fun q => absurd q.1 (by decide)) (by decide)
  have ru : ∀ i j, mR M' (uA i) j = mR M (uA i) j := fun i j => by
    refine hr _ _ ?_ ?_ ?_ ?_ <;> simp [TGf]
  have rn : ∀ i, mR M' (nowA i) 7 = mR M (nowA i) 7 := fun i => by
    refine hr _ _ ?_ ?_ ?_ ?_ <;> simp [TGf]
  have rp : ∀ i, mR M' (psA i) 7 = mR M (psA i) 7 := fun i => by
    refine hr _ _ ?_ ?_ ?_ ?_ <;> simp [TGf]
  have ra : ∀ i j, mR M' (paA i) j = mR M (paA i) j := fun i j => by
    refine hr _ _ ?_ ?_ ?_ ?_ <;> simp [TGf]
  have aCo : ∀ j, mA M' amCo j = mA M amCo j := fun j => ha _ _ (by unfold nonX; decide) (fun q => absurd q (by decide))
  have aKd : ∀ j, mA M' amKd j = mA M amKd j := fun j => ha _ _ (by unfold nonX; decide) (fun q => absurd q (by decide))
  have aRk : ∀ j, mA M' amRk j = mA M amRk j := fun j => ha _ _ (by unfold nonX; decide) (fun q => absurd q (by decide))
  have aKn : ∀ j, mA M' amKn j = mA M amKn j := fun j => ha _ _ (by unfold nonX; decide) (fun q => absurd q (by decide))
  have aTm : ∀ j, mA M' amTm j = mA M amTm j := fun j => ha _ _ (by unfold nonX; decide) (fun q => absurd q (by decide))
  refine ⟨?_, ⟨?_, hR, fun j => by rw [aCo]; exact s3 j, fun j => by rw [aKd]; exact s4 j, fun j => by rw [aRk]; exact s5 j, fun j => by rw [aKn]; exact s6 j, fun j => by rw [aTm]; exact s7 j⟩, ⟨?_, ?_, n3⟩, fun m m0 m1 => ?_, fun m m0 m1 k5 => ?_, fun m i m0 m1 i0 i1 => ?_⟩
  · unfold cP at p ⊢
    simp only [rX, rK, rT, rP, rA, rH, rB, r1, r2]
    exact p
  · unfold mSt at s1 ⊢
    simp only [rM]
    exact s1
  · rw [ha _ _ (by unfold nonX; decide) (fun q => absurd q (by decide))]; exact n1
  · rw [ha _ _ (by unfold nonX; decide) (fun _ => rfl)]; exact n2
  · have g := u m m0 m1
    have gi := nonX_i g
    have g' := g
    unfold cU at g' ⊢
    simp only [rU, ru, rn, rp, ra, aKd, aRk, aKn, aCo, fun j => ha _ j gi (fun q => absurd g.i.1 (by rw [q]; decide)), fun j => ha _ j (nonX_u m.toNat) (fun q => absurd (TGf.1 m.toNat) (by rw [q]; decide)), fun j => ha _ j (nonX_k m.toNat) (fun q => absurd (TGf.2.2.1 m.toNat) (by rw [q]; decide))]
    exact g'
  · rw [aKd] at k5
    rw [aCo]
    exact z m m0 m1 k5
  · rw [aCo]
    exact c m i m0 m1 i0 i1
theorem cTb_d {M M' : xm} (h : cTb M) (ha : ∀ l j, ¬ nonX l → (l = aM → j = 3) → mA M' l j = mA M l j) : cTb M' := by
  have aTm : ∀ j, mA M' amTm j = mA M amTm j := fun j => ha _ _ (by unfold nonX; decide) (fun q => absurd q (by decide))
  have aTb : ∀ j, mA M' amTb j = mA M amTb j := fun j => ha _ _ (by unfold nonX; decide) (fun q => absurd q (by decide))
  have aLn : ∀ j, mA M' aLens j = mA M aLens j := fun j => ha _ _ (by unfold nonX; decide) (fun q => absurd q (by decide))
  have at' : ∀ i j, mA M' (tbA i) j = mA M (tbA i) j := fun i j => ha _ _ (by
    intro h
    have e : tbA i % 274877906944 = 70885835808 := by unfold tbA; omega
    have t : tg (tbA i) = 32 := by unfold tg; omega
    unfold nonX at h
    rw [t] at h
    rcases h with h | h | h | h | h | h | h | h | h | h | h | h | h | h | h | h | h | h | h | h | h | h <;> first | omega | (rw [h] at e; exact absurd e (by decide))) (fun q => absurd (show tg (tbA i) = 32 by unfold tg tbA; omega) (by rw [q]; decide))
  unfold cTb at h ⊢
  simp only [aTm, aTb, aLn, at']
  exact h
