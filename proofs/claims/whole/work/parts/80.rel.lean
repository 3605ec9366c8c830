/-! 80.rel: WHAT HOLDS OF BOTH, between calls -/
def ini : SS := (none, 0, 0, 0, 0, 0, 0, fun _ => none)
theorem ini_ok {t : Int} (ht : 0 ≤ t) : okS t ini := ⟨okO_n, Int.le_refl 0, ⟨by unfold mg; decide, by unfold mg; decide⟩, ⟨Int.le_refl 0, by decide⟩, ⟨Int.le_refl 0, by show (0 : Int) ≤ 16 * t; omega⟩, ⟨by decide, by decide⟩, fun _ _ _ => okO_n⟩
/-- states, now and before the latest blocks -/
def R3 (M : xm) (N c : Int) (A : Int → SS) (H : Int → Int → SS) : Prop := (mSl M 0 A ∧ cA M N (24 * c) A ∧ (∀ o, 0 ≤ o → o ≤ 23 → okS (24 * c) (A o)) ∧ ∀ o, N ≤ o → o ≤ 23 → A o = ini) ∧ (mA M aHist 0 = mA M aM 11 ∧ mA M aM 10 = mA M aM 11 ∧ mA M aHist 1 = mA M aM 12 ∧ mA M aHist 3 = mA M aM 11 % 9) ∧ (0 ≤ mA M aM 12 ∧ mA M aM 12 ≤ 8 ∧ mA M aM 12 ≤ mA M aM 11 ∧ mA M aM 11 ≤ c) ∧ ∀ j, 1 ≤ j → j ≤ mA M aM 12 → mSl M (1 + (mA M aM 11 - j) % 8) (H j) ∧ (∀ m, 0 ≤ m → m < N → cS1 M (psA (9 * m + (mA M aM 11 - j) % 9).toNat) (fedA (10 * m + 1 + (mA M aM 11 - j) % 9).toNat) (H j m)) ∧ (∀ o, 0 ≤ o → o ≤ 23 → okS (24 * c) (H j o)) ∧ ∀ o, N ≤ o → o ≤ 23 → H j o = ini
/-- takes -/
def R4 (M : xm) (T : Int) (TK : Int → Rw) : Prop := (mA M aM 22 = T ∧ mA M aM 0 = T ∧ mA M aTaks 0 = T ∧ 0 ≤ T ∧ T ≤ 40) ∧ (∀ k : Int, 0 ≤ k → k < T → mA M amTn k.toNat = k + 1) ∧ ∀ k : Int, 0 ≤ k → k < T → mTk M k (TK k) ∧ okR (TK k) ∧ cRw M (mR M aTRows k.toNat) (some (TK k))
/-- presets -/
def R5 (M : xm) (N : Int) : Prop := (∀ p : Int, 0 ≤ p → p ≤ 7 → mA M aPSz p.toNat = mA M amPm p.toNat - 1 ∧ mA M amPm p.toNat ≤ N + 1 ∧ ∀ j : Int, 0 ≤ j → j < 3 * (mA M amPm p.toNat - 1) → mA M (pkA p.toNat) j.toNat = mA M amPr (72 * p + j).toNat) ∧ (∀ j, -1000 ≤ mA M amPr j ∧ mA M amPr j ≤ 1000) ∧ ∀ j, 0 ≤ mA M amPm j ∧ mA M amPm j ≤ 25
/-- the latest block -/
def R6 (M : xm) : Prop := mA M aBlok 0 = mA M aM 16 ∧ (¬ mA M aM 16 = 0 → mA M aBlok 1 = mA M aM 17 ∧ mA M aBlok 2 = mA M aM 18) ∧ mA M aBlok 6 = mA M aM 15 ∧ (0 ≤ mA M aM 15 ∧ mA M aM 15 ≤ 48) ∧ ∀ i : Nat, (i : Int) < mA M aM 15 → mA M aMarks i = mA M amTr i
/-- how many there are -/
def R7 (M : xm) (N : Int) : Prop := ((mC M 42970644489 : Int) = N ∧ (mC M 83764445408 : Int) = N ∧ (mC M 83777028102 : Int) = N ∧ (mC M 83804291684 : Int) = N ∧ (mC M 83972063238 : Int) = 9 * N ∧ (mC M 65510834467 : Int) = 10 * N) ∧ (∀ m : Int, 0 ≤ m → m < N → alv M (mR M (uA m.toNat) 5)) ∧ ∀ m m' : Int, 0 ≤ m → m < N → 0 ≤ m' → m' < N → mR M (uA m.toNat) 5 = mR M (uA m'.toNat) 5 → m = m'
/-- room -/
def R8 (M : xm) (c : Int) : Prop := (mK M : Int) ≤ 100 + 48 * c ∧ (mS M : Int) ≤ 40000 + 480 * c
/-- cords and order -/
def R1 (M : xm) (N : Int) (rk : Int → Nat) : Prop := cS M N ∧ cTb M ∧ noLp (mA M) N rk ∧ (∀ j : Nat, 3 * N ≤ (j : Int) → mA M amCo j = 0 ∧ mA M amKn j = 0) ∧ ∀ i : Nat, (i : Int) < N → mA M aLine i = ofn (mA M) N i
def Rel (M : xm) (c : Int) : Prop := ∃ (N : Int) (A : Int → SS) (H : Int → Int → SS) (T : Int) (TK : Int → Rw) (rk : Int → Nat), R1 M N rk ∧ R3 M N c A H ∧ R4 M T TK ∧ R5 M N ∧ R6 M ∧ R7 M N ∧ R8 M c
section RC
variable {M M' : xm} {N c : Int}
theorem mS1_same {q : Int} {s : SS} (h : mS1 M q s) (h1 : ∀ j, mA M' amIn j = mA M amIn j) (h2 : ∀ j, mB M' amDb j = mB M amDb j) (hq : 0 ≤ q) : mS1 M' q s := mS1_c h hq (fun j _ _ => h1 j) (fun j _ _ => h2 j)
theorem R3_c {A : Int → SS} {H : Int → Int → SS} (h : R3 M N c A H) (hr : rowG M M') (h1 : ∀ j, mA M' amIn j = mA M amIn j) (h2 : ∀ j, mB M' amDb j = mB M amDb j) (h3 : ∀ l j, tg l = 6 → mA M' l j = mA M l j ∧ mB M' l j = mB M l j ∧ mR M' l j = mR M l j) (h4 : ∀ i j, mR M' (fedA i) j = mR M (fedA i) j) (h5 : ∀ j, j = 10 ∨ j = 11 ∨ j = 12 → mA M' aM j = mA M aM j) (h6 : ∀ j, mA M' aHist j = mA M aHist j) : R3 M' N c A H := by
  obtain ⟨⟨a1, a2, a3, a4⟩, b, d, e⟩ := h
  have s1 : ∀ S F s, tg S = 6 → (∃ i, F = fedA i) → cS1 M S F s → cS1 M' S F s := fun S F s t ⟨i, hi⟩ g => cS1_f hr g (fun j => (h3 S j t).1) (fun j => (h3 S j t).2.1) (h3 S 0 t).2.2 (fun j => by rw [hi]; exact h4 i j)
  have e11 := h5 11 (by omega)
  have e12 := h5 12 (by omega)
  have e10 := h5 10 (by omega)
  refine ⟨⟨mSl_e a1 (by omega) h1 h2, fun o x y => ⟨s1 _ _ _ (no_t _) ⟨_, rfl⟩ (a2 o x y).1, (a2 o x y).2⟩, a3, a4⟩, ?_, ?_, ?_⟩
  · rw [h6, h6, h6, e10, e11, e12]; exact b
  · rw [e11, e12]; exact d
  · rw [e11, e12]
    intro j x y
    obtain ⟨g1, g2, g3, g4⟩ := e j x y
    exact ⟨mSl_e g1 (by omega) h1 h2, fun m u v => s1 _ _ _ (ps_t _) ⟨_, rfl⟩ (g2 m u v), g3, g4⟩
theorem R3_m {A : Int → SS} {H : Int → Int → SS} {c' : Int} (h : R3 M N c A H) (hc : c ≤ c') : R3 M N c' A H := by
  obtain ⟨⟨a1, a2, a3, a4⟩, b, d, e⟩ := h
  refine ⟨⟨a1, fun o x y => ⟨(a2 o x y).1, okS_t (a2 o x y).2 (by omega)⟩, fun o x y => okS_t (a3 o x y) (by omega), a4⟩, b, by omega, fun j x y => ?_⟩
  obtain ⟨g1, g2, g3, g4⟩ := e j x y
  exact ⟨g1, g2, fun o u v => okS_t (g3 o u v) (by omega), g4⟩
theorem R4_c {T : Int} {TK : Int → Rw} (h : R4 M T TK) (hr : rowG M M') (h1 : mA M' aM 22 = mA M aM 22 ∧ mA M' aM 0 = mA M aM 0 ∧ mA M' aTaks 0 = mA M aTaks 0) (h2 : ∀ l j, l = amTn ∨ l = amTk ∨ l = amTl ∨ l = amTo → mA M' l j = mA M l j) (h3 : ∀ j, mB M' amTs j = mB M amTs j) (h4 : ∀ j, mR M' aTRows j = mR M aTRows j) : R4 M' T TK := by
  obtain ⟨a, b, d⟩ := h
  refine ⟨by rw [h1.1, h1.2.1, h1.2.2]; exact a, fun k x y => by rw [h2 _ _ (by simp)]; exact b k x y, fun k x y => ?_⟩
  obtain ⟨⟨g1, g2, g3, g4⟩, g5, g6⟩ := d k x y
  refine ⟨⟨?_, ?_, ?_, fun i u v => by rw [h3]; exact g4 i u v⟩, g5, by rw [h4]; exact cRw_f hr g6⟩
  · rw [h2 _ _ (by simp)]; exact g1
  · rw [h2 _ _ (by simp)]; exact g2
  · rw [h2 _ _ (by simp)]; exact g3
theorem R5_c (h : R5 M N) (h1 : ∀ l j, l = aPSz ∨ l = amPm ∨ l = amPr → mA M' l j = mA M l j) (h2 : ∀ i j, mA M' (pkA i) j = mA M (pkA i) j) : R5 M' N := by
  obtain ⟨a, b, d⟩ := h
  refine ⟨fun p x y => ?_, fun j => by rw [h1 _ _ (by simp)]; exact b j, fun j => by rw [h1 _ _ (by simp)]; exact d j⟩
  rw [h1 aPSz _ (by simp), h1 amPm _ (by simp)]
  obtain ⟨g1, g2, g3⟩ := a p x y
  exact ⟨g1, g2, fun j u v => by rw [h2, h1 amPr _ (by simp)]; exact g3 j u v⟩
theorem R6_c (h : R6 M) (h1 : ∀ j, mA M' aBlok j = mA M aBlok j) (h2 : ∀ j, j = 15 ∨ j = 16 ∨ j = 17 ∨ j = 18 → mA M' aM j = mA M aM j) (h3 : ∀ j, mA M' aMarks j = mA M aMarks j) (h4 : ∀ j, mA M' amTr j = mA M amTr j) : R6 M' := by
  unfold R6 at h ⊢
  simp only [h1, h2 15 (by omega), h2 16 (by omega), h2 17 (by omega), h2 18 (by omega), h3, h4]
  exact h
theorem R7_c (h : R7 M N) (h1 : ∀ k, mC M k ≤ mC M' k ∧ (¬ k % 64 = 5 → ¬ k % 64 = 33 → mC M' k = mC M k)) (h2 : ∀ i, mR M' (uA i) 5 = mR M (uA i) 5) : R7 M' N := by
  obtain ⟨a, b, d⟩ := h
  refine ⟨?_, fun m x y => ?_, fun m m' x y z w q => d m m' x y z w (by rw [h2, h2] at q; exact q)⟩
  · rw [(h1 _).2 (by decide) (by decide), (h1 _).2 (by decide) (by decide), (h1 _).2 (by decide) (by decide), (h1 _).2 (by decide) (by decide), (h1 _).2 (by decide) (by decide), (h1 _).2 (by decide) (by decide)]
    exact a
  · rw [h2]
    exact alv_m (fun k => (h1 k).1) (b m x y)
theorem R8_m {c' : Int} (h : R8 M c) (hc : c ≤ c') : R8 M c' := by
  obtain ⟨a, b⟩ := h
  exact ⟨by omega, by omega⟩
theorem R1_c {rk : Int → Nat} (h : R1 M N rk) (hR : inR M') (hr : ∀ l j, ¬ tg l = 5 → ¬ tg l = 33 → ¬ (tg l = 6 ∧ j = 0) → ¬ tg l = 35 → mR M' l j = mR M l j) (ha : ∀ l j, ¬ nonX l → (l = aM → j = 3) → mA M' l j = mA M l j) (hl : ∀ j, mA M' aLine j = mA M aLine j) : R1 M' N rk := by
  obtain ⟨a, b, d, e, f⟩ := h
  have aCo : ∀ j, mA M' amCo j = mA M amCo j := fun j => ha _ _ (by unfold nonX; decide) (fun q => absurd q (by decide))
  have aKd : ∀ j, mA M' amKd j = mA M amKd j := fun j => ha _ _ (by unfold nonX; decide) (fun q => absurd q (by decide))
  refine ⟨cS_d a hR hr ha, cTb_d b ha, fun m i x y z w => by rw [aCo, aKd, aKd]; exact d m i x y z w, fun j x => by rw [aCo, ha amKn j (by unfold nonX; decide) (fun q => absurd q (by decide))]; exact e j x, fun i x => ?_⟩
  rw [hl, f i x]
  unfold ofn
  rw [ordL_c aCo aKd]
/-- only what neither reads between calls is another -/
theorem Rel_c (h : Rel M c) (hR : inR M') (h1 : ∀ l j, ¬ l = amOr → ¬ l = amFa → ¬ l = aSteps → ¬ l = aActed → mA M' l j = mA M l j) (h2 : mB M' = mB M ∧ mR M' = mR M ∧ mC M' = mC M ∧ mK M' = mK M ∧ mS M' = mS M) : Rel M' c := by
  obtain ⟨N, A, H, T, TK, rk, r1, r3, r4, r5, r6, r7, r8⟩ := h
  obtain ⟨e1, e2, e3, e4, e5⟩ := h2
  have tx : ∀ l j, (∀ x, x = 32 ∨ x = 34 → ¬ tg l = x) → mA M' l j = mA M l j := fun l j t => h1 l j (fun q => t 32 (by omega) (by rw [q]; decide)) (fun q => t 32 (by omega) (by rw [q]; decide)) (fun q => t 32 (by omega) (by rw [q]; decide)) (fun q => t 34 (by omega) (by rw [q]; decide))
  have hrow : rowG M M' := ⟨fun k => by rw [e3]; exact Nat.le_refl _, fun l j _ t => ⟨tx l j (fun x hx => by rw [t]; omega), by rw [e2]⟩, fun _ _ _ _ _ => by rw [e1]⟩
  have fx : ∀ l j, ¬ (l = amOr ∨ l = amFa ∨ l = aSteps ∨ l = aActed) → mA M' l j = mA M l j := fun l j q => h1 l j (fun z => q (by simp [z])) (fun z => q (by simp [z])) (fun z => q (by simp [z])) (fun z => q (by simp [z]))
  refine ⟨N, A, H, T, TK, rk, R1_c r1 hR (fun l j _ _ _ _ => by rw [e2]) (fun l j q _ => fx l j (fun z => q (by unfold nonX; rcases z with z | z | z | z <;> simp [z, TGs]))) (fun j => fx _ _ (by decide)), R3_c r3 hrow (fun j => fx _ _ (by decide)) (fun j => by rw [e1]) (fun l j t => ⟨tx l j (fun x hx => by rw [t]; omega), by rw [e1], by rw [e2]⟩) (fun i j => by rw [e2]) (fun j _ => fx _ _ (by decide)) (fun j => fx _ _ (by decide)), R4_c r4 hrow ⟨fx _ _ (by decide), fx _ _ (by decide), fx _ _ (by decide)⟩ (fun l j q => fx l j (by rcases q with q | q | q | q <;> rw [q] <;> decide)) (fun j => by rw [e1]) (fun j => by rw [e2]), R5_c r5 (fun l j q => fx l j (by rcases q with q | q | q <;> rw [q] <;> decide)) (fun i j => fx _ _ (by
    intro z
    have e : pkA i % 274877906944 = 32231133728 := by unfold pkA; omega
    rcases z with z | z | z | z <;> (rw [z] at e; exact absurd e (by decide)))), R6_c r6 (fun j => fx _ _ (by decide)) (fun j _ => fx _ _ (by decide)) (fun j => fx _ _ (by decide)) (fun j => fx _ _ (by decide)), R7_c r7 (fun k => by rw [e3]; exact ⟨Nat.le_refl _, fun _ _ => rfl⟩) (fun i => by rw [e2]), ?_⟩
  unfold R8 at r8 ⊢
  rw [e4, e5]
  exact r8
theorem Rel_m {c' : Int} (h : Rel M c) (hc : c ≤ c') : Rel M c' := by
  obtain ⟨N, A, H, T, TK, rk, r1, r3, r4, r5, r6, r7, r8⟩ := h
  exact ⟨N, A, H, T, TK, rk, r1, R3_m r3 hc, r4, r5, r6, r7, R8_m r8 hc⟩
end RC
