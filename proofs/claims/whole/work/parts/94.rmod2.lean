/-! 94.rmod2: what holds of both holds with a module more -/
section MD
variable {M M0 M' : xm} {n I : Nat} {kd rk c : Int}
theorem md_row (h : mdG M M0 M' n kd rk I) : rowG M M' := by
  obtain ⟨t, _, fA, fB, fR, _, _, mo, _⟩ := h
  have hI := t.n
  refine ⟨fun k => Nat.le_trans (mo k) (t.2.2.2.2.1.2 k), fun L j _ t5 => ⟨?_, ?_⟩, fun V j m _ hv => ?_⟩
  · exact fA L j (nL_t hI (Or.inl t5)) (fun q => by rw [q] at t5; exact absurd t5 (by decide)) (fun q => by rw [q] at t5; exact absurd t5 (by decide)) (fun q => by rw [q] at t5; exact absurd t5 (by decide)) (fun q => by rw [q] at t5; exact absurd t5 (by decide)) (fun q => by rw [q] at t5; exact absurd t5 (by decide)) (fun q => by rw [q.1] at t5; exact absurd t5 (by decide)) (fun q => by rw [q.1] at t5; exact absurd t5 (by decide))
  · exact fR L j (nL_t hI (Or.inl t5)) (fun q => by rw [q] at t5; exact absurd t5 (by decide))
  · exact fB V j (nL_t hI (Or.inr (hv.t hv.1).1))
/-- cells that a new module leaves alone -/
theorem md_a (h : mdG M M0 M' n kd rk I) {l : Nat} (hk : kN (l % 274877906944)) (hl : ¬ l = aLine ∧ ¬ l = aActed ∧ ¬ l = aSteps ∧ ¬ l = amKd ∧ ¬ l = amRk ∧ ¬ l = aRack ∧ ¬ l = aM) (j : Nat) : mA M' l j = mA M l j := h.2.2.1 l j (nL_k h.1.n hk) hl.1 hl.2.1 hl.2.2.1 hl.2.2.2.1 hl.2.2.2.2.1 (fun q => hl.2.2.2.2.2.1 q.1) (fun q => hl.2.2.2.2.2.2 q.1)
theorem md_m (h : mdG M M0 M' n kd rk I) {j : Nat} (hj : ¬ j = 3) : mA M' aM j = mA M aM j := h.2.2.1 aM j (nL_k h.1.n (by unfold kN; decide)) (by decide) (by decide) (by decide) (by decide) (by decide) (fun q => absurd q.1 (by decide)) (fun q => hj q.2)
theorem md_r (h : mdG M M0 M' n kd rk I) {l : Nat} (hk : kN (l % 274877906944)) (hl : ¬ l = aUnits) (j : Nat) : mR M' l j = mR M l j := h.2.2.2.2.1 l j (nL_k h.1.n hk) hl
theorem md_b (h : mdG M M0 M' n kd rk I) {l : Nat} (hk : kN (l % 274877906944)) (j : Nat) : mB M' l j = mB M l j := h.2.2.2.1 l j (nL_k h.1.n hk)
theorem md_o (h : mdG M M0 M' n kd rk I) {l : Nat} (hn : ¬ nL n I l) (t : tg l = 9 ∨ tg l = 6 ∨ tg l = 35 ∨ tg l = 36) (j : Nat) : mA M' l j = mA M l j ∧ mB M' l j = mB M l j ∧ mR M' l j = mR M l j := by
  have ne : ∀ x, ¬ (tg x = 9 ∨ tg x = 6 ∨ tg x = 35 ∨ tg x = 36) → ¬ l = x := fun x q z => q (by rw [← z]; exact t)
  exact ⟨h.2.2.1 l j hn (ne _ (by decide)) (ne _ (by decide)) (ne _ (by decide)) (ne _ (by decide)) (ne _ (by decide)) (fun q => ne _ (by decide) q.1) (fun q => ne _ (by decide) q.1), h.2.2.2.1 l j hn, h.2.2.2.2.1 l j hn (ne _ (by decide))⟩
theorem zrS_1 {S F : Nat} (h : zrS M S F) : cS1 M S F ini := by
  obtain ⟨h1, h2, h3⟩ := h
  exact ⟨h2, ⟨(h1 1).1, (h1 2).2, (h1 3).2, (h1 4).1, (h1 5).1, (h1 6).1⟩, fun j _ _ => h3 _⟩
theorem md_R3 {A : Int → SS} {H : Int → Int → SS} (h : mdG M M0 M' n kd rk I) (hn : n ≤ 23) (r3 : R3 M n c A H) : R3 M' (n + 1) (c + 1) A H := by
  have hc := r3.2.2.1
  have r3 := R3_m r3 (show c ≤ c + 1 by omega)
  obtain ⟨⟨a1, a2, a3, a4⟩, b, d, e⟩ := r3
  have hr := md_row h
  have hI := h.1.n
  have hz := h.1.2.2.1
  have hp := h.1.2.2.2.1
  have i1 : ∀ j, mA M' amIn j = mA M amIn j := md_a h (by unfold kN; decide) (by decide)
  have i2 : ∀ j, mB M' amDb j = mB M amDb j := md_b h (by unfold kN; decide)
  have i3 : ∀ j, mA M' aHist j = mA M aHist j := md_a h (by unfold kN; decide) (by decide)
  have e10 := md_m h (j := 10) (by decide)
  have e11 := md_m h (j := 11) (by decide)
  have e12 := md_m h (j := 12) (by decide)
  refine ⟨⟨mSl_e a1 (by omega) i1 i2, fun o x y => ?_, a3, fun o x y => a4 o (by omega) y⟩, ?_, ?_, ?_⟩
  · by_cases z : o < n
    · obtain ⟨g1, g2⟩ := a2 o x z
      have q1 := md_o h (nL_u hI (i := o.toNat) (by omega)).2.2.1 (Or.inr (Or.inl (no_t _)))
      have q2 := md_o h (nL_f hI (i := (10 * o).toNat) (by omega)) (Or.inr (Or.inr (Or.inl (fe_t _))))
      exact ⟨cS1_f hr g1 (fun j => (q1 j).1) (fun j => (q1 j).2.1) (q1 0).2.2 (fun j => (q2 j).2.2), g2⟩
    · obtain rfl : o = n := by omega
      have e0 := a4 (n : Int) (by omega) (by omega)
      rw [e0]
      refine ⟨?_, ini_ok (by omega)⟩
      rw [Int.toNat_natCast, show (10 * (n : Int)).toNat = 10 * n by omega]
      exact zrS_1 hz
  · rw [i3, i3, i3, e10, e11, e12]; exact b
  · rw [e11, e12]; exact d
  · rw [e11, e12]
    intro j x y
    obtain ⟨g1, g2, g3, g4⟩ := e j x y
    have hs : 0 ≤ (mA M aM 11 - j) % 9 ∧ (mA M aM 11 - j) % 9 < 9 := by omega
    generalize (mA M aM 11 - j) % 9 = s at *
    refine ⟨mSl_e g1 (by omega) i1 i2, fun m u v => ?_, g3, fun o u v => g4 o (by omega) v⟩
    by_cases z : m < n
    · have q1 := md_o h (nL_p hI (i := (9 * m + s).toNat) (by omega)) (Or.inr (Or.inl (ps_t _)))
      have q2 := md_o h (nL_f hI (i := (10 * m + 1 + s).toNat) (by omega)) (Or.inr (Or.inr (Or.inl (fe_t _))))
      exact cS1_f hr (g2 m u z) (fun j => (q1 j).1) (fun j => (q1 j).2.1) (q1 0).2.2 (fun j => (q2 j).2.2)
    · obtain rfl : m = n := by omega
      rw [g4 (n : Int) (by omega) (by omega), show (9 * (n : Int) + s).toNat = 9 * n + s.toNat by omega, show (10 * (n : Int) + 1 + s).toNat = 10 * n + 1 + s.toNat by omega]
      exact zrS_1 (hp s.toNat (by omega)).2.2
theorem md_in (h : mdG M M0 M' n kd rk I) {l : Nat} (a : alv M l) : ¬ l = I := fun q => h.1.2.2.2.2.2.1.2.2 (by rw [← q]; exact alv_m h.2.2.2.2.2.2.2.1 a)
theorem md_R7 (h : mdG M M0 M' n kd rk I) (r7 : R7 M n) : R7 M' (n + 1) := by
  obtain ⟨⟨a1, a2, a3, a4, a5, a6⟩, b, d⟩ := r7
  have hr := md_row h
  have hI := h.1.n
  obtain ⟨⟨c1, c2, c3, c4, c5, c6⟩, _⟩ := h.1.2.2.2.2.1
  have c0 := h.2.2.2.2.2.2.1
  have e5 : ∀ m : Int, 0 ≤ m → m < n → mR M' (uA m.toNat) 5 = mR M (uA m.toNat) 5 := fun m x y => (md_o h (nL_u hI (i := m.toNat) (by omega)).1 (Or.inl (TGf.1 _)) 5).2.2
  have eI : mR M' (uA ((n : Int)).toNat) 5 = I := by rw [Int.toNat_natCast]; exact h.1.2.1.2.2.1
  refine ⟨⟨by omega, by omega, by omega, by omega, by omega, by omega⟩, fun m x y => ?_, fun m m' x y x' y' q => ?_⟩
  · by_cases z : m < n
    · rw [e5 m x z]
      exact alv_m hr.1 (b m x z)
    · obtain rfl : m = n := by omega
      rw [eI]
      exact h.1.2.2.2.2.2.1.2.1
  · by_cases z : m < n
    · rw [e5 m x z] at q
      by_cases z' : m' < n
      · rw [e5 m' x' z'] at q
        exact d m m' x z x' z' q
      · obtain rfl : m' = n := by omega
        rw [eI] at q
        exact absurd q (md_in h (b m x z))
    · obtain rfl : m = n := by omega
      rw [eI] at q
      by_cases z' : m' < n
      · rw [e5 m' x' z'] at q
        exact absurd q.symm (md_in h (b m' x' z'))
      · omega
theorem md_R8 (h : mdG M M0 M' n kd rk I) (r8 : R8 M c) : R8 M' (c + 1) := by
  obtain ⟨a, b⟩ := r8
  obtain ⟨k1, k2⟩ := h.1.2.2.2.2.2.2.1
  obtain ⟨k3, k4⟩ := h.2.2.2.2.2.2.2.2
  exact ⟨by omega, by omega⟩
/-- the cells with a module more -/
def kdF (C : Nat → Nat → Int) (n : Nat) (kd : Int) (l j : Nat) : Int := if l = amKd ∧ j = n then kd else C l j
theorem kdF_o (C : Nat → Nat → Int) (n : Nat) (kd : Int) {l : Nat} (h : ¬ l = amKd) (j : Nat) : kdF C n kd l j = C l j := by
  unfold kdF
  rw [if_neg (fun q => h q.1)]
theorem kdF_k (C : Nat → Nat → Int) (n : Nat) (kd : Int) (j : Nat) : kdF C n kd amKd j = if j = n then kd else C amKd j := by
  unfold kdF
  by_cases e : j = n
  · rw [if_pos ⟨rfl, e⟩, if_pos e]
  · rw [if_neg (fun q => e q.2), if_neg e]
theorem noLp_m {C : Nat → Nat → Int} {rk : Int → Nat} (h : noLp C n rk) (hz : ∀ j : Nat, 3 * (n : Int) ≤ (j : Int) → C amCo j = 0) (kd : Int) : noLp (kdF C n kd) (n + 1) rk := fun m i m0 m1 i0 i1 => by
  rw [kdF_o C n kd (by decide)]
  by_cases z : m < n
  · obtain ⟨p1, p2⟩ := h m i m0 z i0 i1
    refine ⟨by omega, fun h6 c1 => ?_⟩
    rw [kdF_k, if_neg (by omega)] at h6 ⊢
    exact p2 h6 c1
  · rw [hz _ (by omega)]
    exact ⟨by omega, fun _ q => absurd q (by decide)⟩
theorem md_R0 {rr : Int → Nat} (h : mdG M M0 M' n kd rk I) (hn : n ≤ 23) (hk : 0 ≤ kd ∧ kd ≤ 10) (hr : 0 ≤ rk ∧ rk ≤ 4) (r1 : R1 M n rr) (r7 : R7 M n) : cS M' (n + 1) ∧ cTb M' ∧ noLp (mA M') (n + 1) rr ∧ (∀ j : Nat, 3 * ((n : Int) + 1) ≤ (j : Int) → mA M' amCo j = 0 ∧ mA M' amKn j = 0) ∧ (∀ j, mA M' amKd j = kdF (mA M) n kd amKd j) ∧ ∀ j, mA M' amCo j = kdF (mA M) n kd amCo j := by
  obtain ⟨⟨p, ⟨s1, s2, s3, s4, s5, s6, s7⟩, ⟨n1, n2, n3⟩, u, z, cc⟩, tb, lp, hz, hln⟩ := r1
  have hI := h.1.n
  have aCo : ∀ j, mA M' amCo j = mA M amCo j := md_a h (by unfold kN; decide) (by decide)
  have aKn : ∀ j, mA M' amKn j = mA M amKn j := md_a h (by unfold kN; decide) (by decide)
  obtain ⟨aKd, aRk, aN, aUn⟩ := h.2.2.2.2.2.1
  have aKf : ∀ j, mA M' amKd j = kdF (mA M) n kd amKd j := fun j => by rw [kdF_k]; exact aKd j
  have aCf : ∀ j, mA M' amCo j = kdF (mA M) n kd amCo j := fun j => by rw [kdF_o _ _ _ (by decide)]; exact aCo j
  refine ⟨⟨?_, ⟨?_, h.1.2.2.2.2.2.2.2, fun j => by rw [aCo]; exact s3 j, fun j => ?_, fun j => ?_, fun j => by rw [aKn]; exact s6 j, fun j => by rw [md_a h (by unfold kN; decide) (by decide)]; exact s7 j⟩, ⟨aN.1, aN.2, by omega⟩, fun m m0 m1 => ?_, fun m m0 m1 k5 => ?_, fun m i m0 m1 i0 i1 => ?_⟩, ?_, noLp_c aCf aKf (noLp_m lp (fun j x => (hz j x).1) kd), fun j x => by rw [aCo, aKn]; exact hz j (by omega), aKf, aCf⟩
  · unfold cP at p ⊢
    have rr : ∀ l, kN (l % 274877906944) → ¬ l = aUnits → ∀ j, mR M' l j = mR M l j := fun l a b j => md_r h a b j
    rw [rr aX (by unfold kN; decide) (by decide), rr aX (by unfold kN; decide) (by decide), rr aX (by unfold kN; decide) (by decide), rr aX (by unfold kN; decide) (by decide), rr aX (by unfold kN; decide) (by decide), rr aX (by unfold kN; decide) (by decide), rr aRack (by unfold kN; decide) (by decide), rr aRack (by unfold kN; decide) (by decide), rr aRack (by unfold kN; decide) (by decide), rr aRack (by unfold kN; decide) (by decide), rr aTabs (by unfold kN; decide) (by decide), rr aTabs (by unfold kN; decide) (by decide), rr aPres (by unfold kN; decide) (by decide), rr aPres (by unfold kN; decide) (by decide), rr aTaks (by unfold kN; decide) (by decide), rr aHist (by unfold kN; decide) (by decide), rr aBlok (by unfold kN; decide) (by decide), rr aBlok (by unfold kN; decide) (by decide), rr aBlok (by unfold kN; decide) (by decide)]
    simp only [rr aPlaces (by unfold kN; decide) (by decide), rr aPKn (by unfold kN; decide) (by decide)]
    exact p
  · unfold mSt at s1 ⊢
    simp only [md_r h (l := aM) (by unfold kN; decide) (by decide)]
    exact s1
  · rw [aKd]
    split
    · exact hk
    · exact s4 j
  · rw [aRk]
    split
    · exact hr
    · exact s5 j
  · by_cases q : m < n
    · obtain ⟨g1, g2, g3, g4, g5, g6⟩ := u m m0 q
      have gi := (u m m0 q).n
      have hm : m.toNat < n := by omega
      obtain ⟨v1, v2, v3, v4⟩ := nL_u hI hm
      have x1 := md_o h v1 (Or.inl (TGf.1 _))
      have x3 := md_o h v3 (Or.inr (Or.inl (no_t _)))
      have x4 := md_o h v4 (Or.inr (Or.inr (Or.inr (TGf.2.2.2.2.2.2.1 _))))
      have kdm : mA M' amKd m.toNat = mA M amKd m.toNat := by rw [aKd, if_neg (by omega)]
      have rkm : mA M' amRk m.toNat = mA M amRk m.toNat := by rw [aRk, if_neg (by omega)]
      refine ⟨?_, fun s s0 s9 => ?_, ?_, ?_, fun k a b => ?_, fun i a b => ?_⟩
      · rw [aUn, if_neg (by omega), (x1 3).2.2, (x1 4).2.2, (x1 6).2.2, (x3 7).2.2]; exact g1
      · rw [(x4 s.toNat).2.2, (md_o h (nL_p hI (i := (9 * m + s).toNat) (by omega)) (Or.inr (Or.inl (ps_t _))) 7).2.2]; exact g2 s s0 s9
      · rw [(x1 5).2.2, kdm]; exact g3
      · rw [(x1 0).1, (x1 1).1, (x1 2).1, kdm, rkm]; exact g4
      · rw [aKn, h.2.2.1 _ _ v2 ?_ ?_ ?_ ?_ ?_ ?_ ?_]
        · exact g5 k a b
        all_goals (intro w; have e := (key_u m.toNat).2.1; first | (rw [w] at e; exact absurd e (by decide)) | (rw [w.1] at e; exact absurd e (by decide)))
      · rw [kdm] at b
        rw [aCo, (x1 5).2.2, h.2.2.1 _ _ (nL_i hI gi (md_in h (r7.2.1 m m0 q))) ?_ ?_ ?_ ?_ ?_ ?_ ?_]
        · exact g6 i a b
        all_goals (intro w; first | exact isIn_ne gi (by unfold isIn; decide) w | exact isIn_ne gi (by unfold isIn; decide) w.1)
    · obtain rfl : m = n := by omega
      obtain ⟨b1, b2, b3, b4⟩ := h.1.1
      obtain ⟨c1, c2, c3, c4, c5⟩ := h.1.2.1
      have hp := h.1.2.2.2.1
      have nn := nin_b kd
      have kdm : mA M' amKd n = kd := by rw [aKd, if_pos rfl]
      have rkm : mA M' amRk n = rk := by rw [aRk, if_pos rfl]
      rw [cU, Int.toNat_natCast]
      refine ⟨?_, fun s s0 s9 => ?_, ?_, ?_, fun k a b => ?_, fun i a b => ?_⟩
      · rw [show (10 * (n : Int)).toNat = 10 * n by omega]
        exact ⟨by rw [aUn, if_pos rfl], c1, c2, c4, c5⟩
      · rw [show (9 * (n : Int) + s).toNat = 9 * n + s.toNat by omega, show (10 * (n : Int) + 1 + s).toNat = 10 * n + 1 + s.toNat by omega]
        exact ⟨(hp s.toNat (by omega)).1, (hp s.toNat (by omega)).2.1⟩
      · rw [c3, kdm]; exact h.1.2.2.2.2.2.1.1
      · rw [kdm, rkm]; exact ⟨b1, b2, b3⟩
      · rw [b4, aKn, (hz _ (by omega)).2]
      · rw [kdm] at b
        rw [c3, h.2.1 i a b, aCo, (hz _ (by omega)).1]
        decide
  · rw [aKd] at k5
    rw [aCo]
    by_cases q : m < n
    · rw [if_neg (by omega)] at k5
      exact z m m0 q k5
    · exact (hz _ (by omega)).1
  · rw [aCo]
    by_cases q : m < n
    · have := cc m i m0 q i0 i1
      omega
    · rw [(hz _ (by omega)).1]
      omega
  · obtain ⟨t1, t2⟩ := tb
    refine ⟨fun t a b => ?_, fun t i a b x y => ?_⟩
    · rw [md_a h (l := aLens) (by unfold kN; decide) (by decide), md_a h (l := amTm) (by unfold kN; decide) (by decide)]; exact t1 t a b
    · have tk : tbA t.toNat % 274877906944 = 70885835808 := by unfold tbA; omega
      rw [h.2.2.1 (tbA t.toNat) _ (nL_k hI (by rw [tk]; unfold kN; decide)) ?_ ?_ ?_ ?_ ?_ ?_ ?_, md_a h (l := amTb) (by unfold kN; decide) (by decide)]
      · exact t2 t i a b x y
      all_goals (intro w; first | (rw [w] at tk; exact absurd tk (by decide)) | (rw [w.1] at tk; exact absurd tk (by decide)))
theorem md_R1 {rr : Int → Nat} (h : mdG M M0 M' n kd rk I) (hn : n ≤ 23) (hk : 0 ≤ kd ∧ kd ≤ 10) (hr : 0 ≤ rk ∧ rk ≤ 4) (r1 : R1 M n rr) (r7 : R7 M n) (hl : ∀ i : Nat, (i : Int) < n + 1 → mA M' aLine i = ofn (kdF (mA M) n kd) (n + 1) i) : R1 M' (n + 1) rr := by
  obtain ⟨a, b, d, e, f, g⟩ := md_R0 h hn hk hr r1 r7
  refine ⟨a, b, d, e, fun i x => ?_⟩
  rw [hl i x]
  unfold ofn
  rw [ordL_c g f]
theorem Rel_md {A : Int → SS} {H : Int → Int → SS} {T : Int} {TK : Int → Rw} {rr : Int → Nat} (h : mdG M M0 M' n kd rk I) (hn : n ≤ 23) (hk : 0 ≤ kd ∧ kd ≤ 10) (hr : 0 ≤ rk ∧ rk ≤ 4) (r1 : R1 M n rr) (r3 : R3 M n c A H) (r4 : R4 M T TK) (r5 : R5 M n) (r6 : R6 M) (r7 : R7 M n) (r8 : R8 M c) (hl : ∀ i : Nat, (i : Int) < n + 1 → mA M' aLine i = ofn (kdF (mA M) n kd) (n + 1) i) : Rel M' (c + 1) := by
  have kP : ∀ i, pkA i % 274877906944 = 32231133728 := fun i => by unfold pkA; omega
  refine ⟨n + 1, A, H, T, TK, rr, md_R1 h hn hk hr r1 r7 hl, md_R3 h hn r3, R4_c r4 (md_row h) ⟨md_m h (by decide), md_m h (by decide), md_a h (by unfold kN; decide) (by decide) _⟩ (fun l j q => ?_) (md_b h (by unfold kN; decide)) (md_r h (by unfold kN; decide) (by decide)), ?_, R6_c r6 (md_a h (by unfold kN; decide) (by decide)) (fun j q => md_m h (by omega)) (md_a h (by unfold kN; decide) (by decide)) (md_a h (by unfold kN; decide) (by decide)), md_R7 h r7, md_R8 h r8⟩
  · rcases q with q | q | q | q <;> (rw [q]; exact md_a h (by unfold kN; decide) (by decide) j)
  · have g : R5 M' n := R5_c r5 (fun l j q => by rcases q with q | q | q <;> (rw [q]; exact md_a h (by unfold kN; decide) (by decide) j)) (fun i j => by
      refine md_a h (by rw [kP]; unfold kN; decide) ?_ j
      have e := kP i
      refine ⟨?_, ?_, ?_, ?_, ?_, ?_, ?_⟩ <;> (intro q; rw [q] at e; exact absurd e (by decide)))
    exact ⟨fun p x y => ⟨(g.1 p x y).1, by have := (g.1 p x y).2.1; omega, (g.1 p x y).2.2⟩, g.2⟩
end MD
