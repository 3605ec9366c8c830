/-! 79.chis: the developers' own: remember, undo, advance (written by wip/whole/gen79.py) -/
def cpG (M0 : xm) (D F : Nat → Prop) (M : xm) : Prop := (∀ l j, ¬ D l → mA M l j = mA M0 l j) ∧ (∀ l j, ¬ D l → mB M l j = mB M0 l j) ∧ (∀ l j, ¬ (D l ∧ j = 0) → ¬ F l → mR M l j = mR M0 l j) ∧ mC M = mC M0 ∧ (mK M = mK M0 ∧ mS M = mS M0) ∧ inR M
theorem cpG.refl {M : xm} (D F : Nat → Prop) (h : inR M) : cpG M D F M := ⟨fun _ _ _ => rfl, fun _ _ _ => rfl, fun _ _ _ _ => rfl, rfl, ⟨rfl, rfl⟩, h⟩
theorem cpG.c {M0 M M' : xm} {D F : Nat → Prop} {S T FS FT : Nat} (h : cpG M0 D F M) (g : copG M M' S T FS FT) (hD : D S) (hF : F FS) : cpG M0 D F M' := by
  obtain ⟨a1, a2, a3, a4, a5, a6⟩ := h
  obtain ⟨b1, b2, b3, b4, b5, b6⟩ := g
  refine ⟨fun l j v => ?_, fun l j v => ?_, fun l j v w => ?_, b4.trans a4, ⟨b5.1.trans a5.1, b5.2.trans a5.2⟩, b6⟩
  · rw [b1, if_neg (fun q => v (by rw [q.1]; exact hD))]
    exact a1 l j v
  · rw [b2, if_neg (fun q => v (by rw [q.1]; exact hD))]
    exact a2 l j v
  · rw [b3, if_neg (fun q => v ⟨by rw [q.1]; exact hD, q.2⟩), if_neg (fun q => w (by rw [q.1]; exact hF))]
    exact a3 l j v w
theorem cpG.s {M0 M : xm} {D F : Nat → Prop} {N : Int} (h : cpG M0 D F M) (hD : ∀ l, D l → tg l = 6) (hF : ∀ l, F l → tg l = 35) (hC : cS M0 N) : cS M N :=
  cS_c hC h.2.2.2.2.2 (fun l j _ _ c d => h.2.2.1 l j (fun q => c ⟨hD l q.1, q.2⟩) (fun q => d (hF l q))) (fun l j q => h.1 l j (fun z => q (Or.inr (Or.inl (hD l z)))))
theorem cpG.row {M0 M : xm} {D F : Nat → Prop} (h : cpG M0 D F M) (hD : ∀ l, D l → tg l = 6) (hF : ∀ l, F l → tg l = 35) : rowG M0 M := ⟨fun k => by rw [h.2.2.2.1]; exact Nat.le_refl _, fun l j _ t => ⟨h.1 l j (fun q => absurd (hD l q) (by rw [t]; decide)), h.2.2.1 l j (fun q => absurd (hD l q.1) (by rw [t]; decide)) (fun q => absurd (hF l q) (by rw [t]; decide))⟩, fun v j n _ b => h.2.1 v j (fun q => by
  have e := hD v q
  unfold isV at b
  unfold tg at e
  omega)⟩
/-- past slot s, and what was fed there -/
def psL (s : Int) (l : Nat) : Prop := ∃ o : Int, 0 ≤ o ∧ l = psA (9 * o + s).toNat
def pfL (s : Int) (l : Nat) : Prop := ∃ o : Int, 0 ≤ o ∧ l = fedA (10 * o + 1 + s).toNat
def nwL (l : Nat) : Prop := ∃ o : Int, 0 ≤ o ∧ l = nowA o.toNat
def nfL (l : Nat) : Prop := ∃ o : Int, 0 ≤ o ∧ l = fedA (10 * o).toNat
theorem ps_t (i : Nat) : tg (psA i) = 6 := TGf.2.2.2.2.2.2.2.2.2.2.2.2.1 i
theorem fe_t (i : Nat) : tg (fedA i) = 35 := TGf.2.2.2.2.2.2.2.2.2.2.2.2.2.2.1 i
theorem fe_l (i : Nat) : ln (fedA i) = 4 := TGf.2.2.2.2.2.2.2.2.2.2.2.2.2.2.2.1 i
theorem no_t (i : Nat) : tg (nowA i) = 6 := TGf.2.2.2.2.1 i
theorem psL.t {s : Int} : ∀ l, psL s l → tg l = 6 := fun l h => by obtain ⟨o, _, e⟩ := h; rw [e]; exact ps_t _
theorem pfL.t {s : Int} : ∀ l, pfL s l → tg l = 35 := fun l h => by obtain ⟨o, _, e⟩ := h; rw [e]; exact fe_t _
theorem nwL.t : ∀ l, nwL l → tg l = 6 := fun l h => by obtain ⟨o, _, e⟩ := h; rw [e]; exact no_t _
theorem nfL.t : ∀ l, nfL l → tg l = 35 := fun l h => by obtain ⟨o, _, e⟩ := h; rw [e]; exact fe_t _
theorem ps_e {i j : Nat} : (psA i = psA j) = (i = j) := propext ⟨fun h => by unfold psA at h; omega, fun h => by rw [h]⟩
theorem no_e {i j : Nat} : (nowA i = nowA j) = (i = j) := propext ⟨fun h => by unfold nowA at h; omega, fun h => by rw [h]⟩
theorem ps_no {i j : Nat} : ¬ psA i = nowA j := fun h => by unfold psA nowA at h; omega
theorem fe_ps {i j : Nat} : ¬ fedA i = psA j := tg_d (fe_t i) (ps_t j) (by decide)
theorem fe_no {i j : Nat} : ¬ fedA i = nowA j := tg_d (fe_t i) (no_t j) (by decide)
theorem l_remember {M0 : xm} {N s : Int} {A : Int → SS} (hC0 : cS M0 N) (es : mA M0 aHist 3 = s) (hs : 0 ≤ s ∧ s < 9) (hA : ∀ m, 0 ≤ m → m < N → cS1 M0 (nowA m.toNat) (fedA (10 * m).toNat) (A m)) (Q : Option xv → xm → Prop) (hg : ∀ M, cpG M0 (psL s) (pfL s) M → (∀ m, 0 ≤ m → m < N → cS1 M (psA (9 * m + s).toNat) (fedA (10 * m + 1 + s).toNat) (A m)) → Q none M) :
    ∀ (d : Nat) (k : Int) (M : xm) (x2 : xv), k + d = N → 0 ≤ k → cpG M0 (psL s) (pfL s) M → (∀ m, 0 ≤ m → m < k → cS1 M (psA (9 * m + s).toNat) (fedA (10 * m + 1 + s).toNat) (A m)) → Wp qX1_remember 2 [vR aHist, vI k, x2] [] M Q
  | 0, k, M, x2, hd, h0, hG, hD => by
    have hC := hG.s (psL.t) (pfL.t) hC0
    have hR' := hC.r
    have eN := hC.2.2.1
    obtain rfl : k = N := by omega
    have g := hg M hG hD
    rw [HX1_remember_2]
    simp (disch := first | omega | (simp only [DT, DS, ne_eq, Nat.reduceEqDiff, not_false_eq_true]; done)) only [RX1_remember, cP.e hC.1, eN.1, BW, wr_id, OM, OE, PL, ↓reduceIte, TGs, bi_T, bi_F, bi_ff, Nat.reduceLeDiff, Nat.reduceLT, Nat.reduceAdd]
    exact g
  | d + 1, k, M, x2, hd, h0, hG, hD => by
    have hC := hG.s (psL.t) (pfL.t) hC0
    have hrw := hG.row (psL.t) (pfL.t)
    have hR' := hC.r
    have eN := hC.2.2.1
    have hN := eN.2.2
    have hm : 0 ≤ k ∧ k < N := by omega
    have qa := c_at hC k (by omega)
    rw [show uR N k = uA k.toNat from if_pos hm] at qa
    have uz : ¬ uA k.toNat = 0 := tg_ne (TGf.1 _) (by decide)
    have hu := hC.2.2.2.1 k hm.1 hm.2
    have hp := hu.2.1 s hs.1 hs.2
    have e3 : mA M aHist 3 = s := by rw [hG.1 _ _ (fun q => absurd (psL.t _ q) (by decide))]; exact es
    have ih := fun M' y2 => l_remember hC0 es hs hA Q hg d (k + 1) M' y2 (by omega) (by omega)
    have src : cS1 M (nowA k.toNat) (fedA (10 * k).toNat) (A k) := by
      refine cS1_f hrw (hA k h0 hm.2) (fun j => hG.1 _ _ ?_) (fun j => hG.2.1 _ _ ?_) (hG.2.2.1 _ _ ?_ ?_) (fun j => hG.2.2.1 _ _ ?_ ?_)
      · rintro ⟨o, o0, q⟩
        exact ps_no q.symm
      · rintro ⟨o, o0, q⟩
        exact ps_no q.symm
      · rintro ⟨⟨o, o0, q⟩, _⟩
        exact ps_no q.symm
      · rintro ⟨o, o0, q⟩
        exact fe_no q.symm
      · rintro ⟨⟨o, o0, q⟩, _⟩
        exact fe_ps q
      · rintro ⟨o, o0, q⟩
        have := fed_e.mp q
        omega
    obtain ⟨_, _, r8⟩ := id src
    have r1 := (r8 1 (by omega) (by omega)).g
    have r2 := (r8 2 (by omega) (by omega)).g
    have r3 := (r8 3 (by omega) (by omega)).g
    have r4 := (r8 4 (by omega) (by omega)).g
    have qc := c_copyFrom (M := M) hG.2.2.2.2.2 (ps_t (9 * k + s).toNat) (no_t k.toNat) hp.2 hu.1.2.2.2.2 ⟨fe_t _, fe_l _⟩ ⟨fe_t _, fe_l _⟩ (fun q => ps_no q.symm) (fun q => by have := fed_e.mp q; omega) r1 r2 r3 r4
    rw [HX1_remember_2]
    simp (disch := first | omega | (simp only [DT, DS, ne_eq, Nat.reduceEqDiff, not_false_eq_true]; done)) only [RX1_remember, RX8_remember, cP.e hC.1, eN.1, qa, uz, TGf, e3, hu.1.2.2.1, hu.1.2.2.2.1, hp.1, BW, wr_id, OM, OE, PL, ↓reduceIte, TGs, bi_T, bi_F, bi_ff, Nat.reduceLeDiff, Nat.reduceLT, Nat.reduceAdd]
    refine qc _ (fun M' hc => ?_)
    simp (disch := first | omega | (simp only [DT, DS, ne_eq, Nat.reduceEqDiff, not_false_eq_true]; done)) only [RX8_remember, RX1_remember, BW, wr_id, OM, OE, PL, ↓reduceIte, TGs, bi_T, bi_F, bi_ff, Nat.reduceLeDiff, Nat.reduceLT, Nat.reduceAdd]
    refine ih M' _ (hG.c hc ⟨k, h0, rfl⟩ ⟨k, h0, rfl⟩) (fun m a b => ?_)
    by_cases e : m = k
    · rw [e]
      exact hc.to (ps_t _) (fe_t _) src
    · refine hc.ot (ps_t _) (fe_t _) (hD m a (by omega)) (fun q => ?_) (fun q => ?_) (fun q => ?_) (fun q => ?_)
      · have := ps_e.mp q
        omega
      · have := fed_e.mp q
        omega
      · exact fe_ps q.symm
      · exact fe_ps q
theorem c_remember {M : xm} {N s : Int} {A : Int → SS} (hC : cS M N) (es : mA M aHist 3 = s) (hs : 0 ≤ s ∧ s < 9) (hA : ∀ m, 0 ≤ m → m < N → cS1 M (nowA m.toNat) (fedA (10 * m).toNat) (A m)) (Q : Option xv → xm → Prop) (hg : ∀ M', cpG M (psL s) (pfL s) M' → (∀ m, 0 ≤ m → m < N → cS1 M' (psA (9 * m + s).toNat) (fedA (10 * m + 1 + s).toNat) (A m)) → Q none M') : Wp qX1_remember 0 [vR aHist, vX, vX] [] M Q := by
  have hN := hC.2.2.1.2.2
  have g := l_remember hC es hs hA Q hg N.toNat 0 M vX (by omega) (by omega) (cpG.refl _ _ hC.2.1.2.1) (fun m a b => by omega)
  simp (disch := first | omega | (simp only [DT, DS, ne_eq, Nat.reduceEqDiff, not_false_eq_true]; done)) only [RX1_remember, BW, wr_id, OM, OE, PL, ↓reduceIte, TGs, bi_T, bi_F, bi_ff, Nat.reduceLeDiff, Nat.reduceLT, Nat.reduceAdd]
  exact g
theorem l_undo {M0 : xm} {N s : Int} {A : Int → SS} (hC0 : cS M0 N) (es : mA M0 aHist 3 = s) (hs : 0 ≤ s ∧ s < 9) (hA : ∀ m, 0 ≤ m → m < N → cS1 M0 (psA (9 * m + s).toNat) (fedA (10 * m + 1 + s).toNat) (A m)) (Q : Option xv → xm → Prop) (hg : ∀ M, cpG M0 (nwL) (nfL) M → (∀ m, 0 ≤ m → m < N → cS1 M (nowA m.toNat) (fedA (10 * m).toNat) (A m)) → Q none M) :
    ∀ (d : Nat) (k : Int) (M : xm) (x2 : xv), k + d = N → 0 ≤ k → cpG M0 (nwL) (nfL) M → (∀ m, 0 ≤ m → m < k → cS1 M (nowA m.toNat) (fedA (10 * m).toNat) (A m)) → Wp qX1_undo 2 [vR aHist, vI k, x2] [] M Q
  | 0, k, M, x2, hd, h0, hG, hD => by
    have hC := hG.s (nwL.t) (nfL.t) hC0
    have hR' := hC.r
    have eN := hC.2.2.1
    obtain rfl : k = N := by omega
    have g := hg M hG hD
    rw [HX1_undo_2]
    simp (disch := first | omega | (simp only [DT, DS, ne_eq, Nat.reduceEqDiff, not_false_eq_true]; done)) only [RX1_undo, cP.e hC.1, eN.1, BW, wr_id, OM, OE, PL, ↓reduceIte, TGs, bi_T, bi_F, bi_ff, Nat.reduceLeDiff, Nat.reduceLT, Nat.reduceAdd]
    exact g
  | d + 1, k, M, x2, hd, h0, hG, hD => by
    have hC := hG.s (nwL.t) (nfL.t) hC0
    have hrw := hG.row (nwL.t) (nfL.t)
    have hR' := hC.r
    have eN := hC.2.2.1
    have hN := eN.2.2
    have hm : 0 ≤ k ∧ k < N := by omega
    have qa := c_at hC k (by omega)
    rw [show uR N k = uA k.toNat from if_pos hm] at qa
    have uz : ¬ uA k.toNat = 0 := tg_ne (TGf.1 _) (by decide)
    have hu := hC.2.2.2.1 k hm.1 hm.2
    have hp := hu.2.1 s hs.1 hs.2
    have e3 : mA M aHist 3 = s := by rw [hG.1 _ _ (fun q => absurd (nwL.t _ q) (by decide))]; exact es
    have ih := fun M' y2 => l_undo hC0 es hs hA Q hg d (k + 1) M' y2 (by omega) (by omega)
    have src : cS1 M (psA (9 * k + s).toNat) (fedA (10 * k + 1 + s).toNat) (A k) := by
      refine cS1_f hrw (hA k h0 hm.2) (fun j => hG.1 _ _ ?_) (fun j => hG.2.1 _ _ ?_) (hG.2.2.1 _ _ ?_ ?_) (fun j => hG.2.2.1 _ _ ?_ ?_)
      · rintro ⟨o, o0, q⟩
        exact ps_no q
      · rintro ⟨o, o0, q⟩
        exact ps_no q
      · rintro ⟨⟨o, o0, q⟩, _⟩
        exact ps_no q
      · rintro ⟨o, o0, q⟩
        exact fe_ps q.symm
      · rintro ⟨⟨o, o0, q⟩, _⟩
        exact fe_no q
      · rintro ⟨o, o0, q⟩
        have := fed_e.mp q
        omega
    obtain ⟨_, _, r8⟩ := id src
    have r1 := (r8 1 (by omega) (by omega)).g
    have r2 := (r8 2 (by omega) (by omega)).g
    have r3 := (r8 3 (by omega) (by omega)).g
    have r4 := (r8 4 (by omega) (by omega)).g
    have qc := c_copyFrom (M := M) hG.2.2.2.2.2 (no_t k.toNat) (ps_t (9 * k + s).toNat) hu.1.2.2.2.2 hp.2 ⟨fe_t _, fe_l _⟩ ⟨fe_t _, fe_l _⟩ ps_no (fun q => by have := fed_e.mp q; omega) r1 r2 r3 r4
    rw [HX1_undo_2]
    simp (disch := first | omega | (simp only [DT, DS, ne_eq, Nat.reduceEqDiff, not_false_eq_true]; done)) only [RX1_undo, RX8_becomeAsIn, cP.e hC.1, eN.1, qa, uz, TGf, e3, hu.1.2.2.1, hu.1.2.2.2.1, hp.1, BW, wr_id, OM, OE, PL, ↓reduceIte, TGs, bi_T, bi_F, bi_ff, Nat.reduceLeDiff, Nat.reduceLT, Nat.reduceAdd]
    refine qc _ (fun M' hc => ?_)
    simp (disch := first | omega | (simp only [DT, DS, ne_eq, Nat.reduceEqDiff, not_false_eq_true]; done)) only [RX8_becomeAsIn, RX1_undo, BW, wr_id, OM, OE, PL, ↓reduceIte, TGs, bi_T, bi_F, bi_ff, Nat.reduceLeDiff, Nat.reduceLT, Nat.reduceAdd]
    refine ih M' _ (hG.c hc ⟨k, h0, rfl⟩ ⟨k, h0, rfl⟩) (fun m a b => ?_)
    by_cases e : m = k
    · rw [e]
      exact hc.to (no_t _) (fe_t _) src
    · refine hc.ot (no_t _) (fe_t _) (hD m a (by omega)) (fun q => ?_) (fun q => ?_) (fun q => ?_) (fun q => ?_)
      · have := no_e.mp q
        omega
      · have := fed_e.mp q
        omega
      · exact fe_no q.symm
      · exact fe_no q
theorem c_undo {M : xm} {N s : Int} {A : Int → SS} (hC : cS M N) (es : mA M aHist 3 = s) (hs : 0 ≤ s ∧ s < 9) (hA : ∀ m, 0 ≤ m → m < N → cS1 M (psA (9 * m + s).toNat) (fedA (10 * m + 1 + s).toNat) (A m)) (Q : Option xv → xm → Prop) (hg : ∀ M', cpG M (nwL) (nfL) M' → (∀ m, 0 ≤ m → m < N → cS1 M' (nowA m.toNat) (fedA (10 * m).toNat) (A m)) → Q none M') : Wp qX1_undo 0 [vR aHist, vX, vX] [] M Q := by
  have hN := hC.2.2.1.2.2
  have g := l_undo hC es hs hA Q hg N.toNat 0 M vX (by omega) (by omega) (cpG.refl _ _ hC.2.1.2.1) (fun m a b => by omega)
  simp (disch := first | omega | (simp only [DT, DS, ne_eq, Nat.reduceEqDiff, not_false_eq_true]; done)) only [RX1_undo, BW, wr_id, OM, OE, PL, ↓reduceIte, TGs, bi_T, bi_F, bi_ff, Nat.reduceLeDiff, Nat.reduceLT, Nat.reduceAdd]
  exact g
theorem c_advance {M : xm} {N s rc dn : Int} (hC : cS M N) (es : mA M aHist 3 = s) (hs : 0 ≤ s ∧ s < 9) (er : mA M aHist 1 = rc) (hr : 0 ≤ rc ∧ rc ≤ 8) (ed : mA M aHist 0 = dn) (hd : 0 ≤ dn ∧ dn ≤ 100000) (Q : Option xv → xm → Prop) : Wp qX1_advance 0 [vR aHist] [] M Q ↔ Q none (wA (wA (wA M aHist 3 ((s + 1) % 9)) aHist 1 (if rc < 8 then rc + 1 else rc)) aHist 0 (dn + 1)) := by
  have hR' := hC.r
  have e9 : (s + 1).tmod 9 = (s + 1) % 9 := Int.tmod_eq_emod_of_nonneg (by omega)
  have e1 : mA (wA M aHist 3 ((s + 1) % 9)) aHist 1 = rc := by rw [wA_o _ _ (by decide)]; exact er
  have em : (if rc + 1 < 8 then rc + 1 else 8) = if rc < 8 then rc + 1 else rc := by
    by_cases c : rc + 1 < 8
    · rw [if_pos c, if_pos (by omega)]
    · rw [if_neg c]
      by_cases c2 : rc < 8
      · rw [if_pos c2]; omega
      · rw [if_neg c2]; omega
  have hm : 0 ≤ (if rc < 8 then rc + 1 else rc) ∧ (if rc < 8 then rc + 1 else rc) ≤ 8 := by split <;> omega
  have e0 : ∀ x, mA (wA (wA M aHist 3 ((s + 1) % 9)) aHist 1 x) aHist 0 = dn := fun x => by rw [wA_o _ _ (by decide), wA_o _ _ (by decide)]; exact ed
  generalize (if rc < 8 then rc + 1 else rc) = r at *
  simp (disch := first | omega | (simp only [DT, DS, ne_eq, Nat.reduceEqDiff, not_false_eq_true]; done)) only [RX1_advance, es, e9, e1, c_min, em, e0, BW, wr_id, OM, OE, PL, ↓reduceIte, TGs, bi_T, bi_F, bi_ff, Nat.reduceLeDiff, Nat.reduceLT, Nat.reduceAdd]
theorem c_goBack {M : xm} {N s rc dn n : Int} {A : Int → SS} (hC : cS M N) (es : mA M aHist 3 = s) (hs : 0 ≤ s ∧ s < 9) (er : mA M aHist 1 = rc) (hr : 0 ≤ rc ∧ rc ≤ 8) (ed : mA M aHist 0 = dn) (hd : 0 ≤ dn ∧ dn ≤ 100000) (hn : 1 ≤ n ∧ n ≤ rc) (hA : ∀ m, 0 ≤ m → m < N → cS1 M (psA (9 * m + (s - n) % 9).toNat) (fedA (10 * m + 1 + (s - n) % 9).toNat) (A m)) (Q : Option xv → xm → Prop) (hg : ∀ M', cpG (wA (wA (wA M aHist 3 ((s - n) % 9)) aHist 1 (rc - n)) aHist 0 (dn - n)) nwL nfL M' → (∀ m, 0 ≤ m → m < N → cS1 M' (nowA m.toNat) (fedA (10 * m).toNat) (A m)) → Q none M') : Wp qX1_goBack 0 [vR aHist, vI n] [] M Q := by
  have hR' := hC.r
  have hm9 : 0 ≤ (s - n) % 9 ∧ (s - n) % 9 < 9 := by omega
  have e1 : mA (wA M aHist 3 ((s - n) % 9)) aHist 1 = rc := by rw [wA_o _ _ (by decide)]; exact er
  have e0 : mA (wA (wA M aHist 3 ((s - n) % 9)) aHist 1 (rc - n)) aHist 0 = dn := by rw [wA_o _ _ (by decide), wA_o _ _ (by decide)]; exact ed
  have qm := c_floorMod (M := M) (s - n) 9 (by omega) (by omega)
  have ha : ∀ l j, ¬ l = aHist → mA (wA (wA (wA M aHist 3 ((s - n) % 9)) aHist 1 (rc - n)) aHist 0 (dn - n)) l j = mA M l j := fun l j h => by rw [wA_o _ _ (fun q => h q.1), wA_o _ _ (fun q => h q.1), wA_o _ _ (fun q => h q.1)]
  have e3 : mA (wA (wA (wA M aHist 3 ((s - n) % 9)) aHist 1 (rc - n)) aHist 0 (dn - n)) aHist 3 = (s - n) % 9 := by rw [wA_o _ _ (by decide), wA_o _ _ (by decide), wA_e]
  have hR3 : inR (wA (wA (wA M aHist 3 ((s - n) % 9)) aHist 1 (rc - n)) aHist 0 (dn - n)) := ((hC.2.1.2.1.wA _ _ (wr_id (by omega) (by omega))).wA _ _ (wr_id (by omega) (by omega))).wA _ _ (wr_id (by omega) (by omega))
  have hC3 : cS (wA (wA (wA M aHist 3 ((s - n) % 9)) aHist 1 (rc - n)) aHist 0 (dn - n)) N := cS_c hC hR3 (fun l j _ _ _ _ => rfl) (fun l j q => ha l j (fun z => q (by rw [z]; unfold nonS; decide)))
  have hrow : rowG M (wA (wA (wA M aHist 3 ((s - n) % 9)) aHist 1 (rc - n)) aHist 0 (dn - n)) := ⟨fun _ => Nat.le_refl _, fun l j _ t => ⟨ha l j (fun z => absurd t (by rw [z]; decide)), rfl⟩, fun _ _ _ _ _ => rfl⟩
  have g := c_undo hC3 e3 hm9 (A := A) (fun m a b => cS1_f hrow (hA m a b) (fun j => ha _ _ (tg_d (ps_t _) (show tg aHist = 2 by decide) (by decide))) (fun j => rfl) rfl (fun j => rfl)) (cont qX1_goBack 39 [vR aHist, vI n] [] Q) (fun M' g1 g2 => by
    simp (disch := first | omega | (simp only [DT, DS, ne_eq, Nat.reduceEqDiff, not_false_eq_true]; done)) only [RX1_goBack, BW, wr_id, OM, OE, PL, ↓reduceIte, TGs, bi_T, bi_F, bi_ff, Nat.reduceLeDiff, Nat.reduceLT, Nat.reduceAdd]
    exact hg M' g1 g2)
  simp (disch := first | omega | (simp only [DT, DS, ne_eq, Nat.reduceEqDiff, not_false_eq_true]; done)) only [RX1_goBack, es, qm, er, e1, e0, BW, wr_id, OM, OE, PL, ↓reduceIte, TGs, bi_T, bi_F, bi_ff, Nat.reduceLeDiff, Nat.reduceLT, Nat.reduceAdd]
  exact g
