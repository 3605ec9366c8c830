/-! 72.cmix: the developers' own: MIX -/
def bkG (M0 M : xm) : Prop := (∀ l j, ¬ (l = aBlok ∧ (j = 0 ∨ j = 2)) → mA M l j = mA M0 l j) ∧ mB M = mB M0 ∧ mR M = mR M0 ∧ mC M = mC M0 ∧ (mK M = mK M0 ∧ mS M = mS M0) ∧ inR M
theorem bkG.s {M0 M : xm} {N : Int} (h : bkG M0 M) (hC : cS M0 N) : cS M N :=
  cS_c hC h.2.2.2.2.2 (fun l j _ _ _ _ => by rw [h.2.2.1]) (fun l j q => h.1 l j (fun z => q (by rw [z.1]; exact Or.inr (Or.inr (Or.inr (Or.inl (by decide)))))))
theorem bkG.row {M0 M : xm} (h : bkG M0 M) : rowG M0 M := ⟨fun k => by rw [h.2.2.2.1]; exact Nat.le_refl _, fun l j _ t => ⟨h.1 l j (fun z => absurd t (by rw [z.1]; decide)), by rw [h.2.2.1]⟩, fun v j n _ _ => by rw [h.2.1]⟩
theorem bkG.f {M0 M : xm} (h : bkG M0 M) {f k : Int} (hf : wr f = f) (hk : wr k = k) : bkG M0 (wA (wA M aBlok 0 f) aBlok 2 k) := by
  obtain ⟨h1, h2, h3, h4, h5, h6⟩ := h
  refine ⟨fun l j c => ?_, h2, h3, h4, h5, (h6.wA _ _ hf).wA _ _ hk⟩
  rw [wA_o _ _ (fun q => c ⟨q.1, Or.inr q.2⟩), wA_o _ _ (fun q => c ⟨q.1, Or.inl q.2⟩)]
  exact h1 l j c
theorem bkG.refl {M : xm} (h : inR M) : bkG M M := ⟨fun _ _ _ => rfl, rfl, rfl, rfl, ⟨rfl, rfl⟩, h⟩
theorem cG_c {M M' : xm} {N : Int} {A : Int → SS} (h : cG M N A) (hr : rowG M M') (hn : ∀ o, mR M' (nowA o) 0 = mR M (nowA o) 0) : cG M' N A := fun o a b => ⟨by rw [hn]; exact cRw_f hr (h o a b).1, (h o a b).2⟩
/-- the row at an in -/
theorem ir_c {M : xm} {N m i : Int} {A : Int → SS} (hC : cS M N) (hA : cG M N A) (hm : 0 ≤ m ∧ m < N) (hi : 0 ≤ i ∧ i ≤ 2) : cRw M (gR M N (mA M amCo (3 * m + i).toNat - 1)) (iRw A (mA M amCo (3 * m + i).toNat)) ∧ okO (iRw A (mA M amCo (3 * m + i).toNat)) := by
  have hb := hC.2.1.2.2.1 (3 * m + i).toNat
  have hcN := hC.2.2.2.2.2 m i hm.1 hm.2 hi.1 hi.2
  generalize mA M amCo (3 * m + i).toNat = c at *
  unfold gR iRw
  by_cases e : c ≤ 0
  · rw [if_neg (by omega), if_pos e]
    exact ⟨rfl, okO_n⟩
  · rw [if_pos (by omega), if_neg e]
    exact hA (c - 1) (by omega) (by omega)
def mx1 (I : Int → Option Rw) : Nat → Int → Bool → Option Bool
  | 0, _, B => some B
  | d + 1, i, B => if oBad (I i) = true then none else mx1 I d (i + 1) (B || (I i).isSome)
section MX
variable {M : xm} {N m : Int} {A : Int → SS}
theorem n_mix1 (hC : cS M N) (hA : cG M N A) (hm : 0 ≤ m ∧ m < N) (h5 : mA M amKd m.toNat = 5) {X : Option Bool} (Q : Option xv → xm → Prop)
    (hf : X = none → Q (some (vR 0)) (wA (wA M aBlok 0 4) aBlok 2 (-1)))
    (hg : ∀ B x4, X = some B → Wp qX0_mix 62 [vR aBlok, vR (uA m.toNat), vI (bi (B = true)), vI 3, x4] [] M Q) :
    ∀ (d : Nat) (i : Int) (B : Bool) (x4 : xv), i + d = 3 → 0 ≤ i → X = mx1 (fun i => iRw A (mA M amCo (3 * m + i).toNat)) d i B → Wp qX0_mix 4 [vR aBlok, vR (uA m.toNat), vI (bi (B = true)), vI i, x4] [] M Q
  | 0, i, B, x4, hd, h0, he => by
    have hu := hC.2.2.2.1 m hm.1 hm.2
    have q := c_inCount hu
    rw [show nin (mA M amKd m.toNat) = 3 by rw [h5]; rfl] at q
    obtain rfl : i = 3 := by omega
    have h := hg B x4 he
    rw [HX0_mix_4]
    simp (disch := first | omega | (simp only [DT, DS, ne_eq, Nat.reduceEqDiff, not_false_eq_true]; done)) only [RX0_mix, TGf, q, BW, wr_id, OM, OE, PL, ↓reduceIte, TGs, bi_T, bi_F, bi_ff, Nat.reduceLeDiff, Nat.reduceLT, Nat.reduceAdd] at h ⊢
    exact h
  | d + 1, i, B, x4, hd, h0, he => by
    have hu := hC.2.2.2.1 m hm.1 hm.2
    have q := c_inCount hu
    rw [show nin (mA M amKd m.toNat) = 3 by rw [h5]; rfl] at q
    have hi : 0 ≤ i ∧ i ≤ 2 := by omega
    have qr := c_rowAt hC hm hi
    obtain ⟨g1, g2⟩ := ir_c hC hA hm hi
    have ih := fun B' y4 => n_mix1 hC hA hm h5 Q hf hg d (i + 1) B' y4 (by omega) (by omega)
    unfold mx1 at he
    rw [HX0_mix_4]
    cases e : iRw A (mA M amCo (3 * m + i).toNat) with
    | none =>
      rw [e] at g1
      have z : gR M N (mA M amCo (3 * m + i).toNat - 1) = 0 := g1
      rw [z] at qr
      simp only [e] at he
      rw [if_neg (by decide)] at he
      cases B
      · have g := ih false (vR 0) he
        simp (disch := first | omega | (simp only [DT, DS, ne_eq, Nat.reduceEqDiff, not_false_eq_true]; done)) only [RX0_mix, TGf, q, qr, BW, wr_id, OM, OE, PL, ↓reduceIte, TGs, bi_T, bi_F, bi_ff, Nat.reduceLeDiff, Nat.reduceLT, Nat.reduceAdd] at g ⊢
        exact g
      · have g := ih true (vR 0) he
        simp (disch := first | omega | (simp only [DT, DS, ne_eq, Nat.reduceEqDiff, not_false_eq_true]; done)) only [RX0_mix, TGf, q, qr, BW, wr_id, OM, OE, PL, ↓reduceIte, TGs, bi_T, bi_F, bi_ff, Nat.reduceLeDiff, Nat.reduceLT, Nat.reduceAdd] at g ⊢
        exact g
    | some w =>
      rw [e] at g1
      have tz := tg_ne g1.1.2 (by decide)
      have tw := g1.1.2
      have ek := g1.2.1.1
      have ow := (g2 w e).1
      simp only [e] at he
      by_cases c2 : rwK w = 2
      · rw [if_neg (by show ¬ (!decide (rwK w = 2)) = true; rw [decide_eq_true c2]; decide)] at he
        cases B
        · have g := ih true (vR (gR M N (mA M amCo (3 * m + i).toNat - 1))) he
          simp (disch := first | omega | (simp only [DT, DS, ne_eq, Nat.reduceEqDiff, not_false_eq_true]; done)) only [RX0_mix, TGf, q, qr, tz, tw, ek, c2, BW, wr_id, OM, OE, PL, ↓reduceIte, TGs, bi_T, bi_F, bi_ff, Nat.reduceLeDiff, Nat.reduceLT, Nat.reduceAdd] at g ⊢
          exact g
        · have g := ih true (vR (gR M N (mA M amCo (3 * m + i).toNat - 1))) he
          simp (disch := first | omega | (simp only [DT, DS, ne_eq, Nat.reduceEqDiff, not_false_eq_true]; done)) only [RX0_mix, TGf, q, qr, tz, tw, ek, c2, BW, wr_id, OM, OE, PL, ↓reduceIte, TGs, bi_T, bi_F, bi_ff, Nat.reduceLeDiff, Nat.reduceLT, Nat.reduceAdd] at g ⊢
          exact g
      · rw [if_pos (by show (!decide (rwK w = 2)) = true; rw [decide_eq_false c2]; rfl)] at he
        have g := hf he
        simp (disch := first | omega | (simp only [DT, DS, ne_eq, Nat.reduceEqDiff, not_false_eq_true]; done)) only [RX0_mix, TGf, q, qr, tz, tw, ek, c2, c_fail hC (f := 4) (s := -1) (by decide) (by decide), BW, wr_id, OM, OE, PL, ↓reduceIte, TGs, bi_T, bi_F, bi_ff, Nat.reduceLeDiff, Nat.reduceLT, Nat.reduceAdd]
        exact g
theorem n_sumf (hC : cS M N) (hA : cG M N A) (hm : 0 ≤ m ∧ m < N) {k : Int} (hk : 0 ≤ k ∧ k ≤ 15) (h5 : mA M amKd m.toNat = 5) (hint : ∀ i, 0 ≤ i → i ≤ 2 → ∀ r, iRw A (mA M amCo (3 * m + i).toNat) = some r → rwK r = 2) (Q : Option xv → xm → Prop)
    (hf : ∀ S' M', -6442450944 ≤ S' ∧ S' ≤ 6442450944 → bkG M M' → mA M' aBlok 0 = 3 → mA M' aBlok 2 = k → Q (some (vJ S')) M') :
    ∀ (d : Nat) (i S : Int) (M' : xm) (x6 : xv), i + d = 3 → 0 ≤ i → (-2147483648 * i ≤ S ∧ S ≤ 2147483648 * i) → bkG M M' → mA M' aBlok 0 = 3 → mA M' aBlok 2 = k → Wp qX0_sumAt 5 [vR aBlok, vR (uA m.toNat), vI k, vJ S, vX, vI i, x6] [] M' Q
  | 0, i, S, M', x6, hd, h0, hS, hb, e0, e2 => by
    have hC' := hb.s hC
    have hu := hC'.2.2.2.1 m hm.1 hm.2
    have q := c_inCount hu
    rw [show nin (mA M' amKd m.toNat) = 3 by rw [hb.1 _ _ (fun z => absurd z.1 (by decide)), h5]; rfl] at q
    obtain rfl : i = 3 := by omega
    have g := hf S M' (by omega) hb e0 e2
    rw [HX0_sumAt_5]
    simp (disch := first | omega | (simp only [DT, DS, ne_eq, Nat.reduceEqDiff, not_false_eq_true]; done)) only [RX0_sumAt, TGf, q, BW, wr_id, OM, OE, PL, ↓reduceIte, TGs, bi_T, bi_F, bi_ff, Nat.reduceLeDiff, Nat.reduceLT, Nat.reduceAdd]
    exact g
  | d + 1, i, S, M', x6, hd, h0, hS, hb, e0, e2 => by
    have hC' := hb.s hC
    have hA' : cG M' N A := cG_c hA hb.row (fun o => by rw [hb.2.2.1])
    have hu := hC'.2.2.2.1 m hm.1 hm.2
    have q := c_inCount hu
    rw [show nin (mA M' amKd m.toNat) = 3 by rw [hb.1 _ _ (fun z => absurd z.1 (by decide)), h5]; rfl] at q
    have hi : 0 ≤ i ∧ i ≤ 2 := by omega
    have qr := c_rowAt hC' hm hi
    obtain ⟨g1, g2⟩ := ir_c hC' hA' hm hi
    have hin := hint i hi.1 hi.2
    rw [show mA M' amCo (3 * m + i).toNat = mA M amCo (3 * m + i).toNat from hb.1 _ _ (fun z => absurd z.1 (by decide))] at qr g1 g2
    have ih := fun S' M2 y6 => n_sumf hC hA hm hk h5 hint Q hf d (i + 1) S' M2 y6 (by omega) (by omega)
    rw [HX0_sumAt_5]
    cases e : iRw A (mA M amCo (3 * m + i).toNat) with
    | none =>
      rw [e] at g1
      have z : gR M' N (mA M amCo (3 * m + i).toNat - 1) = 0 := g1
      rw [z] at qr
      have g := ih S M' (vR 0) (by omega) hb e0 e2
      simp (disch := first | omega | (simp only [DT, DS, ne_eq, Nat.reduceEqDiff, not_false_eq_true]; done)) only [RX0_sumAt, TGf, q, qr, BW, wr_id, OM, OE, PL, ↓reduceIte, TGs, bi_T, bi_F, bi_ff, Nat.reduceLeDiff, Nat.reduceLT, Nat.reduceAdd]
      exact g
    | some w =>
      rw [e] at g1
      have tz := tg_ne g1.1.2 (by decide)
      have tw := g1.1.2
      have ow := g2 w e
      have k2 := hin w e
      have qe := c_ends hC' g1 ow hk
      have qv := c_valueAt g1 ow k (by omega)
      by_cases c : rwL w ≤ k
      · simp only [if_pos c] at qe
        have g := ih S (wA (wA M' aBlok 0 3) aBlok 2 k) (vR (gR M' N (mA M amCo (3 * m + i).toNat - 1))) (by omega) (hb.f (by decide) (wr_id (by omega) (by omega))) (by rw [wA_o _ _ (by decide), wA_e]) (wA_e _ _ _ _)
        simp (disch := first | omega | (simp only [DT, DS, ne_eq, Nat.reduceEqDiff, not_false_eq_true]; done)) only [RX0_sumAt, TGf, q, qr, tz, tw, qe, BW, wr_id, OM, OE, PL, ↓reduceIte, TGs, bi_T, bi_F, bi_ff, Nat.reduceLeDiff, Nat.reduceLT, Nat.reduceAdd]
        exact g
      · simp only [if_neg c] at qe
        have ev : smV (some w) k = rwV w k := by
          unfold smV
          dsimp only
          rw [if_pos (by omega)]
        simp only [ev] at qv
        have hr := sv_in (ow.2.2.2.2.1 k hk.1 hk.2) (show rwK w < 3 by omega)
        have g := ih (S + (FP.d2l (rwV w k)).toInt) M' (vR (gR M' N (mA M amCo (3 * m + i).toNat - 1))) (by omega) hb e0 e2
        simp (disch := first | omega | (simp only [DT, DS, ne_eq, Nat.reduceEqDiff, not_false_eq_true]; done)) only [RX0_sumAt, TGf, q, qr, tz, tw, qe, qv, BW, wr_id, OM, OE, PL, ↓reduceIte, TGs, bi_T, bi_F, bi_ff, Nat.reduceLeDiff, Nat.reduceLT, Nat.reduceAdd]
        exact g
theorem n_sum (hC : cS M N) (hA : cG M N A) (hm : 0 ≤ m ∧ m < N) {k : Int} (hk : 0 ≤ k ∧ k ≤ 15) (h5 : mA M amKd m.toNat = 5) (hint : ∀ i, 0 ≤ i → i ≤ 2 → ∀ r, iRw A (mA M amCo (3 * m + i).toNat) = some r → rwK r = 2) {Y : Option Int} (Q : Option xv → xm → Prop)
    (hs : ∀ S, -6442450944 ≤ S ∧ S ≤ 6442450944 → Y = some S → Q (some (vJ S)) M)
    (hf : Y = none → ∀ S' M', -6442450944 ≤ S' ∧ S' ≤ 6442450944 → bkG M M' → mA M' aBlok 0 = 3 → mA M' aBlok 2 = k → Q (some (vJ S')) M') :
    ∀ (d : Nat) (i S : Int) (x6 : xv), i + d = 3 → 0 ≤ i → (-2147483648 * i ≤ S ∧ S ≤ 2147483648 * i) → Y = mxF (fun i => (iRw A (mA M amCo (3 * m + i).toNat)).isSome) (fun i => oL (iRw A (mA M amCo (3 * m + i).toNat))) (fun i => oV (iRw A (mA M amCo (3 * m + i).toNat))) k d i S → Wp qX0_sumAt 5 [vR aBlok, vR (uA m.toNat), vI k, vJ S, vX, vI i, x6] [] M Q
  | 0, i, S, x6, hd, h0, hS, he => by
    have hu := hC.2.2.2.1 m hm.1 hm.2
    have q := c_inCount hu
    rw [show nin (mA M amKd m.toNat) = 3 by rw [h5]; rfl] at q
    obtain rfl : i = 3 := by omega
    have g := hs S (by omega) he
    rw [HX0_sumAt_5]
    simp (disch := first | omega | (simp only [DT, DS, ne_eq, Nat.reduceEqDiff, not_false_eq_true]; done)) only [RX0_sumAt, TGf, q, BW, wr_id, OM, OE, PL, ↓reduceIte, TGs, bi_T, bi_F, bi_ff, Nat.reduceLeDiff, Nat.reduceLT, Nat.reduceAdd]
    exact g
  | d + 1, i, S, x6, hd, h0, hS, he => by
    have hu := hC.2.2.2.1 m hm.1 hm.2
    have q := c_inCount hu
    rw [show nin (mA M amKd m.toNat) = 3 by rw [h5]; rfl] at q
    have hi : 0 ≤ i ∧ i ≤ 2 := by omega
    have qr := c_rowAt hC hm hi
    obtain ⟨g1, g2⟩ := ir_c hC hA hm hi
    have hin := hint i hi.1 hi.2
    have ih := fun S' y6 => n_sum hC hA hm hk h5 hint Q hs hf d (i + 1) S' y6 (by omega) (by omega)
    rw [mxF] at he
    rw [HX0_sumAt_5]
    cases e : iRw A (mA M amCo (3 * m + i).toNat) with
    | none =>
      rw [e] at g1
      have z : gR M N (mA M amCo (3 * m + i).toNat - 1) = 0 := g1
      rw [z] at qr
      simp only [e, Option.isSome_none, Bool.false_eq_true, if_false] at he
      have g := ih S (vR 0) (by omega) he
      simp (disch := first | omega | (simp only [DT, DS, ne_eq, Nat.reduceEqDiff, not_false_eq_true]; done)) only [RX0_sumAt, TGf, q, qr, BW, wr_id, OM, OE, PL, ↓reduceIte, TGs, bi_T, bi_F, bi_ff, Nat.reduceLeDiff, Nat.reduceLT, Nat.reduceAdd]
      exact g
    | some w =>
      rw [e] at g1
      have tz := tg_ne g1.1.2 (by decide)
      have tw := g1.1.2
      have ow := g2 w e
      have k2 := hin w e
      have qe := c_ends hC g1 ow hk
      have qv := c_valueAt g1 ow k (by omega)
      simp only [e, Option.isSome_some, if_true] at he
      have el : oL (some w) = rwL w := rfl
      have eo : oV (some w) = rwV w := rfl
      rw [el, eo] at he
      by_cases c : rwL w ≤ k
      · simp only [if_pos c] at qe
        rw [if_pos c] at he
        have g := n_sumf hC hA hm hk h5 hint Q (hf he) d (i + 1) S (wA (wA M aBlok 0 3) aBlok 2 k) (vR (gR M N (mA M amCo (3 * m + i).toNat - 1))) (by omega) (by omega) (by omega) ((bkG.refl hC.2.1.2.1).f (by decide) (wr_id (by omega) (by omega))) (by rw [wA_o _ _ (by decide), wA_e]) (wA_e _ _ _ _)
        simp (disch := first | omega | (simp only [DT, DS, ne_eq, Nat.reduceEqDiff, not_false_eq_true]; done)) only [RX0_sumAt, TGf, q, qr, tz, tw, qe, BW, wr_id, OM, OE, PL, ↓reduceIte, TGs, bi_T, bi_F, bi_ff, Nat.reduceLeDiff, Nat.reduceLT, Nat.reduceAdd]
        exact g
      · simp only [if_neg c] at qe
        rw [if_neg c] at he
        have ev : smV (some w) k = rwV w k := by
          unfold smV
          dsimp only
          rw [if_pos (by omega)]
        simp only [ev] at qv
        have hr := sv_in (ow.2.2.2.2.1 k hk.1 hk.2) (show rwK w < 3 by omega)
        have g := ih (S + (FP.d2l (rwV w k)).toInt) (vR (gR M N (mA M amCo (3 * m + i).toNat - 1))) (by omega) he
        simp (disch := first | omega | (simp only [DT, DS, ne_eq, Nat.reduceEqDiff, not_false_eq_true]; done)) only [RX0_sumAt, TGf, q, qr, tz, tw, qe, qv, BW, wr_id, OM, OE, PL, ↓reduceIte, TGs, bi_T, bi_F, bi_ff, Nat.reduceLeDiff, Nat.reduceLT, Nat.reduceAdd]
        exact g
end MX
section MX2
variable {M0 M : xm} {m : Int} {L V : Nat}
theorem cFo.bk {M' : xm} (h : cFo M0 m L V M) (g : bkG M M') : cFo M0 m L V M' := by
  obtain ⟨h1, h2, h3, h4, h5, h6⟩ := h
  obtain ⟨g1, g2, g3, g4, g5, g6⟩ := g
  exact ⟨fun l j a b c => (g1 l j c).trans (h1 l j a b c), fun l j a b => by rw [g2]; exact h2 l j a b, g3.trans h3, g4.trans h4, ⟨g5.1.trans h5.1, g5.2.trans h5.2⟩, g6⟩
theorem cFo.wN (h : cFo M0 m L V M) {j0 : Nat} {x : Int} (hj : j0 = 1 ∨ j0 = 4 ∨ j0 = 5) (hx : wr x = x) : cFo M0 m L V (wA M (nowA m.toNat) j0 x) := by
  obtain ⟨h1, h2, h3, h4, h5, h6⟩ := h
  refine ⟨fun l j a b c => ?_, h2, h3, h4, h5, h6.wA _ _ hx⟩
  rw [wA_o _ _ (fun q => a ⟨q.1, by rw [q.2]; exact hj⟩)]
  exact h1 l j a b c
theorem cFo.wV (h : cFo M0 m L V M) (j0 : Nat) (x : UInt64) : cFo M0 m L V (wB M V j0 x) := by
  obtain ⟨h1, h2, h3, h4, h5, h6⟩ := h
  refine ⟨h1, fun l j a b => ?_, h3, h4, h5, h6⟩
  rw [wB_o _ _ (fun q => b q.1)]
  exact h2 l j a b
theorem bkG.k {M' : xm} {kd n : Int} (h : bkG M M') (hK : mkd M L V kd n) : mkd M' L V kd n := by
  obtain ⟨k1, ⟨k2, k3⟩, k4, k5, k6⟩ := hK
  have hb : ¬ L = aBlok := tg_d k1.1 (show tg aBlok = 1 by decide) (by decide)
  exact ⟨k1, ⟨by rw [h.1 _ _ (fun q => hb q.1)]; exact k2, by rw [h.1 _ _ (fun q => hb q.1)]; exact k3⟩, by rw [h.2.2.1]; exact k4, k5, k6⟩
/-- the rows of modules, while a module makes its own -/
theorem cF.cg {N : Int} {A : Int → SS} (h : cFo M0 m L V M) (hA : cG M0 N A) (hL : ∀ o, 0 ≤ o → o < N → ¬ mR M0 (nowA o.toNat) 0 = 0 → ¬ mR M0 (nowA o.toNat) 0 = L ∧ ¬ mR M0 (mR M0 (nowA o.toNat) 0) 2 = V) : cG M N A := fun o a b => by
  obtain ⟨g1, g2⟩ := hA o a b
  refine ⟨?_, g2⟩
  rw [h.2.2.1]
  cases e : sR (A o) with
  | none => rw [e] at g1; exact g1
  | some w =>
    rw [e] at g1
    exact h.g g1 (hL o a b (tg_ne g1.1.2 (by decide)))
theorem n_mix {N n : Int} {A : Int → SS} (hC : cS M0 N) (hA : cG M0 N A) (hm : 0 ≤ m ∧ m < N) (en : mA M0 aBlok 7 = n) (hK : mkd M0 L V 2 n) (h5 : mA M0 amKd m.toNat = 5) (hf0 : mA M0 aBlok 0 = 0) (hL : ∀ o, 0 ≤ o → o < N → ¬ mR M0 (nowA o.toNat) 0 = 0 → ¬ mR M0 (nowA o.toNat) 0 = L ∧ ¬ mR M0 (mR M0 (nowA o.toNat) 0) 2 = V) (hint : ∀ i, 0 ≤ i → i ≤ 2 → ∀ r, iRw A (mA M0 amCo (3 * m + i).toNat) = some r → rwK r = 2) (x2 : Int) (Q : Option xv → xm → Prop) :
    ∀ (d : Nat) (k : Int) (z : ZT) (M : xm), k + d = n → 0 ≤ k → cF M0 m L V M → cV M m L V z k → (0 ≤ zN z ∧ zN z ≤ 1000000 + k) → cPost M0 m n L V Q (lpF (mixS (fun i => (iRw A (mA M0 amCo (3 * m + i).toNat)).isSome) (fun i => oL (iRw A (mA M0 amCo (3 * m + i).toNat))) (fun i => oV (iRw A (mA M0 amCo (3 * m + i).toNat)))) d k z) → Wp qX0_mix 84 [vR aBlok, vR (uA m.toNat), vI x2, vR L, vI k] [] M Q
  | 0, k, z, M, hd, h0, hF, hV, hsa, hP => by
    have hR' : ∀ L k, wr (mA M L k) = mA M L k := hF.2.2.2.2.2
    have t := hK.1.1
    have e7 : mA M aBlok 7 = n := by rw [hF.b7 t]; exact en
    have hn := hK.2.2.2.2
    obtain rfl : k = n := by omega
    rw [HX0_mix_84]
    simp (disch := first | omega | (simp only [DT, DS, ne_eq, Nat.reduceEqDiff, not_false_eq_true]; done)) only [RX0_mix, e7, BW, wr_id, OM, OE, PL, ↓reduceIte, TGs, bi_T, bi_F, bi_ff, Nat.reduceLeDiff, Nat.reduceLT, Nat.reduceAdd]
    exact hP M hF hV
  | d + 1, k, z, M, hd, h0, hF, hV, hsa, hP => by
    have hR' : ∀ L k, wr (mA M L k) = mA M L k := hF.2.2.2.2.2
    have t := hK.1.1
    have hCM := hF.o.s t hC
    have hKM := hF.k hK
    have hAM := cF.cg hF.o hA hL
    have e7 : mA M aBlok 7 = n := by rw [hF.b7 t]; exact en
    have f0 : mA M aBlok 0 = 0 := by rw [hF.2.2.2.2.1.2.2]; exact hf0
    have hn := hK.2.2.2.2
    have hu := hCM.2.2.2.1 m hm.1 hm.2
    have hu1 := hu.1
    have hk15 : 0 ≤ k ∧ k ≤ 15 := by omega
    have hkn : 0 ≤ k ∧ k < n := by omega
    obtain ⟨v1, v2, v3, v4, v5, v6, v7, v8⟩ := id hV
    have eco : ∀ j, mA M amCo j = mA M0 amCo j := fun j => hF.o.a t _ (by decide) (by decide) (by decide)
    have ekd : mA M amKd m.toNat = 5 := by rw [hF.o.a t _ (by decide) (by decide) (by decide)]; exact h5
    have pe : ∀ x, ptF 2 x = x := fun x => rfl
    have ni : ∀ x, isNaN64 (FP.i2d x) = false := fun x => (mg_i x).nn (by decide)
    have key := fun Y => n_sum (Y := Y) hCM hAM hm hk15 ekd (fun i a b r e => hint i a b r (by rw [← eco]; exact e))
    simp only [eco] at key
    rw [HX0_mix_84]
    simp (disch := first | omega | (simp only [DT, DS, ne_eq, Nat.reduceEqDiff, not_false_eq_true]; done)) only [RX0_mix, e7, f0, TGf, hu1.2.2.1, BW, wr_id, OM, OE, PL, ↓reduceIte, TGs, bi_T, bi_F, bi_ff, Nat.reduceLeDiff, Nat.reduceLT, Nat.reduceAdd]
    simp (disch := omega) only [RX0_sumAt, BW, wr_id]
    refine key _ _ (fun S hS he => ?_) (fun he S M' hS hb e0 e2 => ?_) 3 0 0 vX (by omega) (by omega) (by omega) rfl
    · have hsb : 0 ≤ mA M (nowA m.toNat) 5 ∧ mA M (nowA m.toNat) 5 ≤ 1000000000 := by rw [v3]; omega
      have hw := c_held32 (M := M) (TGf.2.2.2.2.1 m.toNat) S (by omega) hsb
      rw [v3] at hw
      have hb := si_b 2147483647 S
      have hK1 := hKM.w m.toNat 5 (zN z + si 2147483647 S)
      have st : mixS (fun i => (iRw A (mA M0 amCo (3 * m + i).toNat)).isSome) (fun i => oL (iRw A (mA M0 amCo (3 * m + i).toNat))) (fun i => oV (iRw A (mA M0 amCo (3 * m + i).toNat))) k z = .inr (zP z, zK z, zO z, zU z, zN z + si 2147483647 S, zM z, upV (zV z) k.toNat (FP.i2d (Int32.ofInt (cz 2147483647 S))), zS z) := by
        unfold mixS
        rw [he]
      rw [lpF_r st] at hP
      simp (disch := first | omega | (simp only [DT, DS, ne_eq, Nat.reduceEqDiff, not_false_eq_true]; done)) only [RX0_mix, TGf, hw, t, hK1.p hkn _ (ni _), pe, BW, wr_id, OM, OE, PL, ↓reduceIte, TGs, bi_T, bi_F, bi_ff, Nat.reduceLeDiff, Nat.reduceLT, Nat.reduceAdd]
      exact n_mix hC hA hm en hK h5 hf0 hL hint x2 Q d (k + 1) _ _ (by omega) (by omega) ((hF.wN (Or.inr (Or.inr rfl)) (wr_id (by omega) (by omega))).wV _ _) (cV_v (cV_n hV t (zN z + si 2147483647 S)) hK.1.2 h0 _) ⟨by show 0 ≤ zN z + _; omega, by show zN z + _ ≤ _; omega⟩ hP
    · have st : mixS (fun i => (iRw A (mA M0 amCo (3 * m + i).toNat)).isSome) (fun i => oL (iRw A (mA M0 amCo (3 * m + i).toNat))) (fun i => oV (iRw A (mA M0 amCo (3 * m + i).toNat))) k z = .inl 3 := by
        unfold mixS
        rw [he]
      rw [lpF_l st] at hP
      have w3 : mA M' (nowA m.toNat) 5 = zN z := by rw [hb.1 _ _ (fun q => now_b _ q.1)]; exact v3
      have hsb : 0 ≤ mA M' (nowA m.toNat) 5 ∧ mA M' (nowA m.toNat) 5 ≤ 1000000000 := by rw [w3]; omega
      have hw := c_held32 (M := M') (TGf.2.2.2.2.1 m.toNat) S (by omega) hsb
      rw [w3] at hw
      have hsi := si_b 2147483647 S
      have hK1 := (hb.k hKM).w m.toNat 5 (zN z + si 2147483647 S)
      have g := hP (wB (wA M' (nowA m.toNat) 5 (zN z + si 2147483647 S)) V k.toNat (FP.i2d (Int32.ofInt (cz 2147483647 S)))) L (((hF.o.bk hb).wN (Or.inr (Or.inr rfl)) (wr_id (by omega) (by omega))).wV _ _) ((wA_o M' _ (fun q => now_b _ q.1.symm)).trans e0) ((wA_o M' _ (fun q => now_b _ q.1.symm)).trans e2)
      have e7' : mA (wB (wA M' (nowA m.toNat) 5 (zN z + si 2147483647 S)) V k.toNat (FP.i2d (Int32.ofInt (cz 2147483647 S)))) aBlok 7 = n := (wA_o M' _ (fun q => now_b _ q.1.symm)).trans ((hb.1 _ _ (by decide)).trans e7)
      have e0' : mA (wB (wA M' (nowA m.toNat) 5 (zN z + si 2147483647 S)) V k.toNat (FP.i2d (Int32.ofInt (cz 2147483647 S)))) aBlok 0 = 3 := (wA_o M' _ (fun q => now_b _ q.1.symm)).trans e0
      simp (disch := first | omega | (simp only [DT, DS, ne_eq, Nat.reduceEqDiff, not_false_eq_true]; done)) only [RX0_mix, TGf, hw, t, hK1.p hkn _ (ni _), pe, BW, wr_id, OM, OE, PL, ↓reduceIte, TGs, bi_T, bi_F, bi_ff, Nat.reduceLeDiff, Nat.reduceLT, Nat.reduceAdd]
      rw [HX0_mix_84]
      by_cases ck : k + 1 < n
      · simp (disch := first | omega | (simp only [DT, DS, ne_eq, Nat.reduceEqDiff, not_false_eq_true]; done)) only [RX0_mix, e7', e0', BW, wr_id, OM, OE, PL, ↓reduceIte, TGs, bi_T, bi_F, bi_ff, Nat.reduceLeDiff, Nat.reduceLT, Nat.reduceAdd]
        exact g
      · simp (disch := first | omega | (simp only [DT, DS, ne_eq, Nat.reduceEqDiff, not_false_eq_true]; done)) only [RX0_mix, e7', e0', BW, wr_id, OM, OE, PL, ↓reduceIte, TGs, bi_T, bi_F, bi_ff, Nat.reduceLeDiff, Nat.reduceLT, Nat.reduceAdd]
        exact g
end MX2
