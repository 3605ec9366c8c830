/-! 74.cac2: the developers' own: MIX, SWITCH, DELAY; newRowOf -/
theorem mx1_3 (I : Int → Option Rw) : mx1 I 3 0 false = if (oBad (I 0) || oBad (I 1) || oBad (I 2)) = true then none else some ((I 0).isSome || (I 1).isSome || (I 2).isSome) := by
  rw [mx1, mx1, mx1, mx1, show (0 : Int) + 1 = 1 from rfl, show (1 : Int) + 1 = 2 from rfl]
  cases oBad (I 0) <;> cases oBad (I 1) <;> cases oBad (I 2) <;> simp
theorem bad_f {r : Option Rw} (h : oBad r = false) : ∀ w, r = some w → rwK w = 2 := fun w e => by
  rw [e] at h
  have h' : (!decide (rwK w = 2)) = false := h
  by_cases c : rwK w = 2
  · exact c
  · rw [decide_eq_false c] at h'
    exact absurd h' (by decide)
section AC2
variable {M : xm} {N n t m : Int} {A : Int → SS}
theorem set_c {Q : Option xv → xm → Prop} {x : Option Rw} {X : Nat} (hC : cS M N) (hA : cA M N t A) (hm : 0 ≤ m ∧ m < N) (hP : cPostA M m Q (.inr (setR (A m) x))) (h : cRw M X x) : Q (some (vR X)) M := by
  obtain ⟨⟨_, ⟨s1, s2, s3, s4, s5, s6⟩, _⟩, _⟩ := hA m hm.1 hm.2
  exact hP M X (acG.refl m hC.2.1.2.1) rfl h ⟨s1, s2, s3, s4, s5⟩
theorem v_mix (hC : cS M N) (hA : cA M N t A) (ht : t ≤ 50000) (en : mA M aBlok 7 = n) (hn : 1 ≤ n ∧ n ≤ 16) (hm : 0 ≤ m ∧ m < N) (h5 : mA M amKd m.toNat = 5) (hf0 : mA M aBlok 0 = 0) (Q : Option xv → xm → Prop) (hP : cPostA M m Q (if (oBad (iRw A (mA M amCo (3 * m + 0).toNat)) || oBad (iRw A (mA M amCo (3 * m + 1).toNat)) || oBad (iRw A (mA M amCo (3 * m + 2).toNat))) = true then .inl (4, -1) else if ((iRw A (mA M amCo (3 * m + 0).toNat)).isSome || (iRw A (mA M amCo (3 * m + 1).toNat)).isSome || (iRw A (mA M amCo (3 * m + 2).toNat)).isSome) = true then famF (A m) 2 n (lpF (mixS (fun i => (iRw A (mA M amCo (3 * m + i).toNat)).isSome) (fun i => oL (iRw A (mA M amCo (3 * m + i).toNat))) (fun i => oV (iRw A (mA M amCo (3 * m + i).toNat)))) n.toNat 0 (z0 (A m))) else .inr (setR (A m) none))) : Wp qX0_mix 0 [vR aBlok, vR (uA m.toNat), vX, vX, vX] [] M Q := by
  have hR' := hC.r
  have e3 := mx1_3 (fun i => iRw A (mA M amCo (3 * m + i).toNat))
  have key := fun X => n_mix1 (X := X) hC hA.g hm h5 Q
  have f3 : (0 : Int) + (n.toNat : Nat) = n := by omega
  have f4 : sN (A m) ≤ 1000000 + 0 := by
    have := (hA m hm.1 hm.2).2.2.2.2.2.1
    omega
  have f5 := (hA m hm.1 hm.2).2.2.2.2.2.1.1
  cases b : (oBad (iRw A (mA M amCo (3 * m + 0).toNat)) || oBad (iRw A (mA M amCo (3 * m + 1).toNat)) || oBad (iRw A (mA M amCo (3 * m + 2).toNat)))
  · rw [b, if_neg (by decide)] at hP
    rw [b, if_neg (by decide)] at e3
    have b0 := Bool.or_eq_false_iff.mp b
    have b1 := Bool.or_eq_false_iff.mp b0.1
    have hint : ∀ i : Int, 0 ≤ i → i ≤ 2 → ∀ r, iRw A (mA M amCo (3 * m + i).toNat) = some r → rwK r = 2 := fun i i0 i2 r e => by
      rcases (show i = 0 ∨ i = 1 ∨ i = 2 by omega) with rfl | rfl | rfl
      · exact bad_f b1.1 r e
      · exact bad_f b1.2 r e
      · exact bad_f b0.2 r e
    have g := key _ (fun h => absurd h (by simp)) (fun B x4 h => ?_) 3 0 false vX (by omega) (by omega) e3.symm
    · rw [bi_ff] at g
      simp (disch := first | omega | (simp only [DT, DS, ne_eq, Nat.reduceEqDiff, not_false_eq_true]; done)) only [RX0_mix, BW, wr_id, OM, OE, PL, ↓reduceIte, TGs, bi_T, bi_F, bi_ff, Nat.reduceLeDiff, Nat.reduceLT, Nat.reduceAdd]
      exact g
    · cases a : ((iRw A (mA M amCo (3 * m + 0).toNat)).isSome || (iRw A (mA M amCo (3 * m + 1).toNat)).isSome || (iRw A (mA M amCo (3 * m + 2).toNat)).isSome)
      · rw [a, if_neg (by decide)] at hP
        rw [a] at h
        obtain rfl := Option.some.inj h
        have g := set_c hC hA hm hP (X := 0) rfl
        simp (disch := first | omega | (simp only [DT, DS, ne_eq, Nat.reduceEqDiff, not_false_eq_true]; done)) only [RX0_mix, BW, wr_id, OM, OE, PL, ↓reduceIte, TGs, bi_T, bi_F, bi_ff, Nat.reduceLeDiff, Nat.reduceLT, Nat.reduceAdd]
        exact g
      · rw [a, if_pos rfl] at hP
        rw [a] at h
        obtain rfl := Option.some.inj h
        obtain ⟨a1, a2, a3, a4, a5, a6, a7, a8, a9, a10, a11, a12, a13⟩ := mk_set (kd := 2) (c := 8772) hC hA en hn (by omega) (by omega) hm
        have nb := na_n (M := M) (c := 8772) (by omega) (show ¬ tg aBlok = 5 by decide)
        have P := a11 Q (A m) _ hP
        have eC : ∀ j, mA (mkR M 2 n 8772) amCo j = mA M amCo j := fun j => a7 _ _ (by unfold nonS; decide)
        have eD : ∀ j, mA (mkR M 2 n 8772) amKd j = mA M amKd j := fun j => a7 _ _ (by unfold nonS; decide)
        have g := n_mix a1 a9 hm a3 a5 (by rw [eD]; exact h5) (a4.trans hf0) a13 (fun i i0 i2 r e => hint i i0 i2 r (by rw [← eC]; exact e)) 1 Q n.toNat 0 (z0 (A m)) _ f3 (Int.le_refl 0) (cF.refl m _ _ a12) a6 ⟨f5, f4⟩ (by simp only [eC]; exact P)
        simp (disch := first | omega | (simp only [DT, DS, ne_eq, Nat.reduceEqDiff, not_false_eq_true]; done)) only [RX0_mix, TGf, MM, nb, en, na_tg M (show 8772 < 131072 by decide), c_init4 (na_tg M (show 8772 < 131072 by decide)) (kd := 2) (n := n) (by omega) hn, BW, wr_id, OM, OE, PL, ↓reduceIte, TGs, bi_T, bi_F, bi_ff, Nat.reduceLeDiff, Nat.reduceLT, Nat.reduceAdd]
        exact g
  · rw [b, if_pos rfl] at hP
    rw [b, if_pos rfl] at e3
    have g := key _ (fun _ => afl hC.2.1.2.1 (by decide) (by decide) hP 0) (fun B x4 h => absurd h (by simp)) 3 0 false vX (by omega) (by omega) e3.symm
    rw [bi_ff] at g
    simp (disch := first | omega | (simp only [DT, DS, ne_eq, Nat.reduceEqDiff, not_false_eq_true]; done)) only [RX0_mix, BW, wr_id, OM, OE, PL, ↓reduceIte, TGs, bi_T, bi_F, bi_ff, Nat.reduceLeDiff, Nat.reduceLT, Nat.reduceAdd]
    exact g
theorem v_switch (hC : cS M N) (hA : cA M N t A) (en : mA M aBlok 7 = n) (hn : 1 ≤ n ∧ n ≤ 16) (hm : 0 ≤ m ∧ m < N) (Q : Option xv → xm → Prop) (hP : cPostA M m Q (bindW (wantF A (mA M amCo (3 * m).toNat) (-1)) (fun r => bindW (wantF A (mA M amCo (3 * m + 1).toNat) 0) (fun g => if rwL g ≤ n - 1 then .inl (3, n - 1) else if FP.dcmp (rwV g (n - 1)) FP.dconst1 = some .eq then .inr (setR (A m) (some r)) else .inr (setR (A m) none))))) : Wp qX0_passOn 0 [vR aBlok, vR (uA m.toNat), vX, vX] [] M Q := by
  have hR' := hC.r
  have qw := c_wanted (i := 0) (kind := -1) hC hA.g hm (by omega) (by omega)
  have wr0 := fun r => wnt_r (r := r) (i := 0) (kind := -1) hC hA hm (by omega)
  rw [show 3 * m + 0 = 3 * m by omega] at qw wr0
  have qw2 := c_wanted (i := 1) (kind := 0) hC hA.g hm (by omega) (by omega)
  have wr1 := fun r => wnt_r (r := r) (i := 1) (kind := 0) hC hA hm (by omega)
  cases e : wantF A (mA M amCo (3 * m).toNat) (-1) with
  | inl f =>
    simp only [e] at qw
    rw [e] at hP
    have hf := want_l e
    simp (disch := first | omega | (simp only [DT, DS, ne_eq, Nat.reduceEqDiff, not_false_eq_true]; done)) only [RX0_passOn, TGf, qw, BW, wr_id, OM, OE, PL, ↓reduceIte, TGs, bi_T, bi_F, bi_ff, Nat.reduceLeDiff, Nat.reduceLT, Nat.reduceAdd]
    exact afl hC.2.1.2.1 (wr_id (by omega) (by omega)) (by decide) hP _
  | inr r =>
    simp only [e] at qw
    rw [e] at hP
    obtain ⟨g1, g2, g3⟩ := wr0 r e
    have tz := tg_ne g1.1.2 (by decide)
    cases e' : wantF A (mA M amCo (3 * m + 1).toNat) 0 with
    | inl f =>
      simp only [e'] at qw2
      have hP' : cPostA M m Q (.inl (f, -1)) := by
        rw [e'] at hP
        exact hP
      have hf := want_l e'
      simp (disch := first | omega | (simp only [DT, DS, ne_eq, Nat.reduceEqDiff, not_false_eq_true]; done)) only [RX0_passOn, TGf, qw, tz, qw2, BW, wr_id, OM, OE, PL, ↓reduceIte, TGs, bi_T, bi_F, bi_ff, Nat.reduceLeDiff, Nat.reduceLT, Nat.reduceAdd]
      exact afl hC.2.1.2.1 (wr_id (by omega) (by omega)) (by decide) hP' _
    | inr g =>
      simp only [e'] at qw2
      obtain ⟨h1, h2, h3⟩ := wr1 g e'
      have tz2 := tg_ne h1.1.2 (by decide)
      have tg2 := h1.1.2
      have qe := c_ends (k := n - 1) hC h1 h2 (by omega)
      have qv := c_valueAt h1 h2 (n - 1) (by omega)
      have hP' : cPostA M m Q (if rwL g ≤ n - 1 then .inl (3, n - 1) else if FP.dcmp (rwV g (n - 1)) FP.dconst1 = some .eq then .inr (setR (A m) (some r)) else .inr (setR (A m) none)) := by
        rw [e'] at hP
        exact hP
      by_cases c1 : rwL g ≤ n - 1
      · simp only [if_pos c1] at qe
        rw [if_pos c1] at hP'
        simp (disch := first | omega | (simp only [DT, DS, ne_eq, Nat.reduceEqDiff, not_false_eq_true]; done)) only [RX0_passOn, TGf, qw, tz, qw2, tz2, tg2, en, qe, BW, wr_id, OM, OE, PL, ↓reduceIte, TGs, bi_T, bi_F, bi_ff, Nat.reduceLeDiff, Nat.reduceLT, Nat.reduceAdd]
        exact afl hC.2.1.2.1 (by decide) (wr_id (by omega) (by omega)) hP' _
      · simp only [if_neg c1] at qe
        rw [if_neg c1] at hP'
        have ev : smV (some g) (n - 1) = rwV g (n - 1) := by
          unfold smV
          dsimp only
          rw [if_pos (by omega)]
        simp only [ev] at qv
        by_cases c2 : FP.dcmp (rwV g (n - 1)) FP.dconst1 = some .eq
        · rw [if_pos c2] at hP'
          simp (disch := first | omega | (simp only [DT, DS, ne_eq, Nat.reduceEqDiff, not_false_eq_true]; done)) only [RX0_passOn, TGf, qw, tz, qw2, tz2, tg2, en, qe, qv, cmp_l, c2, BW, wr_id, OM, OE, PL, ↓reduceIte, TGs, bi_T, bi_F, bi_ff, Nat.reduceLeDiff, Nat.reduceLT, Nat.reduceAdd]
          exact set_c hC hA hm hP' g1
        · rw [if_neg c2] at hP'
          simp (disch := first | omega | (simp only [DT, DS, ne_eq, Nat.reduceEqDiff, not_false_eq_true]; done)) only [RX0_passOn, TGf, qw, tz, qw2, tz2, tg2, en, qe, qv, cmp_l, c2, BW, wr_id, OM, OE, PL, ↓reduceIte, TGs, bi_T, bi_F, bi_ff, Nat.reduceLeDiff, Nat.reduceLT, Nat.reduceAdd]
          exact set_c hC hA hm hP' rfl
/-- THE DEVELOPERS' newRowOf IS actF -/
theorem c_newRow (hC : cS M N) (hT : cTb M) (hA : cA M N t A) (ht : t ≤ 50000) (en : mA M aBlok 7 = n) (hn : 1 ≤ n ∧ n ≤ 16) (hf0 : mA M aBlok 0 = 0) (hm : 0 ≤ m ∧ m < N) (Q : Option xv → xm → Prop) (hP : cPostA M m Q (actF (mA M) n A m)) : Wp qX0_newRowOf 0 [vR aBlok, vR (uA m.toNat)] [] M Q := by
  have hR' := hC.r
  have hu := hC.2.2.2.1 m hm.1 hm.2
  have ek := hu.2.2.2.1.2.1
  have kb := hC.2.1.2.2.2.1 m.toNat
  have lift : ∀ q : xq, ∀ lv : List xv, ∀ pc : Nat, (∀ x M', Q (some (vR x)) M' → cont qX0_newRowOf pc lv [] Q (some (vR x)) M') → ∀ R : (Int × Int) ⊕ SS, cPostA M m Q R → cPostA M m (cont qX0_newRowOf pc lv [] Q) R := fun q lv pc h R hR => by
    cases R with
    | inl fk =>
      obtain ⟨f, k⟩ := fk
      exact fun M' x a b c => h x M' (hR M' x a b c)
    | inr s => exact fun M' x a b c d => h x M' (hR M' x a b c d)
  rcases (show mA M amKd m.toNat = 0 ∨ (1 ≤ mA M amKd m.toNat ∧ mA M amKd m.toNat ≤ 4) ∨ mA M amKd m.toNat = 5 ∨ mA M amKd m.toNat = 6 ∨ mA M amKd m.toNat = 7 ∨ mA M amKd m.toNat = 8 ∨ mA M amKd m.toNat = 9 ∨ mA M amKd m.toNat = 10 by omega) with e | e | e | e | e | e | e | e
  · rw [actF_0 e] at hP
    simp (disch := first | omega | (simp only [DT, DS, ne_eq, Nat.reduceEqDiff, not_false_eq_true]; done)) only [RX0_newRowOf, TGf, ek, e, BW, wr_id, OM, OE, PL, ↓reduceIte, TGs, bi_T, bi_F, bi_ff, Nat.reduceLeDiff, Nat.reduceLT, Nat.reduceAdd]
    refine v_source hC hT hA ht en hn hm _ (lift qX0_newRowOf _ 65 (fun x M' h => ?_) _ hP)
    simp (disch := first | omega | (simp only [DT, DS, ne_eq, Nat.reduceEqDiff, not_false_eq_true]; done)) only [RX0_newRowOf, BW, wr_id, OM, OE, PL, ↓reduceIte, TGs, bi_T, bi_F, bi_ff, Nat.reduceLeDiff, Nat.reduceLT, Nat.reduceAdd]
    exact h
  · rw [actF_1 e] at hP
    have g := v_shape hC hA en hn hm e _ (lift qX0_newRowOf [vR aBlok, vR (uA m.toNat)] 71 (fun x M' h => by
      simp (disch := first | omega | (simp only [DT, DS, ne_eq, Nat.reduceEqDiff, not_false_eq_true]; done)) only [RX0_newRowOf, BW, wr_id, OM, OE, PL, ↓reduceIte, TGs, bi_T, bi_F, bi_ff, Nat.reduceLeDiff, Nat.reduceLT, Nat.reduceAdd]
      exact h) _ hP)
    rcases (show mA M amKd m.toNat = 1 ∨ mA M amKd m.toNat = 2 ∨ mA M amKd m.toNat = 3 ∨ mA M amKd m.toNat = 4 by omega) with e' | e' | e' | e'
    · simp (disch := first | omega | (simp only [DT, DS, ne_eq, Nat.reduceEqDiff, not_false_eq_true]; done)) only [RX0_newRowOf, TGf, ek, e', BW, wr_id, OM, OE, PL, ↓reduceIte, TGs, bi_T, bi_F, bi_ff, Nat.reduceLeDiff, Nat.reduceLT, Nat.reduceAdd]
      exact g
    · simp (disch := first | omega | (simp only [DT, DS, ne_eq, Nat.reduceEqDiff, not_false_eq_true]; done)) only [RX0_newRowOf, TGf, ek, e', BW, wr_id, OM, OE, PL, ↓reduceIte, TGs, bi_T, bi_F, bi_ff, Nat.reduceLeDiff, Nat.reduceLT, Nat.reduceAdd]
      exact g
    · simp (disch := first | omega | (simp only [DT, DS, ne_eq, Nat.reduceEqDiff, not_false_eq_true]; done)) only [RX0_newRowOf, TGf, ek, e', BW, wr_id, OM, OE, PL, ↓reduceIte, TGs, bi_T, bi_F, bi_ff, Nat.reduceLeDiff, Nat.reduceLT, Nat.reduceAdd]
      exact g
    · simp (disch := first | omega | (simp only [DT, DS, ne_eq, Nat.reduceEqDiff, not_false_eq_true]; done)) only [RX0_newRowOf, TGf, ek, e', BW, wr_id, OM, OE, PL, ↓reduceIte, TGs, bi_T, bi_F, bi_ff, Nat.reduceLeDiff, Nat.reduceLT, Nat.reduceAdd]
      exact g
  · rw [actF_5 e] at hP
    simp (disch := first | omega | (simp only [DT, DS, ne_eq, Nat.reduceEqDiff, not_false_eq_true]; done)) only [RX0_newRowOf, TGf, ek, e, BW, wr_id, OM, OE, PL, ↓reduceIte, TGs, bi_T, bi_F, bi_ff, Nat.reduceLeDiff, Nat.reduceLT, Nat.reduceAdd]
    refine v_mix hC hA ht en hn hm e hf0 _ (lift qX0_newRowOf _ 77 (fun x M' h => ?_) _ hP)
    simp (disch := first | omega | (simp only [DT, DS, ne_eq, Nat.reduceEqDiff, not_false_eq_true]; done)) only [RX0_newRowOf, BW, wr_id, OM, OE, PL, ↓reduceIte, TGs, bi_T, bi_F, bi_ff, Nat.reduceLeDiff, Nat.reduceLT, Nat.reduceAdd]
    exact h
  · rw [actF_6 e] at hP
    have k0 := hu.2.2.2.2.1 0 (by omega) (by omega)
    rw [show 3 * m + 0 = 3 * m by omega, show (0 : Int).toNat = 0 from rfl] at k0
    have knb := hC.2.1.2.2.2.2.2.1 (3 * m).toNat
    have hc : 1 ≤ clp (mA M amKn (3 * m).toNat) ∧ clp (mA M amKn (3 * m).toNat) ≤ 4 := by
      unfold clp
      split
      · omega
      · split <;> omega
    have qf := c_fedAgo (M := M) (TGf.2.2.2.2.1 m.toNat) hu.1.2.2.2.2 ⟨TGf.2.2.2.2.2.2.2.2.2.2.2.2.2.2.1 _, TGf.2.2.2.2.2.2.2.2.2.2.2.2.2.2.2.1 _⟩ (mA M amKn (3 * m).toNat) knb
    simp (disch := first | omega | (simp only [DT, DS, ne_eq, Nat.reduceEqDiff, not_false_eq_true]; done)) only [RX0_newRowOf, TGf, ek, e, hu.1.2.1, hu.1.2.2.1, Int.reduceToNat, k0, qf, BW, wr_id, OM, OE, PL, ↓reduceIte, TGs, bi_T, bi_F, bi_ff, Nat.reduceLeDiff, Nat.reduceLT, Nat.reduceAdd]
    exact set_c hC hA hm hP ((hA m hm.1 hm.2).1.2.2 _ hc.1 hc.2)
  · rw [actF_7 e] at hP
    simp (disch := first | omega | (simp only [DT, DS, ne_eq, Nat.reduceEqDiff, not_false_eq_true]; done)) only [RX0_newRowOf, TGf, ek, e, BW, wr_id, OM, OE, PL, ↓reduceIte, TGs, bi_T, bi_F, bi_ff, Nat.reduceLeDiff, Nat.reduceLT, Nat.reduceAdd]
    refine v_gate hC hA en hn hm _ (lift qX0_newRowOf _ 97 (fun x M' h => ?_) _ hP)
    simp (disch := first | omega | (simp only [DT, DS, ne_eq, Nat.reduceEqDiff, not_false_eq_true]; done)) only [RX0_newRowOf, BW, wr_id, OM, OE, PL, ↓reduceIte, TGs, bi_T, bi_F, bi_ff, Nat.reduceLeDiff, Nat.reduceLT, Nat.reduceAdd]
    exact h
  · rw [actF_8 e] at hP
    simp (disch := first | omega | (simp only [DT, DS, ne_eq, Nat.reduceEqDiff, not_false_eq_true]; done)) only [RX0_newRowOf, TGf, ek, e, BW, wr_id, OM, OE, PL, ↓reduceIte, TGs, bi_T, bi_F, bi_ff, Nat.reduceLeDiff, Nat.reduceLT, Nat.reduceAdd]
    refine v_turn hC hA ht en hn hm _ (lift qX0_newRowOf _ 103 (fun x M' h => ?_) _ hP)
    simp (disch := first | omega | (simp only [DT, DS, ne_eq, Nat.reduceEqDiff, not_false_eq_true]; done)) only [RX0_newRowOf, BW, wr_id, OM, OE, PL, ↓reduceIte, TGs, bi_T, bi_F, bi_ff, Nat.reduceLeDiff, Nat.reduceLT, Nat.reduceAdd]
    exact h
  · rw [actF_9 e] at hP
    simp (disch := first | omega | (simp only [DT, DS, ne_eq, Nat.reduceEqDiff, not_false_eq_true]; done)) only [RX0_newRowOf, TGf, ek, e, BW, wr_id, OM, OE, PL, ↓reduceIte, TGs, bi_T, bi_F, bi_ff, Nat.reduceLeDiff, Nat.reduceLT, Nat.reduceAdd]
    refine v_switch hC hA en hn hm _ (lift qX0_newRowOf _ 109 (fun x M' h => ?_) _ hP)
    simp (disch := first | omega | (simp only [DT, DS, ne_eq, Nat.reduceEqDiff, not_false_eq_true]; done)) only [RX0_newRowOf, BW, wr_id, OM, OE, PL, ↓reduceIte, TGs, bi_T, bi_F, bi_ff, Nat.reduceLeDiff, Nat.reduceLT, Nat.reduceAdd]
    exact h
  · rw [actF_10 e] at hP
    simp (disch := first | omega | (simp only [DT, DS, ne_eq, Nat.reduceEqDiff, not_false_eq_true]; done)) only [RX0_newRowOf, TGf, ek, e, BW, wr_id, OM, OE, PL, ↓reduceIte, TGs, bi_T, bi_F, bi_ff, Nat.reduceLeDiff, Nat.reduceLT, Nat.reduceAdd]
    refine v_mean hC hA ht en hn hm _ (lift qX0_newRowOf _ 115 (fun x M' h => ?_) _ hP)
    simp (disch := first | omega | (simp only [DT, DS, ne_eq, Nat.reduceEqDiff, not_false_eq_true]; done)) only [RX0_newRowOf, BW, wr_id, OM, OE, PL, ↓reduceIte, TGs, bi_T, bi_F, bi_ff, Nat.reduceLeDiff, Nat.reduceLT, Nat.reduceAdd]
    exact h
end AC2
