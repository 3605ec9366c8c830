/-! 76.cpe2: the developers' own: perform's loop -/
theorem mk_b (i : Nat) : ¬ nowA i = aMarks := tg_d (TGf.2.2.2.2.1 i) (show tg aMarks = 32 by decide) (by decide)
theorem fd_b (i j : Nat) : ¬ fedA i = nowA j := tg_d (TGf.2.2.2.2.2.2.2.2.2.2.2.2.2.2.1 i) (TGf.2.2.2.2.1 j) (by decide)
theorem now_o (M : xm) (i : Nat) : old M (nowA i) := old_t (by rw [TGf.2.2.2.2.1]; decide) (by rw [TGf.2.2.2.2.1]; decide)
theorem fed_o (M : xm) (i : Nat) : old M (fedA i) := old_t (by rw [TGf.2.2.2.2.2.2.2.2.2.2.2.2.2.2.1]; decide) (by rw [TGf.2.2.2.2.2.2.2.2.2.2.2.2.2.2.1]; decide)
/-- a module has acted: its new state, the others' -/
theorem cA_act {M M' : xm} {N t m : Int} {A : Int → SS} {s : SS} {x : Nat} (hA : cA M N t A) (hm : 0 ≤ m ∧ m < N) (g : acG M m M') (hx : cRw M' x (sR s)) (hv : mA M' (nowA m.toNat) 1 = sP s ∧ mB M' (nowA m.toNat) 2 = sK s ∧ mB M' (nowA m.toNat) 3 = sO s ∧ mA M' (nowA m.toNat) 4 = sU s ∧ mA M' (nowA m.toNat) 5 = sN s) (hbf : sB s = sB (A m) ∧ sF s = sF (A m)) (hok : okS (t + 1) s) : cA (wR M' (nowA m.toNat) 0 x) N (t + 1) (upS A m s) := fun o a b => by
  have hr := g.row
  have hr2 : rowG M' (wR M' (nowA m.toNat) 0 x) := ⟨fun _ => Nat.le_refl _, fun l j _ t => ⟨rfl, if_neg (fun q => absurd t (by rw [q.1, TGf.2.2.2.2.1]; decide))⟩, fun _ _ _ _ _ => rfl⟩
  have hr3 := hr.trans hr2
  unfold upS
  by_cases e : o = m
  · rw [if_pos e]
    subst e
    obtain ⟨⟨_, ⟨_, _, _, _, _, s6⟩, s7⟩, _⟩ := hA o a b
    refine ⟨⟨?_, ⟨hv.1, hv.2.1, hv.2.2.1, hv.2.2.2.1, hv.2.2.2.2, ?_⟩, fun j c d => ?_⟩, hok⟩
    · have e0 : mR (wR M' (nowA o.toNat) 0 x) (nowA o.toNat) 0 = x := if_pos ⟨rfl, rfl⟩
      rw [e0]
      exact cRw_f hr2 hx
    · rw [hbf.1]
      show mA M' (nowA o.toNat) 6 = _
      rw [g.1 _ _ (now_o _ _) (fun q => absurd q.2 (by decide)) (fun q => now_b _ q.1)]
      exact s6
    · rw [hbf.2]
      have e1 : mR (wR M' (nowA o.toNat) 0 x) (fedA (10 * o).toNat) (j - 1).toNat = mR M (fedA (10 * o).toNat) (j - 1).toNat := (if_neg (fun q => fd_b _ _ q.1)).trans (g.2.2.1 _ _ (fed_o _ _))
      rw [e1]
      exact cRw_f hr3 (s7 j c d)
  · rw [if_neg e]
    obtain ⟨h1, h2⟩ := hA o a b
    have hd : ¬ nowA o.toNat = nowA m.toNat := fun q => by
      have := (DS.2.2.2.2.2.2.2.2.1 o.toNat m.toNat).mp q
      omega
    refine ⟨cS1_f hr3 h1 (fun j => ?_) (fun j => ?_) ?_ (fun j => ?_), okS_t h2 (by omega)⟩
    · exact g.1 _ _ (now_o _ _) (fun q => hd q.1) (fun q => now_b _ q.1)
    · exact g.2.1 _ _ (now_o _ _) (fun q => hd q.1)
    · exact (if_neg (fun q => hd q.1)).trans (g.2.2.1 _ _ (now_o _ _))
    · exact (if_neg (fun q => fd_b _ _ q.1)).trans (g.2.2.1 _ _ (fed_o _ _))
theorem cA_same {M M' : xm} {N t : Int} {A : Int → SS} (hA : cA M N t A) (hr : rowG M M') (h1 : ∀ i j, mA M' (nowA i) j = mA M (nowA i) j) (h2 : ∀ i j, mB M' (nowA i) j = mB M (nowA i) j) (h3 : mR M' = mR M) : cA M' N t A := fun o a b => ⟨cS1_f hr (hA o a b).1 (fun j => h1 _ j) (fun j => h2 _ j) (by rw [h3]) (fun j => by rw [h3]), (hA o a b).2⟩
theorem p_loop {M0 : xm} {N n t : Int} {A0 : Int → SS} {rk : Int → Nat} (hC0 : cS M0 N) (hT0 : cTb M0) (hn : 1 ≤ n ∧ n ≤ 16) (en0 : mA M0 aBlok 7 = n) (hrk : noLp (mA M0) N rk) (hline : ∀ i : Nat, (i : Int) < N → mA M0 aLine i = ofn (mA M0) N i) (ht : t ≤ 49900) (Q : Option xv → xm → Prop)
    (hf : ∀ f m j c M x3, bkF (mA M0) n (ofn (mA M0) N) N.toNat 0 A0 = .inl (f, m, j, c) → pG M0 c M → (1 ≤ c ∧ c ≤ N) → mA M aBlok 6 = c → (∀ i : Nat, (i : Int) < c → mA M aMarks i = ofn (mA M0) N i + 1) → mA M aBlok 0 = f → (1 ≤ f ∧ f ≤ 5) → mA M aBlok 1 = m → mA M aBlok 2 = j → Wp qX0_perform 91 [vR aBlok, vI n, vI c, x3] [] M Q)
    (hg : ∀ A M x3, bkF (mA M0) n (ofn (mA M0) N) N.toNat 0 A0 = .inr A → pG M0 N M → mA M aBlok 0 = 0 → mA M aBlok 6 = N → (∀ i : Nat, (i : Int) < N → mA M aMarks i = ofn (mA M0) N i + 1) → cA M N (t + N) A → (∀ o, 0 ≤ o → o ≤ 23 → okS (t + N) (A o)) → Wp qX0_perform 91 [vR aBlok, vI n, vI N, x3] [] M Q) :
    ∀ (d : Nat) (k : Int) (A : Int → SS) (M : xm) (x3 : xv), k + d = N → 0 ≤ k → pG M0 k M → mA M aBlok 0 = 0 → mA M aBlok 6 = k → (∀ i : Nat, (i : Int) < k → mA M aMarks i = ofn (mA M0) N i + 1) → cA M N (t + k) A → (∀ o, 0 ≤ o → o ≤ 23 → okS (t + k) (A o)) → bkF (mA M0) n (ofn (mA M0) N) N.toNat 0 A0 = bkF (mA M0) n (ofn (mA M0) N) d k A → Wp qX0_perform 17 [vR aBlok, vI n, vI k, x3] [] M Q
  | 0, k, A, M, x3, hd, h0, hp, f0, e6, hmk, hA, hok, he => by
    have hC := hp.s hC0
    have hR' := hC.r
    have eN := hC.2.2.1
    obtain rfl : k = N := by omega
    have g := hg A M x3 he hp f0 e6 hmk hA hok
    rw [HX0_perform_17]
    simp (disch := first | omega | (simp only [DT, DS, ne_eq, Nat.reduceEqDiff, not_false_eq_true]; done)) only [RX0_perform, cP.e hC.1, eN.1, BW, wr_id, OM, OE, PL, ↓reduceIte, TGs, bi_T, bi_F, bi_ff, Nat.reduceLeDiff, Nat.reduceLT, Nat.reduceAdd] at g ⊢
    exact g
  | d + 1, k, A, M, x3, hd, h0, hp, f0, e6, hmk, hA, hok, he => by
    have hC := hp.s hC0
    have hT := hp.t hT0
    have hR' := hC.r
    have eN := hC.2.2.1
    have hN := eN.2.2
    have e7 : mA M aBlok 7 = n := by rw [hp.1 _ _ (old_t (by decide) (by decide)) (by decide) (by decide) (by decide)]; exact en0
    have eL : mA M aLine k.toNat = ofn (mA M0) N k.toNat := by rw [hp.1 _ _ (old_t (by decide) (by decide)) (by decide) (fun q => absurd q.1 (by decide)) (by decide)]; exact hline k.toNat (by omega)
    have ho := ordL_at hrk (by omega) k.toNat (by omega)
    have hm : 0 ≤ ofn (mA M0) N k.toNat ∧ ofn (mA M0) N k.toNat < N := ho
    have qi := c_inLine hC k (by omega)
    rw [if_pos (by omega), eL] at qi
    generalize hmm : ofn (mA M0) N k.toNat = m at *
    have qa := c_at hC m (by omega)
    rw [show uR N m = uA m.toNat from if_pos hm] at qa
    have hu := hC.2.2.2.1 m hm.1 hm.2
    have nb := hu.2.2.2.1.1
    have uz : ¬ uA m.toNat = 0 := tg_ne (TGf.1 _) (by decide)
    have qk := c_mark hC (x := m + 1) e6 (by omega) (wr_id (by omega) (by omega))
    have hp2 : pG M0 k (wA (wA (wA M aMarks k.toNat (m + 1)) aBlok 6 (k + 1)) aBlok 1 m) := hp.m _ (wr_id (by omega) (by omega)) (wr_id (by omega) (by omega)) (wr_id (by omega) (by omega))
    have n1 : ∀ i j, mA (wA (wA (wA M aMarks k.toNat (m + 1)) aBlok 6 (k + 1)) aBlok 1 m) (nowA i) j = mA M (nowA i) j := fun i j => by rw [wA_o _ _ (fun q => now_b _ q.1), wA_o _ _ (fun q => now_b _ q.1), wA_o _ _ (fun q => mk_b _ q.1)]
    have hr2 : rowG M (wA (wA (wA M aMarks k.toNat (m + 1)) aBlok 6 (k + 1)) aBlok 1 m) := ⟨fun _ => Nat.le_refl _, fun l j _ t => ⟨by rw [wA_o _ _ (fun q => absurd t (by rw [q.1]; decide)), wA_o _ _ (fun q => absurd t (by rw [q.1]; decide)), wA_o _ _ (fun q => absurd t (by rw [q.1]; decide))], rfl⟩, fun _ _ _ _ _ => rfl⟩
    have hA2 := cA_same hA hr2 n1 (fun _ _ => rfl) rfl
    have e62 : mA (wA (wA (wA M aMarks k.toNat (m + 1)) aBlok 6 (k + 1)) aBlok 1 m) aBlok 6 = k + 1 := by rw [wA_o _ _ (by decide), wA_e]
    have e12 : mA (wA (wA (wA M aMarks k.toNat (m + 1)) aBlok 6 (k + 1)) aBlok 1 m) aBlok 1 = m := wA_e _ _ _ _
    have e02 : mA (wA (wA (wA M aMarks k.toNat (m + 1)) aBlok 6 (k + 1)) aBlok 1 m) aBlok 0 = 0 := by rw [wA_o _ _ (by decide), wA_o _ _ (by decide), wA_o _ _ (fun q => absurd q.1 (by decide))]; exact f0
    have e72 : mA (wA (wA (wA M aMarks k.toNat (m + 1)) aBlok 6 (k + 1)) aBlok 1 m) aBlok 7 = n := by rw [wA_o _ _ (by decide), wA_o _ _ (by decide), wA_o _ _ (fun q => absurd q.1 (by decide))]; exact e7
    have hmk2 : ∀ i : Nat, (i : Int) < k + 1 → mA (wA (wA (wA M aMarks k.toNat (m + 1)) aBlok 6 (k + 1)) aBlok 1 m) aMarks i = ofn (mA M0) N i + 1 := fun i hi => by
      rw [wA_o _ _ (fun q => absurd q.1 (by decide)), wA_o _ _ (fun q => absurd q.1 (by decide))]
      by_cases e : i = k.toNat
      · rw [e, wA_e, hmm]
      · rw [wA_o _ _ (fun q => e q.2)]
        exact hmk i (by omega)
    have hu3 : mA (wA (wA M aMarks k.toNat (m + 1)) aBlok 6 (k + 1)) (uA m.toNat) 0 = m := by
      rw [wA_o _ _ (fun q => tg_d (TGf.1 m.toNat) (show tg aBlok = 1 by decide) (by decide) q.1), wA_o _ _ (fun q => tg_d (TGf.1 m.toNat) (show tg aMarks = 32 by decide) (by decide) q.1)]
      exact nb
    generalize hM2 : wA (wA (wA M aMarks k.toNat (m + 1)) aBlok 6 (k + 1)) aBlok 1 m = M2 at *
    have hC2 := hp2.s hC0
    have hT2 := hp2.t hT0
    have cE : cEq M0 M2 := fun j => by
      refine ⟨?_, ?_, ?_, ?_, ?_, ?_⟩ <;> exact hp2.1 _ _ (old_t (by decide) (by decide)) (by decide) (fun q => absurd q.1 (by decide)) (by decide)
    have aE : actF (mA M2) n A m = actF (mA M0) n A m := actF_c cE n A m
    have kb := hC0.2.1.2.2.2.1 m.toNat
    have key : ∀ Q' : Option xv → xm → Prop, (∀ M3 x, Wp qX0_perform 17 [vR aBlok, vI n, vI (k + 1), vR (uA m.toNat)] [] (wR M3 (nowA m.toNat) 0 x) Q → Q' (some (vR x)) M3) → Wp qX0_newRowOf 0 [vR aBlok, vR (uA m.toNat)] [] M2 Q' := fun Q' q0 => by
      refine c_newRow hC2 hT2 hA2 (by omega) e72 hn e02 hm Q' ?_
      rw [aE]
      cases e : actF (mA M0) n A m with
      | inl fj =>
        obtain ⟨f, j⟩ := fj
        intro M3 x g3 e03 e23
        refine q0 M3 x ?_
        have hfb := act_f (m := m) kb e
        have hp3 := hp2.a g3 x
        have e03' : mA (wR M3 (nowA m.toNat) 0 x) aBlok 0 = f := e03
        have e63 : mA (wR M3 (nowA m.toNat) 0 x) aBlok 6 = k + 1 := (g3.1 _ _ (old_t (by decide) (by decide)) (fun q => now_b _ q.1.symm) (by decide)).trans e62
        have G := hf f m j (k + 1) (wR M3 (nowA m.toNat) 0 x) (vR (uA m.toNat)) (by rw [he, bkF, hmm, e]) hp3 (by omega) e63 (fun i hi => (g3.1 _ _ (old_t (by decide) (by decide)) (fun q => mk_b _ q.1.symm) (fun q => absurd q.1 (by decide))).trans (hmk2 i hi)) e03 hfb ((g3.1 _ _ (old_t (by decide) (by decide)) (fun q => now_b _ q.1.symm) (by decide)).trans e12) e23
        have hC3 := hp3.s hC0
        have eN3 := hC3.2.2.1
        have hR3 := hC3.r
        rw [HX0_perform_17]
        generalize wR M3 (nowA m.toNat) 0 x = M4 at *
        by_cases c1 : k + 1 < N
        · simp (disch := first | omega | (simp only [DT, DS, ne_eq, Nat.reduceEqDiff, not_false_eq_true]; done)) only [RX0_perform, cP.e hC3.1, eN3.1, e03', BW, wr_id, OM, OE, PL, ↓reduceIte, TGs, bi_T, bi_F, bi_ff, Nat.reduceLeDiff, Nat.reduceLT, Nat.reduceAdd] at G ⊢
          exact G
        · simp (disch := first | omega | (simp only [DT, DS, ne_eq, Nat.reduceEqDiff, not_false_eq_true]; done)) only [RX0_perform, cP.e hC3.1, eN3.1, BW, wr_id, OM, OE, PL, ↓reduceIte, TGs, bi_T, bi_F, bi_ff, Nat.reduceLeDiff, Nat.reduceLT, Nat.reduceAdd] at G ⊢
          exact G
      | inr s =>
        intro M3 x g3 e03 hx hv
        refine q0 M3 x ?_
        have hbf := act_bf (m := m) kb e
        have hok' := act_ok' hC0.2.1 hn hok (show 0 ≤ m ∧ m ≤ 23 by omega) e
        have hA3 := cA_act hA2 hm g3 hx hv hbf hok'
        rw [show t + k + 1 = t + (k + 1) by omega] at hA3 hok'
        refine p_loop hC0 hT0 hn en0 hrk hline ht Q hf hg d (k + 1) _ _ _ (by omega) (by omega) (hp2.a g3 x) (e03.trans e02) ((g3.1 _ _ (old_t (by decide) (by decide)) (fun q => now_b _ q.1.symm) (by decide)).trans e62) (fun i hi => (g3.1 _ _ (old_t (by decide) (by decide)) (fun q => mk_b _ q.1.symm) (fun q => absurd q.1 (by decide))).trans (hmk2 i hi)) hA3 (fun o a b => ?_) (by rw [he, bkF, hmm, e])
        unfold upS
        split
        · exact hok'
        · exact okS_t (hok o a b) (by omega)
    rw [HX0_perform_17]
    simp (disch := first | omega | (simp only [DT, DS, ne_eq, Nat.reduceEqDiff, not_false_eq_true]; done)) only [RX0_perform, cP.e hC.1, eN.1, f0, qi, qa, uz, TGf, nb, qk, hu3, hM2, MM.2.2.1, hu.1.2.2.1, BW, wr_id, OM, OE, PL, ↓reduceIte, TGs, bi_T, bi_F, bi_ff, Nat.reduceLeDiff, Nat.reduceLT, Nat.reduceAdd]
    have r2 : mR M2 (uA m.toNat) 4 = nowA m.toNat := by rw [← hM2]; exact hu.1.2.2.1
    simp (disch := first | omega | (simp only [DT, DS, ne_eq, Nat.reduceEqDiff, not_false_eq_true]; done)) only [RX0_perform, r2, BW, wr_id, OM, OE, PL, ↓reduceIte, TGs, bi_T, bi_F, bi_ff, Nat.reduceLeDiff, Nat.reduceLT, Nat.reduceAdd]
    refine key _ (fun M3 x h => ?_)
    simp (disch := first | omega | (simp only [DT, DS, ne_eq, Nat.reduceEqDiff, not_false_eq_true]; done)) only [RX0_perform, TGf, BW, wr_id, OM, OE, PL, ↓reduceIte, TGs, bi_T, bi_F, bi_ff, Nat.reduceLeDiff, Nat.reduceLT, Nat.reduceAdd]
    exact h
