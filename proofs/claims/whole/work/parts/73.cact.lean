/-! 73.cact: the developers' own: a module acts -/
def old (M : xm) (l : Nat) : Prop := alv M l ∨ (¬ tg l = 5 ∧ ∀ n, ¬ isV l n)
/-- what stays as it is while module m acts -/
def acG (M0 : xm) (m : Int) (M : xm) : Prop := (∀ l j, old M0 l → ¬ (l = nowA m.toNat ∧ (j = 1 ∨ j = 4 ∨ j = 5)) → ¬ (l = aBlok ∧ (j = 0 ∨ j = 2)) → mA M l j = mA M0 l j) ∧ (∀ l j, old M0 l → ¬ (l = nowA m.toNat ∧ (j = 2 ∨ j = 3)) → mB M l j = mB M0 l j) ∧ (∀ l j, old M0 l → mR M l j = mR M0 l j) ∧ (∀ k, mC M0 k ≤ mC M k ∧ (¬ k % 64 = 5 → ¬ k % 64 = 33 → mC M k = mC M0 k)) ∧ (mK M ≤ mK M0 + 2 ∧ mK M0 ≤ mK M ∧ mS M ≤ mS M0 + 20 ∧ mS M0 ≤ mS M) ∧ inR M
def cPostA (M0 : xm) (m : Int) (Q : Option xv → xm → Prop) : (Int × Int) ⊕ SS → Prop
  | .inr s => ∀ M x, acG M0 m M → mA M aBlok 0 = mA M0 aBlok 0 → cRw M x (sR s) → (mA M (nowA m.toNat) 1 = sP s ∧ mB M (nowA m.toNat) 2 = sK s ∧ mB M (nowA m.toNat) 3 = sO s ∧ mA M (nowA m.toNat) 4 = sU s ∧ mA M (nowA m.toNat) 5 = sN s) → Q (some (vR x)) M
  | .inl (f, k) => ∀ M x, acG M0 m M → mA M aBlok 0 = f → mA M aBlok 2 = k → Q (some (vR x)) M
theorem acG.refl {M : xm} (m : Int) (h : inR M) : acG M m M := ⟨fun _ _ _ _ _ => rfl, fun _ _ _ _ => rfl, fun _ _ _ => rfl, fun _ => ⟨Nat.le_refl _, fun _ _ => rfl⟩, ⟨by omega, by omega, by omega, by omega⟩, h⟩
theorem acG.row {M0 M : xm} {m : Int} (h : acG M0 m M) : rowG M0 M := ⟨fun k => (h.2.2.2.1 k).1, fun l j a t => ⟨h.1 l j (Or.inl a) (fun q => absurd t (by rw [q.1, TGf.2.2.2.2.1]; decide)) (fun q => absurd t (by rw [q.1]; decide)), h.2.2.1 l j (Or.inl a)⟩, fun v j n a b => h.2.1 v j (Or.inl a) (fun q => by
  unfold isV at b
  rw [q.1] at b
  unfold nowA at b
  omega)⟩
theorem old_t {M : xm} {l : Nat} (h : ¬ tg l = 5) (h2 : ¬ tg l = 33) : old M l := Or.inr ⟨h, fun n q => h2 (by unfold isV at q; unfold tg; omega)⟩
theorem acG_of {M M1 M2 : xm} {m : Int} {L V n : Nat} (h : nwG M M1 L V) (hL : ¬ alv M L) (hV : ¬ alv M V) (t : tg L = 5) (v : isV V n) (g : cFo M1 m L V M2) : acG M m M2 := by
  have nl : ∀ l, old M l → ¬ l = L := fun l o q => by
    rcases o with o | o
    · exact hL (by rw [← q]; exact o)
    · exact o.1 (by rw [q]; exact t)
  have nv : ∀ l, old M l → ¬ l = V := fun l o q => by
    rcases o with o | o
    · exact hV (by rw [← q]; exact o)
    · exact o.2 n (by rw [q]; exact v)
  obtain ⟨h1, h2, h3, h4⟩ := h
  obtain ⟨g1, g2, g3, g4, g5, g6⟩ := g
  refine ⟨fun l j o a b => ?_, fun l j o a => ?_, fun l j o => ?_, fun k => ?_, ?_, g6⟩
  · rw [g1 l j a (fun q => nl l o q.1) b]
    exact (h1 l j (nl l o) (nv l o)).1
  · rw [g2 l j a (nv l o)]
    exact (h1 l j (nl l o) (nv l o)).2.1
  · rw [g3]
    exact (h1 l j (nl l o) (nv l o)).2.2
  · rw [g4]
    exact h2 k
  · rw [g5.1, g5.2]
    exact h3
theorem acG.bk {M M' : xm} (m : Int) (h : bkG M M') : acG M m M' := ⟨fun l j _ _ b => h.1 l j b, fun l j _ _ => by rw [h.2.1], fun l j _ => by rw [h.2.2.1], fun k => by rw [h.2.2.2.1]; exact ⟨Nat.le_refl _, fun _ _ => rfl⟩, by rw [h.2.2.2.2.1.1, h.2.2.2.2.1.2]; omega, h.2.2.2.2.2⟩
/-- modules' states, as the developers' own keeps them -/
def cA (M : xm) (N t : Int) (A : Int → SS) : Prop := ∀ o, 0 ≤ o → o < N → cS1 M (nowA o.toNat) (fedA (10 * o).toNat) (A o) ∧ okS t (A o)
theorem cA.g {M : xm} {N t : Int} {A : Int → SS} (h : cA M N t A) : cG M N A := fun o a b => ⟨(h o a b).1.1, (h o a b).2.1⟩
theorem afl {M : xm} {m f k : Int} {Q : Option xv → xm → Prop} (hR : inR M) (hf : wr f = f) (hk : wr k = k) (hP : cPostA M m Q (.inl (f, k))) (x : Nat) : Q (some (vR x)) (wA (wA M aBlok 0 f) aBlok 2 k) :=
  hP _ x (acG.bk m ((bkG.refl hR).f hf hk)) (by rw [wA_o _ _ (by decide), wA_e]) (wA_e _ _ _ _)
section ACT
variable {M : xm} {N n t m kd : Int} {A : Int → SS} {c : Nat}
theorem na_n (h : c < 131072) {l : Nat} (ht : ¬ tg l = 5) : ¬ l = na M 5 0 c := fun q => ht (by rw [q]; exact na_tg M h)
theorem mk_set (hC : cS M N) (hA : cA M N t A) (en : mA M aBlok 7 = n) (hn : 1 ≤ n ∧ n ≤ 16) (hk : 0 ≤ kd ∧ kd ≤ 4) (hc : c < 131072) (hm : 0 ≤ m ∧ m < N) :
    cS (mkR M kd n c) N ∧ (cTb M → cTb (mkR M kd n c)) ∧ mA (mkR M kd n c) aBlok 7 = n ∧ mA (mkR M kd n c) aBlok 0 = mA M aBlok 0 ∧ mkd (mkR M kd n c) (na M 5 0 c) (na M 33 n.toNat 25616) kd n ∧ cV (mkR M kd n c) m (na M 5 0 c) (na M 33 n.toNat 25616) (z0 (A m)) 0 ∧ (∀ l j, ¬ nonS l → mA (mkR M kd n c) l j = mA M l j) ∧ mA (mkR M kd n c) (nowA m.toNat) 6 = sB (A m) ∧ cG (mkR M kd n c) N A ∧ (∀ G r, cRw M G (some r) → cRw (mkR M kd n c) G (some r) ∧ ¬ G = na M 5 0 c ∧ ¬ mR (mkR M kd n c) G 2 = na M 33 n.toNat 25616) ∧ (∀ Q s R, cPostA M m Q (famF s kd n R) → cPost (mkR M kd n c) m n (na M 5 0 c) (na M 33 n.toNat 25616) Q R) ∧ inR (mkR M kd n c) ∧ ∀ o, 0 ≤ o → o < N → ¬ mR (mkR M kd n c) (nowA o.toNat) 0 = 0 → ¬ mR (mkR M kd n c) (nowA o.toNat) 0 = na M 5 0 c ∧ ¬ mR (mkR M kd n c) (mR (mkR M kd n c) (nowA o.toNat) 0) 2 = na M 33 n.toNat 25616 := by
  obtain ⟨k1, k2, k3, k4, k5, k6, k7, k8⟩ := mk_ok (M := M) (kd := kd) (n := n) (c := c) hC.2.1.2.1 hc hk hn
  have tL := k1.1.1
  have vV := k1.1.2
  have tV := k1.v.1
  generalize mkR M kd n c = M1 at *
  generalize na M 5 0 c = L at *
  generalize na M 33 n.toNat 25616 = V at *
  have same : ∀ l j, ¬ tg l = 5 → ¬ tg l = 33 → mA M1 l j = mA M l j ∧ mB M1 l j = mB M l j ∧ mR M1 l j = mR M l j := fun l j a b => k4.1 l j (fun q => a (by rw [q]; exact tL)) (fun q => b (by rw [q]; exact tV))
  have ha : ∀ l j, ¬ nonS l → mA M1 l j = mA M l j := fun l j q => (same l j (fun z => q (Or.inl z)) (fun z => q (Or.inr (Or.inr (Or.inl z))))).1
  have hrow := k4.row k2 k3
  have now5 : ∀ o, ¬ tg (nowA o) = 5 := fun o => by rw [TGf.2.2.2.2.1]; decide
  have now33 : ∀ o, ¬ tg (nowA o) = 33 := fun o => by rw [TGf.2.2.2.2.1]; decide
  have eb : ∀ j, mA M1 aBlok j = mA M aBlok j := fun j => (same _ _ (by decide) (by decide)).1
  have giv : ∀ G r, cRw M G (some r) → cRw M1 G (some r) ∧ ¬ G = L ∧ ¬ mR M1 G 2 = V := fun G r h => by
    have e1 : ¬ G = L := fun q => k2 (by rw [← q]; exact h.1.1)
    have e2 := (hrow.2.1 G 2 h.1.1 h.1.2).2
    exact ⟨cRw_f hrow h, e1, fun q => k3 (by rw [← q, e2]; exact h.2.2.1.1)⟩
  have hCM : cS M1 N := cS_c hC k4.2.2.2 (fun l j a b _ _ => (same l j a b).2.2) ha
  refine ⟨hCM, fun hT => cTb_c hT ha, by rw [eb]; exact en, eb 0, k1, ?_, ha, ?_, cG_c hA.g hrow (fun o => (same _ _ (now5 o) (now33 o)).2.2), giv, fun Q s R hP => ?_, k4.2.2.2, fun o a b nz => ?_⟩
  · obtain ⟨⟨_, ⟨s1, s2, s3, s4, s5, s6⟩, _⟩, _⟩ := hA m hm.1 hm.2
    refine ⟨?_, ?_, ?_, ?_, ?_, k5, fun j hj => by omega, fun j _ => k6 j⟩
    · rw [(same _ _ (now5 _) (now33 _)).1]; exact s1
    · rw [(same _ _ (now5 _) (now33 _)).1]; exact s4
    · rw [(same _ _ (now5 _) (now33 _)).1]; exact s5
    · rw [(same _ _ (now5 _) (now33 _)).2.1]; exact s2
    · rw [(same _ _ (now5 _) (now33 _)).2.1]; exact s3
  · rw [(same _ _ (now5 _) (now33 _)).1]
    exact (hA m hm.1 hm.2).1.2.1.2.2.2.2.2
  · cases R with
    | inl fk =>
      obtain ⟨f, k⟩ := fk
      exact fun M2 x g a b => hP M2 x (acG_of k4 k2 k3 tL vV g) a b
    | inr z =>
      intro M2 g hV
      obtain ⟨v1, v2, v3, v4, v5, v6, v7, v8⟩ := hV
      have kk := g.k k1
      refine hP M2 L (acG_of k4 k2 k3 tL vV g.o) (g.2.2.2.2.1.2.2.trans (eb 0)) ?_ ⟨v1, v4, v5, v2, v3⟩
      refine ⟨⟨?_, tL⟩, ⟨kk.2.1.1, kk.2.1.2, v6⟩, ⟨?_, ?_⟩, fun i a b => ?_⟩
      · unfold alv
        rw [g.2.2.2.1]
        exact k7
      · rw [kk.2.2.1]
        unfold alv
        rw [g.2.2.2.1]
        exact k8
      · rw [kk.2.2.1]
        exact vV
      · rw [kk.2.2.1]
        show mB M2 V i.toNat = if i < n then zV z i.toNat else 0
        have b' : i < n := b
        rw [if_pos b']
        exact v7 i.toNat (by omega)
  · rw [(same _ _ (now5 _) (now33 _)).2.2] at nz ⊢
    have g := (hA o a b).1.1
    cases e : sR (A o) with
    | none =>
      rw [e] at g
      exact absurd g nz
    | some w =>
      rw [e] at g
      exact (giv _ w g).2
theorem wnt_r {r : Rw} {i kind : Int} (hC : cS M N) (hA : cA M N t A) (hm : 0 ≤ m ∧ m < N) (hi : 0 ≤ i ∧ i ≤ 2) (h : wantF A (mA M amCo (3 * m + i).toNat) kind = .inr r) : cRw M (mR M (nowA (mA M amCo (3 * m + i).toNat - 1).toNat) 0) (some r) ∧ okR r ∧ (kind < 0 ∨ rwK r = kind) := by
  have hcN := hC.2.2.2.2.2 m i hm.1 hm.2 hi.1 hi.2
  obtain ⟨h1, h2, h3⟩ := want_r h
  obtain ⟨g1, g2⟩ := hA (mA M amCo (3 * m + i).toNat - 1) (by omega) (by omega)
  have g3 := g1.1
  rw [h2] at g3
  exact ⟨g3, g2.1 r h2, h3⟩
theorem v_shape (hC : cS M N) (hA : cA M N t A) (en : mA M aBlok 7 = n) (hn : 1 ≤ n ∧ n ≤ 16) (hm : 0 ≤ m ∧ m < N) (hkd : 1 ≤ mA M amKd m.toNat ∧ mA M amKd m.toNat ≤ 4) (Q : Option xv → xm → Prop) (hP : cPostA M m Q (famF (A m) 4 n (bZ (wantF A (mA M amCo (3 * m).toNat) 4) (fun r => lpF (shpS (mA M amKd m.toNat) (sB (A m)) (mA M amKn (3 * m).toNat) (mA M amKn (3 * m + 1).toNat) (mA M amKn (3 * m + 2).toNat) n (rwL r) (rwN r) (rwV r)) n.toNat 0 (z0 (A m)))))) : Wp qX0_shape 0 [vR aBlok, vR (uA m.toNat), vX, vX, vX] [] M Q := by
  have qw := c_wanted (i := 0) (kind := 4) hC hA.g hm (by omega) (by omega)
  have wr0 := fun r => wnt_r (r := r) (i := 0) (kind := 4) hC hA hm (by omega)
  rw [show 3 * m + 0 = 3 * m by omega] at qw wr0
  have hR' := hC.r
  cases e : wantF A (mA M amCo (3 * m).toNat) 4 with
  | inl f =>
    simp only [e] at qw
    rw [e] at hP
    have hf := want_l e
    simp (disch := first | omega | (simp only [DT, DS, ne_eq, Nat.reduceEqDiff, not_false_eq_true]; done)) only [RX0_shape, TGf, qw, BW, wr_id, OM, OE, PL, ↓reduceIte, TGs, bi_T, bi_F, bi_ff, Nat.reduceLeDiff, Nat.reduceLT, Nat.reduceAdd]
    exact afl hC.2.1.2.1 (wr_id (by omega) (by omega)) (by decide) hP _
  | inr r =>
    simp only [e] at qw
    rw [e] at hP
    obtain ⟨g1, g2, g3⟩ := wr0 r e
    have tz := tg_ne g1.1.2 (by decide)
    obtain ⟨a1, a2, a3, a4, a5, a6, a7, a8, a9, a10, a11, a12, a13⟩ := mk_set (kd := 4) (c := 7182) hC hA en hn (by omega) (by omega) hm
    have nb := na_n (M := M) (c := 7182) (by omega) (show ¬ tg aBlok = 5 by decide)
    obtain ⟨b1, b2, b3⟩ := a10 _ r g1
    have P := a11 Q (A m) _ hP
    obtain ⟨o1, o2, o3, o4, o5, o6, o7⟩ := (hA m hm.1 hm.2).2
    have eK : ∀ j, mA (mkR M 4 n 7182) amKn j = mA M amKn j := fun j => a7 _ _ (by unfold nonS; decide)
    have eD : ∀ j, mA (mkR M 4 n 7182) amKd j = mA M amKd j := fun j => a7 _ _ (by unfold nonS; decide)
    have g := n_shape a1 hm a3 a5 b1 g2 ⟨b2, b3⟩ (by rw [eD]; exact hkd) (by omega) Q n.toNat 0 (z0 (A m)) _ (by omega) (by omega) (cF.refl m _ _ a12) a6 o3.1 o3.2 ⟨Int.le_refl 0, by show (0 : Int) < 2 ^ 0; decide⟩ (by rw [eK, eK, eK, eD, a8]; exact P)
    simp (disch := first | omega | (simp only [DT, DS, ne_eq, Nat.reduceEqDiff, not_false_eq_true]; done)) only [RX0_shape, TGf, qw, tz, MM, nb, en, na_tg M (show 7182 < 131072 by decide), c_init4 (na_tg M (show 7182 < 131072 by decide)) (kd := 4) (n := n) (by omega) hn, BW, wr_id, OM, OE, PL, ↓reduceIte, TGs, bi_T, bi_F, bi_ff, Nat.reduceLeDiff, Nat.reduceLT, Nat.reduceAdd]
    exact g
theorem v_gate (hC : cS M N) (hA : cA M N t A) (en : mA M aBlok 7 = n) (hn : 1 ≤ n ∧ n ≤ 16) (hm : 0 ≤ m ∧ m < N) (Q : Option xv → xm → Prop) (hP : cPostA M m Q (famF (A m) 0 n (bZ (wantF A (mA M amCo (3 * m).toNat) 4) (fun r => lpF (gatS (mA M amKn (3 * m).toNat) (mA M amKn (3 * m + 1).toNat) (rwL r) (rwN r) (rwV r)) n.toNat 0 (z0 (A m)))))) : Wp qX0_openGate 0 [vR aBlok, vR (uA m.toNat), vX, vX, vX] [] M Q := by
  have qw := c_wanted (i := 0) (kind := 4) hC hA.g hm (by omega) (by omega)
  have wr0 := fun r => wnt_r (r := r) (i := 0) (kind := 4) hC hA hm (by omega)
  rw [show 3 * m + 0 = 3 * m by omega] at qw wr0
  have hR' := hC.r
  cases e : wantF A (mA M amCo (3 * m).toNat) 4 with
  | inl f =>
    simp only [e] at qw
    rw [e] at hP
    have hf := want_l e
    simp (disch := first | omega | (simp only [DT, DS, ne_eq, Nat.reduceEqDiff, not_false_eq_true]; done)) only [RX0_openGate, TGf, qw, BW, wr_id, OM, OE, PL, ↓reduceIte, TGs, bi_T, bi_F, bi_ff, Nat.reduceLeDiff, Nat.reduceLT, Nat.reduceAdd]
    exact afl hC.2.1.2.1 (wr_id (by omega) (by omega)) (by decide) hP _
  | inr r =>
    simp only [e] at qw
    rw [e] at hP
    obtain ⟨g1, g2, g3⟩ := wr0 r e
    have tz := tg_ne g1.1.2 (by decide)
    obtain ⟨a1, a2, a3, a4, a5, a6, a7, a8, a9, a10, a11, a12, a13⟩ := mk_set (kd := 0) (c := 9742) hC hA en hn (by omega) (by omega) hm
    have nb := na_n (M := M) (c := 9742) (by omega) (show ¬ tg aBlok = 5 by decide)
    obtain ⟨b1, b2, b3⟩ := a10 _ r g1
    have P := a11 Q (A m) _ hP
    obtain ⟨o1, o2, o3, o4, o5, o6, o7⟩ := (hA m hm.1 hm.2).2
    have eK : ∀ j, mA (mkR M 0 n 9742) amKn j = mA M amKn j := fun j => a7 _ _ (by unfold nonS; decide)
    have g := n_gate a1 hm a3 a5 b1 g2 ⟨b2, b3⟩ Q n.toNat 0 (z0 (A m)) _ (by omega) (by omega) (cF.refl m _ _ a12) a6 o4 (by rw [eK, eK]; exact P)
    simp (disch := first | omega | (simp only [DT, DS, ne_eq, Nat.reduceEqDiff, not_false_eq_true]; done)) only [RX0_openGate, TGf, qw, tz, MM, nb, en, na_tg M (show 9742 < 131072 by decide), c_init4 (na_tg M (show 9742 < 131072 by decide)) (kd := 0) (n := n) (by omega) hn, BW, wr_id, OM, OE, PL, ↓reduceIte, TGs, bi_T, bi_F, bi_ff, Nat.reduceLeDiff, Nat.reduceLT, Nat.reduceAdd]
    exact g
theorem v_mean (hC : cS M N) (hA : cA M N t A) (ht : t ≤ 50000) (en : mA M aBlok 7 = n) (hn : 1 ≤ n ∧ n ≤ 16) (hm : 0 ≤ m ∧ m < N) (Q : Option xv → xm → Prop) (hP : cPostA M m Q (famF (A m) 2 n (bZ (wantF A (mA M amCo (3 * m).toNat) 2) (fun r => lpF (menS (mA M amKn (3 * m).toNat) (rwL r) (rwV r)) n.toNat 0 (z0 (A m)))))) : Wp qX0_average 0 [vR aBlok, vR (uA m.toNat), vX, vX, vX, vX, vX, vX] [] M Q := by
  have qw := c_wanted (i := 0) (kind := 2) hC hA.g hm (by omega) (by omega)
  have wr0 := fun r => wnt_r (r := r) (i := 0) (kind := 2) hC hA hm (by omega)
  rw [show 3 * m + 0 = 3 * m by omega] at qw wr0
  have hR' := hC.r
  cases e : wantF A (mA M amCo (3 * m).toNat) 2 with
  | inl f =>
    simp only [e] at qw
    rw [e] at hP
    have hf := want_l e
    simp (disch := first | omega | (simp only [DT, DS, ne_eq, Nat.reduceEqDiff, not_false_eq_true]; done)) only [RX0_average, TGf, qw, BW, wr_id, OM, OE, PL, ↓reduceIte, TGs, bi_T, bi_F, bi_ff, Nat.reduceLeDiff, Nat.reduceLT, Nat.reduceAdd]
    exact afl hC.2.1.2.1 (wr_id (by omega) (by omega)) (by decide) hP _
  | inr r =>
    simp only [e] at qw
    rw [e] at hP
    obtain ⟨g1, g2, g3⟩ := wr0 r e
    have tz := tg_ne g1.1.2 (by decide)
    obtain ⟨a1, a2, a3, a4, a5, a6, a7, a8, a9, a10, a11, a12, a13⟩ := mk_set (kd := 2) (c := 12302) hC hA en hn (by omega) (by omega) hm
    have nb := na_n (M := M) (c := 12302) (by omega) (show ¬ tg aBlok = 5 by decide)
    obtain ⟨b1, b2, b3⟩ := a10 _ r g1
    have P := a11 Q (A m) _ hP
    obtain ⟨o1, o2, o3, o4, o5, o6, o7⟩ := (hA m hm.1 hm.2).2
    have eK : ∀ j, mA (mkR M 2 n 12302) amKn j = mA M amKn j := fun j => a7 _ _ (by unfold nonS; decide)
    have g := n_mean a1 hm a3 a5 b1 g2 ⟨b2, b3⟩ (by omega) Q n.toNat 0 (z0 (A m)) _ vX (by omega) (by omega) (cF.refl m _ _ a12) a6 ⟨o5.1, by show sN (A m) ≤ _; omega⟩ ⟨by show _ ≤ (0 : Int); omega, by show (0 : Int) ≤ _; omega⟩ (by rw [eK]; exact P)
    simp (disch := first | omega | (simp only [DT, DS, ne_eq, Nat.reduceEqDiff, not_false_eq_true]; done)) only [RX0_average, TGf, qw, tz, MM, nb, en, na_tg M (show 12302 < 131072 by decide), c_init4 (na_tg M (show 12302 < 131072 by decide)) (kd := 2) (n := n) (by omega) hn, BW, wr_id, OM, OE, PL, ↓reduceIte, TGs, bi_T, bi_F, bi_ff, Nat.reduceLeDiff, Nat.reduceLT, Nat.reduceAdd]
    exact g
theorem v_turn (hC : cS M N) (hA : cA M N t A) (ht : t ≤ 50000) (en : mA M aBlok 7 = n) (hn : 1 ≤ n ∧ n ≤ 16) (hm : 0 ≤ m ∧ m < N) (Q : Option xv → xm → Prop) (hP : cPostA M m Q (famF (A m) (mA M amRk m.toNat) n (bZ (wantF A (mA M amCo (3 * m).toNat) (-1)) (fun r => lpF (trnS (decide (3 ≤ rwK r)) (mA M amRk m.toNat) (rwL r) (rwN r) (rwV r)) n.toNat 0 (z0 (A m)))))) : Wp qX0_turn 0 [vR aBlok, vR (uA m.toNat), vX, vX, vX] [] M Q := by
  have qw := c_wanted (i := 0) (kind := -1) hC hA.g hm (by omega) (by omega)
  have wr0 := fun r => wnt_r (r := r) (i := 0) (kind := -1) hC hA hm (by omega)
  rw [show 3 * m + 0 = 3 * m by omega] at qw wr0
  have hR' := hC.r
  have hu := hC.2.2.2.1 m hm.1 hm.2
  have hrk := hC.2.1.2.2.2.2.1 m.toNat
  cases e : wantF A (mA M amCo (3 * m).toNat) (-1) with
  | inl f =>
    simp only [e] at qw
    rw [e] at hP
    have hf := want_l e
    simp (disch := first | omega | (simp only [DT, DS, ne_eq, Nat.reduceEqDiff, not_false_eq_true]; done)) only [RX0_turn, TGf, qw, BW, wr_id, OM, OE, PL, ↓reduceIte, TGs, bi_T, bi_F, bi_ff, Nat.reduceLeDiff, Nat.reduceLT, Nat.reduceAdd]
    exact afl hC.2.1.2.1 (wr_id (by omega) (by omega)) (by decide) hP _
  | inr r =>
    simp only [e] at qw
    rw [e] at hP
    obtain ⟨g1, g2, g3⟩ := wr0 r e
    have tz := tg_ne g1.1.2 (by decide)
    obtain ⟨a1, a2, a3, a4, a5, a6, a7, a8, a9, a10, a11, a12, a13⟩ := mk_set (kd := mA M amRk m.toNat) (c := 10766) hC hA en hn hrk (by omega) hm
    have nb := na_n (M := M) (c := 10766) (by omega) (show ¬ tg aBlok = 5 by decide)
    have nu := na_n (M := M) (c := 10766) (by omega) (show ¬ tg (uA m.toNat) = 5 by rw [TGf.1]; decide)
    obtain ⟨b1, b2, b3⟩ := a10 _ r g1
    have P := a11 Q (A m) _ hP
    obtain ⟨o1, o2, o3, o4, o5, o6, o7⟩ := (hA m hm.1 hm.2).2
    have eR : ∀ j, mA (mkR M (mA M amRk m.toNat) n 10766) amRk j = mA M amRk j := fun j => a7 _ _ (by unfold nonS; decide)
    have g := n_turn a1 hm a3 (by rw [eR]; exact a5) b1 g2 ⟨b2, b3⟩ Q n.toNat 0 (z0 (A m)) _ (by omega) (by omega) (cF.refl m _ _ a12) a6 ⟨o5.1, by show sN (A m) ≤ _; omega⟩ ⟨Int.le_refl 0, by show (0 : Int) < 2 ^ 0; decide⟩ (by rw [eR]; exact P)
    simp (disch := first | omega | (simp only [DT, DS, ne_eq, Nat.reduceEqDiff, not_false_eq_true]; done)) only [RX0_turn, TGf, qw, tz, MM, nb, nu, en, hu.2.2.2.1.2.2, na_tg M (show 10766 < 131072 by decide), c_init4 (na_tg M (show 10766 < 131072 by decide)) (kd := mA M amRk m.toNat) (n := n) hrk hn, BW, wr_id, OM, OE, PL, ↓reduceIte, TGs, bi_T, bi_F, bi_ff, Nat.reduceLeDiff, Nat.reduceLT, Nat.reduceAdd]
    exact g
theorem v_source (hC : cS M N) (hT : cTb M) (hA : cA M N t A) (ht : t ≤ 50000) (en : mA M aBlok 7 = n) (hn : 1 ≤ n ∧ n ≤ 16) (hm : 0 ≤ m ∧ m < N) (Q : Option xv → xm → Prop) (hP : cPostA M m Q (famF (A m) (mA M amRk m.toNat) n (if ¬ (0 ≤ mA M amKn (3 * m).toNat ∧ mA M amKn (3 * m).toNat ≤ 7) then .inl (2, -1) else if mA M amTm (mA M amKn (3 * m).toNat).toNat = 0 then .inl (2, -1) else lpF (srcS (mA M amTm (mA M amKn (3 * m).toNat).toNat - 1) (mA M amKn (3 * m + 1).toNat) (mA M amRk m.toNat) (fun j => mA M amTb (16 * mA M amKn (3 * m).toNat + (j : Int)).toNat)) n.toNat 0 (z0 (A m))))) : Wp qX0_playTable 0 [vR aBlok, vR (uA m.toNat), vX, vX, vX, vX] [] M Q := by
  have hR' := hC.r
  have hu := hC.2.2.2.1 m hm.1 hm.2
  have hrk := hC.2.1.2.2.2.2.1 m.toNat
  have kb := hC.2.1.2.2.2.2.2.1 (3 * m).toNat
  have k0 := hu.2.2.2.2.1 0 (by omega) (by omega)
  rw [show 3 * m + 0 = 3 * m by omega, show (0 : Int).toNat = 0 from rfl] at k0
  generalize hk0 : mA M amKn (3 * m).toNat = t0 at *
  have qm := c_isMissing hC hT t0 (by omega)
  have ql := c_lengthOf hC hT t0 (by omega)
  have tlb := tlF_b (t := t0) hC
  by_cases c0 : tlF M t0 = -1
  · simp only [bi_t c0] at qm
    have hP' : cPostA M m Q (.inl (2, -1)) := by
      unfold tlF at c0
      by_cases c1 : 0 ≤ t0 ∧ t0 ≤ 7
      · rw [if_pos c1] at c0
        rw [if_neg (fun q => q c1), if_pos (by omega)] at hP
        exact hP
      · rw [if_pos c1] at hP
        exact hP
    simp (disch := first | omega | (simp only [DT, DS, ne_eq, Nat.reduceEqDiff, not_false_eq_true]; done)) only [RX0_playTable, TGf, hu.1.2.1, Int.reduceToNat, k0, cP.e hC.1, qm, c_fail hC (f := 2) (s := -1) (by decide) (by decide), BW, wr_id, OM, OE, PL, ↓reduceIte, TGs, bi_T, bi_F, bi_ff, Nat.reduceLeDiff, Nat.reduceLT, Nat.reduceAdd]
    exact afl hC.2.1.2.1 (by decide) (by decide) hP' _
  · simp only [bi_f c0] at qm
    have et : tlF M t0 = mA M amTm t0.toNat - 1 ∧ (0 ≤ t0 ∧ t0 ≤ 7) := by
      unfold tlF at c0 ⊢
      by_cases c1 : 0 ≤ t0 ∧ t0 ≤ 7
      · rw [if_pos c1]
        exact ⟨rfl, c1⟩
      · rw [if_neg c1] at c0
        exact absurd rfl c0
    rw [if_neg (fun q => q et.2), if_neg (by omega)] at hP
    have f1 : -2147483648 ≤ t0 ∧ t0 ≤ 2147483647 := by omega
    have f2 : 0 ≤ tlF M t0 := by omega
    have f3 : (0 : Int) + (n.toNat : Nat) = n := by omega
    have f4 : sN (A m) ≤ 1000000 + 0 := by
      have := (hA m hm.1 hm.2).2.2.2.2.2.1
      omega
    obtain ⟨a1, a2, a3, a4, a5, a6, a7, a8, a9, a10, a11, a12, a13⟩ := mk_set (kd := mA M amRk m.toNat) (c := 5666) hC hA en hn hrk (by omega) hm
    have nb := na_n (M := M) (c := 5666) (by omega) (show ¬ tg aBlok = 5 by decide)
    have nu := na_n (M := M) (c := 5666) (by omega) (show ¬ tg (uA m.toNat) = 5 by rw [TGf.1]; decide)
    have P := a11 Q (A m) _ hP
    obtain ⟨o1, o2, o3, o4, o5, o6, o7⟩ := (hA m hm.1 hm.2).2
    have eR : ∀ j, mA (mkR M (mA M amRk m.toNat) n 5666) amRk j = mA M amRk j := fun j => a7 _ _ (by unfold nonS; decide)
    have eK : ∀ j, mA (mkR M (mA M amRk m.toNat) n 5666) amKn j = mA M amKn j := fun j => a7 _ _ (by unfold nonS; decide)
    have eT : ∀ j, mA (mkR M (mA M amRk m.toNat) n 5666) amTb j = mA M amTb j := fun j => a7 _ _ (by unfold nonS; decide)
    have eM : tlF (mkR M (mA M amRk m.toNat) n 5666) t0 = tlF M t0 := by
      unfold tlF
      rw [a7 _ _ (by unfold nonS; decide)]
    have g := n_source (t0 := t0) a1 hm a3 (by rw [eR]; exact a5) (a2 hT) f1 (by rw [eM]; exact f2) Q n.toNat 0 (z0 (A m)) _ f3 (Int.le_refl 0) (cF.refl m _ _ a12) a6 o2 ⟨o5.1, f4⟩ ⟨Int.le_refl 0, by show (0 : Int) < 2 ^ 0; decide⟩ (by
      simp only [eR, eK, eT, eM, et.1]
      exact P)
    rw [eM] at g
    simp (disch := first | omega | (simp only [DT, DS, ne_eq, Nat.reduceEqDiff, not_false_eq_true]; done)) only [RX0_playTable, TGf, hu.1.2.1, Int.reduceToNat, k0, cP.e hC.1, qm, ql, MM, nb, nu, en, hu.2.2.2.1.2.2, na_tg M (show 5666 < 131072 by decide), c_init4 (na_tg M (show 5666 < 131072 by decide)) (kd := mA M amRk m.toNat) (n := n) hrk hn, BW, wr_id, OM, OE, PL, ↓reduceIte, TGs, bi_T, bi_F, bi_ff, Nat.reduceLeDiff, Nat.reduceLT, Nat.reduceAdd]
    exact g
end ACT
