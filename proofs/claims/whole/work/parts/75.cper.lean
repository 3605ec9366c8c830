/-! 75.cper: the developers' own: module after module -/
theorem lpF_f {step : Int → ZT → Int ⊕ ZT} (P : Int → Prop) (h : ∀ k z f, step k z = .inl f → P f) : ∀ (d : Nat) (k : Int) (z : ZT) (f j : Int), lpF step d k z = .inl (f, j) → P f
  | 0, _, _, _, _, e => absurd e (by simp [lpF])
  | d + 1, k, z, f, j, e => by
    cases s : step k z with
    | inl g =>
      rw [lpF_l s] at e
      have := (Prod.mk.inj (Sum.inl.inj e)).1
      rw [← this]
      exact h k z g s
    | inr z' =>
      rw [lpF_r s] at e
      exact lpF_f P h d (k + 1) z' f j e
theorem fam_i {s s' : SS} {kd n : Int} {R : (Int × Int) ⊕ ZT} (h : famF s kd n R = .inr s') : sB s' = sB s ∧ sF s' = sF s := by
  cases R with
  | inl x => exact absurd h fam_l
  | inr z =>
    obtain rfl := Sum.inr.inj (show Sum.inr (newS s z kd n) = Sum.inr s' from h)
    exact ⟨rfl, rfl⟩
theorem fam_f {s : SS} {kd n : Int} {R : (Int × Int) ⊕ ZT} {x : Int × Int} (h : famF s kd n R = .inl x) : R = .inl x := by
  cases R with
  | inl y => exact congrArg Sum.inl (Sum.inl.inj (show Sum.inl y = Sum.inl x from h))
  | inr z => exact absurd h (by simp [famF])
theorem act_bf {C : Nat → Nat → Int} {n m : Int} {A : Int → SS} {s : SS} (hk : 0 ≤ C amKd m.toNat ∧ C amKd m.toNat ≤ 10) (h : actF C n A m = .inr s) : sB s = sB (A m) ∧ sF s = sF (A m) := by
  rcases (show C amKd m.toNat = 0 ∨ (1 ≤ C amKd m.toNat ∧ C amKd m.toNat ≤ 4) ∨ C amKd m.toNat = 5 ∨ C amKd m.toNat = 6 ∨ C amKd m.toNat = 7 ∨ C amKd m.toNat = 8 ∨ C amKd m.toNat = 9 ∨ C amKd m.toNat = 10 by omega) with e | e | e | e | e | e | e | e
  · rw [actF_0 e] at h; exact fam_i h
  · rw [actF_1 e] at h; exact fam_i h
  · rw [actF_5 e] at h
    split at h
    · exact absurd h (by simp)
    · split at h
      · exact fam_i h
      · obtain rfl := Sum.inr.inj h
        exact ⟨rfl, rfl⟩
  · rw [actF_6 e] at h
    obtain rfl := Sum.inr.inj h
    exact ⟨rfl, rfl⟩
  · rw [actF_7 e] at h; exact fam_i h
  · rw [actF_8 e] at h; exact fam_i h
  · rw [actF_9 e] at h
    cases e1 : wantF A (C amCo (3 * m).toNat) (-1) with
    | inl f => rw [e1] at h; exact absurd h (by simp [bindW])
    | inr r =>
      rw [e1] at h
      have h' : bindW (wantF A (C amCo (3 * m + 1).toNat) 0) (fun g => if rwL g ≤ n - 1 then .inl (3, n - 1) else if FP.dcmp (rwV g (n - 1)) FP.dconst1 = some .eq then .inr (setR (A m) (some r)) else .inr (setR (A m) none)) = .inr s := h
      cases e2 : wantF A (C amCo (3 * m + 1).toNat) 0 with
      | inl f => rw [e2] at h'; exact absurd h' (by simp [bindW])
      | inr g =>
        rw [e2] at h'
        have h2 : (if rwL g ≤ n - 1 then (.inl (3, n - 1) : (Int × Int) ⊕ SS) else if FP.dcmp (rwV g (n - 1)) FP.dconst1 = some .eq then .inr (setR (A m) (some r)) else .inr (setR (A m) none)) = .inr s := h'
        split at h2
        · exact absurd h2 (by simp)
        · split at h2
          · obtain rfl := Sum.inr.inj h2
            exact ⟨rfl, rfl⟩
          · obtain rfl := Sum.inr.inj h2
            exact ⟨rfl, rfl⟩
  · rw [actF_10 e] at h; exact fam_i h
theorem bZ_f {w : Int ⊕ Rw} {F : Rw → (Int × Int) ⊕ ZT} {f j : Int} (hw : ∀ g, w = .inl g → 1 ≤ g ∧ g ≤ 5) (hF : ∀ r f j, F r = .inl (f, j) → 1 ≤ f ∧ f ≤ 5) (h : bZ w F = .inl (f, j)) : 1 ≤ f ∧ f ≤ 5 := by
  cases w with
  | inl g =>
    have := (Prod.mk.inj (Sum.inl.inj (show Sum.inl (g, -1) = Sum.inl (f, j) from h))).1
    rw [← this]
    exact hw g rfl
  | inr r => exact hF r f j h
theorem wl5 {A : Int → SS} {c k : Int} : ∀ g, wantF A c k = .inl g → 1 ≤ g ∧ g ≤ 5 := fun g e => by
  have := want_l e
  omega
/-- a finding is one of 1 .. 5 -/
theorem act_f {C : Nat → Nat → Int} {n m f j : Int} {A : Int → SS} (hk : 0 ≤ C amKd m.toNat ∧ C amKd m.toNat ≤ 10) (h : actF C n A m = .inl (f, j)) : 1 ≤ f ∧ f ≤ 5 := by
  rcases (show C amKd m.toNat = 0 ∨ (1 ≤ C amKd m.toNat ∧ C amKd m.toNat ≤ 4) ∨ C amKd m.toNat = 5 ∨ C amKd m.toNat = 6 ∨ C amKd m.toNat = 7 ∨ C amKd m.toNat = 8 ∨ C amKd m.toNat = 9 ∨ C amKd m.toNat = 10 by omega) with e | e | e | e | e | e | e | e
  · rw [actF_0 e] at h
    have h := fam_f h
    split at h
    · have := (Prod.mk.inj (Sum.inl.inj h)).1; omega
    · split at h
      · have := (Prod.mk.inj (Sum.inl.inj h)).1; omega
      · refine lpF_f (fun f => 1 ≤ f ∧ f ≤ 5) (fun k z g e => ?_) _ _ _ _ _ h
        unfold srcS at e
        split at e
        · have := Sum.inl.inj e; omega
        · split at e
          · have := Sum.inl.inj e; omega
          · split at e <;> exact absurd e (by simp)
  · rw [actF_1 e] at h
    refine bZ_f wl5 (fun r f j h => lpF_f (fun f => 1 ≤ f ∧ f ≤ 5) (fun k z g e => ?_) _ _ _ _ _ h) (fam_f h)
    unfold shpS at e
    split at e
    · have := Sum.inl.inj e; omega
    · split at e
      · exact absurd e (by simp)
      · split at e
        · exact absurd e (by simp)
        · split at e <;> exact absurd e (by simp)
  · rw [actF_5 e] at h
    split at h
    · have := (Prod.mk.inj (Sum.inl.inj h)).1; omega
    · split at h
      · refine lpF_f (fun f => 1 ≤ f ∧ f ≤ 5) (fun k z g e => ?_) _ _ _ _ _ (fam_f h)
        unfold mixS at e
        split at e
        · have := Sum.inl.inj e; omega
        · exact absurd e (by simp)
      · exact absurd h (by simp)
  · rw [actF_6 e] at h
    exact absurd h (by simp)
  · rw [actF_7 e] at h
    refine bZ_f wl5 (fun r f j h => lpF_f (fun f => 1 ≤ f ∧ f ≤ 5) (fun k z g e => ?_) _ _ _ _ _ h) (fam_f h)
    unfold gatS at e
    split at e
    · have := Sum.inl.inj e; omega
    · split at e <;> exact absurd e (by simp)
  · rw [actF_8 e] at h
    refine bZ_f wl5 (fun r f j h => lpF_f (fun f => 1 ≤ f ∧ f ≤ 5) (fun k z g e => ?_) _ _ _ _ _ h) (fam_f h)
    unfold trnS at e
    split at e
    · have := Sum.inl.inj e; omega
    · split at e
      · exact absurd e (by simp)
      · split at e <;> exact absurd e (by simp)
  · rw [actF_9 e] at h
    cases e1 : wantF A (C amCo (3 * m).toNat) (-1) with
    | inl g =>
      rw [e1] at h
      have := (Prod.mk.inj (Sum.inl.inj (show Sum.inl (g, -1) = Sum.inl (f, j) from h))).1
      have := wl5 g e1
      omega
    | inr r =>
      rw [e1] at h
      have h' : bindW (wantF A (C amCo (3 * m + 1).toNat) 0) (fun g => if rwL g ≤ n - 1 then .inl (3, n - 1) else if FP.dcmp (rwV g (n - 1)) FP.dconst1 = some .eq then .inr (setR (A m) (some r)) else .inr (setR (A m) none)) = .inl (f, j) := h
      cases e2 : wantF A (C amCo (3 * m + 1).toNat) 0 with
      | inl g =>
        rw [e2] at h'
        have := (Prod.mk.inj (Sum.inl.inj (show Sum.inl (g, -1) = Sum.inl (f, j) from h'))).1
        have := wl5 g e2
        omega
      | inr g =>
        rw [e2] at h'
        have h2 : (if rwL g ≤ n - 1 then (.inl (3, n - 1) : (Int × Int) ⊕ SS) else if FP.dcmp (rwV g (n - 1)) FP.dconst1 = some .eq then .inr (setR (A m) (some r)) else .inr (setR (A m) none)) = .inl (f, j) := h'
        split at h2
        · have := (Prod.mk.inj (Sum.inl.inj h2)).1; omega
        · split at h2 <;> exact absurd h2 (by simp)
  · rw [actF_10 e] at h
    refine bZ_f wl5 (fun r f j h => lpF_f (fun f => 1 ≤ f ∧ f ≤ 5) (fun k z g e => ?_) _ _ _ _ _ h) (fam_f h)
    unfold menS at e
    split at e
    · have := Sum.inl.inj e; omega
    · split at e
      · have := Sum.inl.inj e; omega
      · exact absurd e (by simp)
theorem act_ok' {M : xm} {n t m : Int} {A : Int → SS} {s' : SS} (hc : mCg M) (hn : 1 ≤ n ∧ n ≤ 16) (ha : ∀ o, 0 ≤ o → o ≤ 23 → okS t (A o)) (hm : 0 ≤ m ∧ m ≤ 23) (h : actF (mA M) n A m = .inr s') : okS (t + 1) s' := by
  have k : kG M (wA M aM 19 n) := (kG.refl hc.2.1).w (by omega) (wr_id (by omega) (by omega))
  refine act_ok (M := wA M aM 19 n) (n := n) (A := A) (m := m) (k.f hc (wA_e _ _ _ _) hn) ha hm ?_
  rw [actF_c k.c]
  exact h
/-- what stays as it is while modules act, k of them -/
def pG (M0 : xm) (k : Int) (M : xm) : Prop := (∀ l j, old M0 l → ¬ l % 274877906944 = 83777028102 → ¬ (l = aBlok ∧ (j = 0 ∨ j = 1 ∨ j = 2 ∨ j = 6)) → ¬ l = aMarks → mA M l j = mA M0 l j) ∧ (∀ l j, old M0 l → ¬ l % 274877906944 = 83777028102 → mB M l j = mB M0 l j) ∧ (∀ l j, old M0 l → ¬ (l % 274877906944 = 83777028102 ∧ j = 0) → mR M l j = mR M0 l j) ∧ (∀ k, mC M0 k ≤ mC M k ∧ (¬ k % 64 = 5 → ¬ k % 64 = 33 → mC M k = mC M0 k)) ∧ ((mK M : Int) ≤ mK M0 + 2 * k ∧ mK M0 ≤ mK M ∧ (mS M : Int) ≤ mS M0 + 20 * k ∧ mS M0 ≤ mS M) ∧ inR M
theorem nw_t {l : Nat} (h : l % 274877906944 = 83777028102) : tg l = 6 := by unfold tg; omega
theorem now_k (i : Nat) : nowA i % 274877906944 = 83777028102 := by unfold nowA; omega
theorem pG.s {M0 M : xm} {k N : Int} (h : pG M0 k M) (hC : cS M0 N) : cS M N :=
  cS_c hC h.2.2.2.2.2 (fun l j a b c _ => h.2.2.1 l j (old_t a b) (fun q => c ⟨nw_t q.1, q.2⟩)) (fun l j q => h.1 l j (old_t (fun z => q (Or.inl z)) (fun z => q (Or.inr (Or.inr (Or.inl z))))) (fun z => q (Or.inr (Or.inl (nw_t z)))) (fun z => q (by rw [z.1]; exact Or.inr (Or.inr (Or.inr (Or.inl (by decide)))))) (fun z => q (by rw [z]; unfold nonS; decide)))
theorem pG.t {M0 M : xm} {k : Int} (h : pG M0 k M) (hT : cTb M0) : cTb M :=
  cTb_c hT (fun l j q => h.1 l j (old_t (fun z => q (Or.inl z)) (fun z => q (Or.inr (Or.inr (Or.inl z))))) (fun z => q (Or.inr (Or.inl (nw_t z)))) (fun z => q (by rw [z.1]; exact Or.inr (Or.inr (Or.inr (Or.inl (by decide)))))) (fun z => q (by rw [z]; unfold nonS; decide)))
theorem pG.row {M0 M : xm} {k : Int} (h : pG M0 k M) : rowG M0 M := ⟨fun k => (h.2.2.2.1 k).1, fun l j a t => ⟨h.1 l j (Or.inl a) (fun q => absurd (nw_t q) (by rw [t]; decide)) (fun q => absurd t (by rw [q.1]; decide)) (fun q => absurd t (by rw [q]; decide)), h.2.2.1 l j (Or.inl a) (fun q => absurd (nw_t q.1) (by rw [t]; decide))⟩, fun v j n a b => h.2.1 v j (Or.inl a) (fun q => by unfold isV at b; omega)⟩
theorem pG.refl {M : xm} (h : inR M) : pG M 0 M := ⟨fun _ _ _ _ _ _ => rfl, fun _ _ _ _ => rfl, fun _ _ _ _ => rfl, fun _ => ⟨Nat.le_refl _, fun _ _ => rfl⟩, by omega, h⟩
theorem pG.ol {M0 M : xm} {k : Int} (h : pG M0 k M) {l : Nat} (o : old M0 l) : old M l := by
  rcases o with o | o
  · exact Or.inl (alv_m (fun k => (h.2.2.2.1 k).1) o)
  · exact Or.inr o
/-- a mark, the module's number -/
theorem pG.m {M0 M : xm} {k : Int} (h : pG M0 k M) (i : Nat) {x y z : Int} (hx : wr x = x) (hy : wr y = y) (hz : wr z = z) : pG M0 k (wA (wA (wA M aMarks i x) aBlok 6 y) aBlok 1 z) := by
  obtain ⟨a1, a2, a3, a4, a5, a6⟩ := h
  refine ⟨fun l j u v w p => ?_, a2, a3, a4, a5, ((a6.wA _ _ hx).wA _ _ hy).wA _ _ hz⟩
  rw [wA_o _ _ (fun q => w ⟨q.1, by omega⟩), wA_o _ _ (fun q => w ⟨q.1, by omega⟩), wA_o _ _ (fun q => p q.1)]
  exact a1 l j u v w p
theorem pG.a {M0 M M' : xm} {k m : Int} (h : pG M0 k M) (g : acG M m M') (x : Nat) : pG M0 (k + 1) (wR M' (nowA m.toNat) 0 x) := by
  have ol := fun l o => h.ol (l := l) o
  obtain ⟨a1, a2, a3, a4, a5, a6⟩ := h
  obtain ⟨b1, b2, b3, b4, b5, b6⟩ := g
  refine ⟨fun l j u v w p => ?_, fun l j u v => ?_, fun l j u v => ?_, fun c => ?_, ?_, b6⟩
  · exact (b1 l j (ol l u) (fun q => v (by rw [q.1]; exact now_k _)) (fun q => w ⟨q.1, by omega⟩)).trans (a1 l j u v w p)
  · exact (b2 l j (ol l u) (fun q => v (by rw [q.1]; exact now_k _))).trans (a2 l j u v)
  · have e : mR (wR M' (nowA m.toNat) 0 x) l j = mR M' l j := if_neg (fun q => v ⟨by rw [q.1]; exact now_k _, q.2⟩)
    rw [e]
    exact (b3 l j (ol l u)).trans (a3 l j u v)
  · exact ⟨Nat.le_trans (a4 c).1 (b4 c).1, fun u v => ((b4 c).2 u v).trans ((a4 c).2 u v)⟩
  · show (mK M' : Int) ≤ mK M0 + 2 * (k + 1) ∧ mK M0 ≤ mK M' ∧ (mS M' : Int) ≤ mS M0 + 20 * (k + 1) ∧ mS M0 ≤ mS M'
    omega
theorem c_mark {M : xm} {N : Int} (hC : cS M N) {c x : Int} (ec : mA M aBlok 6 = c) (hc : 0 ≤ c ∧ c < 48) (hx : wr x = x) (Q : Option xv → xm → Prop) : Wp qX0_mark 0 [vR aBlok, vI x] [] M Q ↔ Q none (wA (wA M aMarks c.toNat x) aBlok 6 (c + 1)) := by
  have e2 : mA (wA M aMarks c.toNat x) aBlok 6 = c := by rw [wA_o _ _ (fun q => absurd q.1 (by decide))]; exact ec
  have mz : ¬ aMarks = 0 := by decide
  simp (disch := first | omega | (simp only [DT, DS, ne_eq, Nat.reduceEqDiff, not_false_eq_true]; done)) only [RX0_mark, cP.e hC.1, ec, hx, e2, mz, BW, wr_id, OM, OE, PL, ↓reduceIte, TGs, bi_T, bi_F, bi_ff, Nat.reduceLeDiff, Nat.reduceLT, Nat.reduceAdd]
