/-! 70.cfra: the developers' own: while a module makes its row -/
def cFo (M0 : xm) (m : Int) (L V : Nat) (M : xm) : Prop := (∀ l j, ¬ (l = nowA m.toNat ∧ (j = 1 ∨ j = 4 ∨ j = 5)) → ¬ (l = L ∧ j = 3) → ¬ (l = aBlok ∧ (j = 0 ∨ j = 2)) → mA M l j = mA M0 l j) ∧ (∀ l j, ¬ (l = nowA m.toNat ∧ (j = 2 ∨ j = 3)) → ¬ l = V → mB M l j = mB M0 l j) ∧ mR M = mR M0 ∧ mC M = mC M0 ∧ (mK M = mK M0 ∧ mS M = mS M0) ∧ inR M
def cF (M0 : xm) (m : Int) (L V : Nat) (M : xm) : Prop := (∀ l j, ¬ (l = nowA m.toNat ∧ (j = 1 ∨ j = 4 ∨ j = 5)) → ¬ (l = L ∧ j = 3) → ¬ (l = aBlok ∧ (j = 0 ∨ j = 2)) → mA M l j = mA M0 l j) ∧ (∀ l j, ¬ (l = nowA m.toNat ∧ (j = 2 ∨ j = 3)) → ¬ l = V → mB M l j = mB M0 l j) ∧ mR M = mR M0 ∧ mC M = mC M0 ∧ (mK M = mK M0 ∧ mS M = mS M0 ∧ mA M aBlok 0 = mA M0 aBlok 0) ∧ inR M
def cV (M : xm) (m : Int) (L V : Nat) (z : ZT) (k : Int) : Prop := mA M (nowA m.toNat) 1 = zP z ∧ mA M (nowA m.toNat) 4 = zU z ∧ mA M (nowA m.toNat) 5 = zN z ∧ mB M (nowA m.toNat) 2 = zK z ∧ mB M (nowA m.toNat) 3 = zO z ∧ mA M L 3 = zM z ∧ (∀ j : Nat, (j : Int) < k → mB M V j = zV z j) ∧ ∀ j : Nat, k ≤ (j : Int) → mB M V j = 0
def cPost (M0 : xm) (m n : Int) (L V : Nat) (Q : Option xv → xm → Prop) : (Int × Int) ⊕ ZT → Prop
  | .inr z => ∀ M, cF M0 m L V M → cV M m L V z n → Q (some (vR L)) M
  | .inl (f, k) => ∀ M x, cFo M0 m L V M → mA M aBlok 0 = f → mA M aBlok 2 = k → Q (some (vR x)) M
section CF
variable {M0 M : xm} {m : Int} {L V : Nat}
theorem cF.refl (m : Int) (L V : Nat) (h : inR M) : cF M m L V M := ⟨fun _ _ _ _ _ => rfl, fun _ _ _ _ => rfl, rfl, rfl, ⟨rfl, rfl, rfl⟩, h⟩
theorem cF.o (h : cF M0 m L V M) : cFo M0 m L V M := ⟨h.1, h.2.1, h.2.2.1, h.2.2.2.1, ⟨h.2.2.2.2.1.1, h.2.2.2.2.1.2.1⟩, h.2.2.2.2.2⟩
theorem now_b (i : Nat) : ¬ nowA i = aBlok := tg_d (TGf.2.2.2.2.1 i) (show tg aBlok = 1 by decide) (by decide)
theorem cF.wN (h : cF M0 m L V M) {j0 : Nat} {x : Int} (hj : j0 = 1 ∨ j0 = 4 ∨ j0 = 5) (hx : wr x = x) : cF M0 m L V (wA M (nowA m.toNat) j0 x) := by
  obtain ⟨h1, h2, h3, h4, h5, h6⟩ := h
  refine ⟨fun l j a b c => ?_, h2, h3, h4, ⟨h5.1, h5.2.1, ?_⟩, h6.wA _ _ hx⟩
  · rw [wA_o _ _ (fun q => a ⟨q.1, by rw [q.2]; exact hj⟩)]
    exact h1 l j a b c
  · rw [wA_o _ _ (fun q => now_b _ q.1.symm)]
    exact h5.2.2
theorem cF.wL (h : cF M0 m L V M) (t : tg L = 5) {x : Int} (hx : wr x = x) : cF M0 m L V (wA M L 3 x) := by
  obtain ⟨h1, h2, h3, h4, h5, h6⟩ := h
  refine ⟨fun l j a b c => ?_, h2, h3, h4, ⟨h5.1, h5.2.1, ?_⟩, h6.wA _ _ hx⟩
  · rw [wA_o _ _ b]
    exact h1 l j a b c
  · rw [wA_o _ _ (fun q => absurd q.2 (by decide))]
    exact h5.2.2
theorem cF.wD (h : cF M0 m L V M) {j0 : Nat} {x : UInt64} (hj : j0 = 2 ∨ j0 = 3) : cF M0 m L V (wB M (nowA m.toNat) j0 x) := by
  obtain ⟨h1, h2, h3, h4, h5, h6⟩ := h
  refine ⟨h1, fun l j a b => ?_, h3, h4, h5, h6⟩
  rw [wB_o _ _ (fun q => a ⟨q.1, by rw [q.2]; exact hj⟩)]
  exact h2 l j a b
theorem cF.wV (h : cF M0 m L V M) (j0 : Nat) (x : UInt64) : cF M0 m L V (wB M V j0 x) := by
  obtain ⟨h1, h2, h3, h4, h5, h6⟩ := h
  refine ⟨h1, fun l j a b => ?_, h3, h4, h5, h6⟩
  rw [wB_o _ _ (fun q => b q.1)]
  exact h2 l j a b
theorem cF.fl (h : cFo M0 m L V M) {f k : Int} (hf : wr f = f) (hk : wr k = k) : cFo M0 m L V (wA (wA M aBlok 0 f) aBlok 2 k) := by
  obtain ⟨h1, h2, h3, h4, h5, h6⟩ := h
  refine ⟨fun l j a b c => ?_, h2, h3, h4, h5, (h6.wA _ _ hf).wA _ _ hk⟩
  rw [wA_o _ _ (fun q => c ⟨q.1, Or.inr q.2⟩), wA_o _ _ (fun q => c ⟨q.1, Or.inl q.2⟩)]
  exact h1 l j a b c
theorem cfail {n f k : Int} {Q : Option xv → xm → Prop} (h : cF M0 m L V M) (hf : wr f = f) (hk : wr k = k) (hP : cPost M0 m n L V Q (.inl (f, k))) (x : Nat) : Q (some (vR x)) (wA (wA M aBlok 0 f) aBlok 2 k) :=
  hP _ x (cF.fl h.o hf hk) (by rw [wA_o _ _ (by decide), wA_e]) (wA_e _ _ _ _)
theorem cFo.a (h : cFo M0 m L V M) (t : tg L = 5) {l : Nat} (j : Nat) (h1 : ¬ tg l = 6) (h2 : ¬ tg l = 5) (h3 : ¬ l = aBlok) : mA M l j = mA M0 l j := h.1 l j (fun q => h1 (by rw [q.1]; exact TGf.2.2.2.2.1 _)) (fun q => h2 (by rw [q.1]; exact t)) (fun q => h3 q.1)
theorem cFo.s {N : Int} (h : cFo M0 m L V M) (t : tg L = 5) (hC : cS M0 N) : cS M N :=
  cS_c hC h.2.2.2.2.2 (fun l j _ _ _ _ => by rw [h.2.2.1]) (fun l j q => h.a t j (fun z => q (Or.inr (Or.inl z))) (fun z => q (Or.inl z)) (fun z => q (by rw [z]; exact Or.inr (Or.inr (Or.inr (Or.inl (by decide)))))))
theorem cFo.t (h : cFo M0 m L V M) (t : tg L = 5) (hT : cTb M0) : cTb M :=
  cTb_c hT (fun l j q => h.a t j (fun z => q (Or.inr (Or.inl z))) (fun z => q (Or.inl z)) (fun z => q (by rw [z]; exact Or.inr (Or.inr (Or.inr (Or.inl (by decide)))))))
theorem cF.b7 (h : cF M0 m L V M) (t : tg L = 5) : mA M aBlok 7 = mA M0 aBlok 7 := h.1 _ _ (fun q => now_b _ q.1.symm) (fun q => absurd q.2 (by decide)) (fun q => absurd q.2 (by decide))
theorem cF.n6 (h : cF M0 m L V M) (t : tg L = 5) : mA M (nowA m.toNat) 6 = mA M0 (nowA m.toNat) 6 := h.1 _ _ (fun q => absurd q.2 (by decide)) (fun q => absurd q.2 (by decide)) (fun q => now_b _ q.1)
theorem cF.k {kd n : Int} (h : cF M0 m L V M) (hK : mkd M0 L V kd n) : mkd M L V kd n := by
  obtain ⟨k1, ⟨k2, k3⟩, k4, k5, k6⟩ := hK
  have hd : ¬ L = nowA m.toNat := tg_d k1.1 (TGf.2.2.2.2.1 _) (by decide)
  have hb : ¬ L = aBlok := tg_d k1.1 (show tg aBlok = 1 by decide) (by decide)
  exact ⟨k1, ⟨by rw [h.1 _ _ (fun q => hd q.1) (fun q => absurd q.2 (by decide)) (fun q => hb q.1)]; exact k2, by rw [h.1 _ _ (fun q => hd q.1) (fun q => absurd q.2 (by decide)) (fun q => hb q.1)]; exact k3⟩, by rw [h.2.2.1]; exact k4, k5, k6⟩
theorem cFo.g (h : cFo M0 m L V M) {G : Nat} {r : Rw} (hG : cRw M0 G (some r)) (hn : ¬ G = L ∧ ¬ mR M0 G 2 = V) : cRw M G (some r) := by
  obtain ⟨⟨g1, g2⟩, ⟨g3, g4, g5⟩, ⟨g6, g7⟩, g8⟩ := hG
  have hd : ¬ G = nowA m.toNat := tg_d g2 (TGf.2.2.2.2.1 _) (by decide)
  have hb : ¬ G = aBlok := tg_d g2 (show tg aBlok = 1 by decide) (by decide)
  have e : ∀ j, mA M G j = mA M0 G j := fun j => h.1 _ _ (fun q => hd q.1) (fun q => hn.1 q.1) (fun q => hb q.1)
  have eR : mR M G 2 = mR M0 G 2 := by rw [h.2.2.1]
  have tv : ¬ mR M0 G 2 = nowA m.toNat := by
    intro q
    unfold isV at g7
    rw [q] at g7
    unfold nowA at g7
    omega
  refine ⟨⟨?_, g2⟩, ⟨by rw [e]; exact g3, by rw [e]; exact g4, by rw [e]; exact g5⟩, ⟨?_, by rw [eR]; exact g7⟩, fun i a b => ?_⟩
  · unfold alv
    rw [h.2.2.2.1]
    exact g1
  · rw [eR]
    unfold alv
    rw [h.2.2.2.1]
    exact g6
  · rw [eR, h.2.1 _ _ (fun q => tv q.1) hn.2]
    exact g8 i a b
end CF
section CVL
variable {M : xm} {m k : Int} {L V : Nat} {z : ZT}
theorem cV_i {j : Nat} (t : tg L = 5) : ¬ nowA j = L := fun q => tg_d t (TGf.2.2.2.2.1 j) (by decide) q.symm
theorem cV_j {n : Nat} {j : Nat} (hV : isV V n) : ¬ nowA j = V := fun q => by
  unfold isV at hV
  rw [← q] at hV
  unfold nowA at hV
  omega
theorem cV_p (h : cV M m L V z k) (t : tg L = 5) (x : Int) : cV (wA M (nowA m.toNat) 1 x) m L V (x, zK z, zO z, zU z, zN z, zM z, zV z, zS z) k := by
  obtain ⟨h1, h2, h3, h4, h5, h6, h7, h8⟩ := h
  exact ⟨wA_e _ _ _ _, (wA_o M x (by simp)).trans h2, (wA_o M x (by simp)).trans h3, h4, h5, (wA_o M x (fun q => cV_i t q.1.symm)).trans h6, h7, h8⟩
theorem cV_u (h : cV M m L V z k) (t : tg L = 5) (x : Int) : cV (wA M (nowA m.toNat) 4 x) m L V (zP z, zK z, zO z, x, zN z, zM z, zV z, zS z) k := by
  obtain ⟨h1, h2, h3, h4, h5, h6, h7, h8⟩ := h
  exact ⟨(wA_o M x (by simp)).trans h1, wA_e _ _ _ _, (wA_o M x (by simp)).trans h3, h4, h5, (wA_o M x (fun q => cV_i t q.1.symm)).trans h6, h7, h8⟩
theorem cV_n (h : cV M m L V z k) (t : tg L = 5) (x : Int) : cV (wA M (nowA m.toNat) 5 x) m L V (zP z, zK z, zO z, zU z, x, zM z, zV z, zS z) k := by
  obtain ⟨h1, h2, h3, h4, h5, h6, h7, h8⟩ := h
  exact ⟨(wA_o M x (by simp)).trans h1, (wA_o M x (by simp)).trans h2, wA_e _ _ _ _, h4, h5, (wA_o M x (fun q => cV_i t q.1.symm)).trans h6, h7, h8⟩
theorem cV_m (h : cV M m L V z k) (t : tg L = 5) (x : Int) : cV (wA M L 3 x) m L V (zP z, zK z, zO z, zU z, zN z, x, zV z, zS z) k := by
  obtain ⟨h1, h2, h3, h4, h5, h6, h7, h8⟩ := h
  exact ⟨(wA_o M x (fun q => cV_i t q.1)).trans h1, (wA_o M x (fun q => cV_i t q.1)).trans h2, (wA_o M x (fun q => cV_i t q.1)).trans h3, h4, h5, wA_e _ _ _ _, h7, h8⟩
theorem cV_k {n : Nat} (h : cV M m L V z k) (hV : isV V n) (x : UInt64) : cV (wB M (nowA m.toNat) 2 x) m L V (zP z, x, zO z, zU z, zN z, zM z, zV z, zS z) k := by
  obtain ⟨h1, h2, h3, h4, h5, h6, h7, h8⟩ := h
  exact ⟨h1, h2, h3, wB_e _ _ _ _, (wB_o M x (by simp)).trans h5, h6, fun j a => (wB_o M x (fun q => cV_j hV q.1.symm)).trans (h7 j a), fun j a => (wB_o M x (fun q => cV_j hV q.1.symm)).trans (h8 j a)⟩
theorem cV_o {n : Nat} (h : cV M m L V z k) (hV : isV V n) (x : UInt64) : cV (wB M (nowA m.toNat) 3 x) m L V (zP z, zK z, x, zU z, zN z, zM z, zV z, zS z) k := by
  obtain ⟨h1, h2, h3, h4, h5, h6, h7, h8⟩ := h
  exact ⟨h1, h2, h3, (wB_o M x (by simp)).trans h4, wB_e _ _ _ _, h6, fun j a => (wB_o M x (fun q => cV_j hV q.1.symm)).trans (h7 j a), fun j a => (wB_o M x (fun q => cV_j hV q.1.symm)).trans (h8 j a)⟩
theorem cV_v {n : Nat} (h : cV M m L V z k) (hV : isV V n) (hk : 0 ≤ k) (x : UInt64) : cV (wB M V k.toNat x) m L V (zP z, zK z, zO z, zU z, zN z, zM z, upV (zV z) k.toNat x, zS z) (k + 1) := by
  obtain ⟨h1, h2, h3, h4, h5, h6, h7, h8⟩ := h
  refine ⟨h1, h2, h3, (wB_o M x (fun q => cV_j hV q.1)).trans h4, (wB_o M x (fun q => cV_j hV q.1)).trans h5, h6, fun j a => ?_, fun j a => ?_⟩
  · show mB (wB M V k.toNat x) V j = if j = k.toNat then x else zV z j
    by_cases e : j = k.toNat
    · rw [e, wB_e, if_pos rfl]
    · rw [wB_o M x (fun q => e q.2), if_neg e]
      exact h7 j (by omega)
  · rw [wB_o M x (fun q => by have := q.2; omega)]
    exact h8 j (by omega)
/-- no number: its place stays 0 -/
theorem cV_z (h : cV M m L V z k) (hk : 0 ≤ k) : cV M m L V (zP z, zK z, zO z, zU z, zN z, zM z, upV (zV z) k.toNat 0, zS z) (k + 1) := by
  obtain ⟨h1, h2, h3, h4, h5, h6, h7, h8⟩ := h
  refine ⟨h1, h2, h3, h4, h5, h6, fun j a => ?_, fun j a => h8 j (by omega)⟩
  show mB M V j = if j = k.toNat then 0 else zV z j
  by_cases e : j = k.toNat
  · rw [if_pos e]
    exact h8 j (by omega)
  · rw [if_neg e]
    exact h7 j (by omega)
end CVL
/-- what the developers' own keeps of modules' rows -/
def cG (M : xm) (N : Int) (A : Int → SS) : Prop := ∀ o, 0 ≤ o → o < N → cRw M (mR M (nowA o.toNat) 0) (sR (A o)) ∧ okO (sR (A o))
theorem c_wanted {M : xm} {N m i kind : Int} {A : Int → SS} (hC : cS M N) (hA : cG M N A) (hm : 0 ≤ m ∧ m < N) (hi : 0 ≤ i ∧ i ≤ 2) (hk : -1 ≤ kind ∧ kind ≤ 4) (Q : Option xv → xm → Prop) : Wp qX0_wantedRow 0 [vR aBlok, vR (uA m.toNat), vI i, vI kind, vX] [] M Q ↔ match wantF A (mA M amCo (3 * m + i).toNat) kind with
    | .inl f => Q (some (vR 0)) (wA (wA M aBlok 0 f) aBlok 2 (-1))
    | .inr _ => Q (some (vR (mR M (nowA (mA M amCo (3 * m + i).toNat - 1).toNat) 0))) M := by
  have hb := hC.2.1.2.2.1 (3 * m + i).toNat
  have hcN := hC.2.2.2.2.2 m i hm.1 hm.2 hi.1 hi.2
  have hR' := hC.r
  have q1 := c_cordOf hC hm hi
  have q2 := c_rowAt hC hm hi
  generalize mA M amCo (3 * m + i).toNat = c at *
  unfold wantF
  by_cases c1 : c ≤ 0
  · rw [if_pos c1]
    have e : c = 0 := by omega
    subst e
    simp (disch := first | omega | (simp only [DT, DS, ne_eq, Nat.reduceEqDiff, not_false_eq_true]; done)) only [RX0_wantedRow, TGf, q1, c_fail hC (f := 1) (s := -1) (by decide) (by decide), BW, wr_id, OM, OE, PL, ↓reduceIte, TGs, bi_T, bi_F, bi_ff, Nat.reduceLeDiff, Nat.reduceLT, Nat.reduceAdd]
  · rw [if_neg c1]
    obtain ⟨g1, g2⟩ := hA (c - 1) (by omega) (by omega)
    have eg : gR M N (c - 1) = mR M (nowA (c - 1).toNat) 0 := by
      unfold gR
      rw [if_pos (by omega)]
    rw [eg] at q2
    cases e : sR (A (c - 1)) with
    | none =>
      rw [e] at g1
      have g0 : mR M (nowA (c - 1).toNat) 0 = 0 := g1
      rw [g0] at q2
      simp (disch := first | omega | (simp only [DT, DS, ne_eq, Nat.reduceEqDiff, not_false_eq_true]; done)) only [RX0_wantedRow, TGf, q1, q2, c_fail hC (f := 2) (s := -1) (by decide) (by decide), BW, wr_id, OM, OE, PL, ↓reduceIte, TGs, bi_T, bi_F, bi_ff, Nat.reduceLeDiff, Nat.reduceLT, Nat.reduceAdd]
    | some w =>
      rw [e] at g1
      have tz := tg_ne g1.1.2 (by decide)
      have ek := g1.2.1.1
      have ow := (g2 w e).1
      have tw := g1.1.2
      dsimp only
      by_cases c2 : kind < 0
      · rw [if_pos (Or.inl c2)]
        have e1 : kind = -1 := by omega
        subst e1
        simp (disch := first | omega | (simp only [DT, DS, ne_eq, Nat.reduceEqDiff, not_false_eq_true]; done)) only [RX0_wantedRow, TGf, q1, q2, tz, BW, wr_id, OM, OE, PL, ↓reduceIte, TGs, bi_T, bi_F, bi_ff, Nat.reduceLeDiff, Nat.reduceLT, Nat.reduceAdd]
      · by_cases c3 : rwK w = kind
        · rw [if_pos (Or.inr c3)]
          simp (disch := first | omega | (simp only [DT, DS, ne_eq, Nat.reduceEqDiff, not_false_eq_true]; done)) only [RX0_wantedRow, TGf, q1, q2, tz, tw, ek, BW, wr_id, OM, OE, PL, ↓reduceIte, TGs, bi_T, bi_F, bi_ff, Nat.reduceLeDiff, Nat.reduceLT, Nat.reduceAdd]
        · rw [if_neg (by omega)]
          simp (disch := first | omega | (simp only [DT, DS, ne_eq, Nat.reduceEqDiff, not_false_eq_true]; done)) only [RX0_wantedRow, TGf, q1, q2, tz, tw, ek, c_fail hC (f := 4) (s := -1) (by decide) (by decide), BW, wr_id, OM, OE, PL, ↓reduceIte, TGs, bi_T, bi_F, bi_ff, Nat.reduceLeDiff, Nat.reduceLT, Nat.reduceAdd]
theorem c_ends {M : xm} {N k : Int} {G : Nat} {r : Rw} (hC : cS M N) (hG : cRw M G (some r)) (ho : okR r) (hk : 0 ≤ k ∧ k ≤ 15) (Q : Option xv → xm → Prop) : Wp qX0_endsAhead 0 [vR aBlok, vR G, vI k] [] M Q ↔ if rwL r ≤ k then Q (some (vI 1)) (wA (wA M aBlok 0 3) aBlok 2 k) else Q (some (vI 0)) M := by
  have hl := ho.2.1
  have q := c_has hG.1.2 hG.2.1.2.1 (by omega) k (by omega)
  have t := hG.1.2
  by_cases c : rwL r ≤ k
  · simp only [bi_f (show ¬ (0 ≤ k ∧ k < rwL r) by omega)] at q
    rw [if_pos c]
    simp (disch := first | omega | (simp only [DT, DS, ne_eq, Nat.reduceEqDiff, not_false_eq_true]; done)) only [RX0_endsAhead, t, q, c_fail hC (f := 3) (s := k) (by decide) (wr_id (by omega) (by omega)), BW, wr_id, OM, OE, PL, ↓reduceIte, TGs, bi_T, bi_F, bi_ff, Nat.reduceLeDiff, Nat.reduceLT, Nat.reduceAdd]
  · simp only [bi_t (show 0 ≤ k ∧ k < rwL r by omega)] at q
    rw [if_neg c]
    simp (disch := first | omega | (simp only [DT, DS, ne_eq, Nat.reduceEqDiff, not_false_eq_true]; done)) only [RX0_endsAhead, t, q, BW, wr_id, OM, OE, PL, ↓reduceIte, TGs, bi_T, bi_F, bi_ff, Nat.reduceLeDiff, Nat.reduceLT, Nat.reduceAdd]
