/-! 63.mblw: the reference's block, whole; back -/
def mCg (M : xm) : Prop := mSt M ∧ inR M ∧ (∀ j, 0 ≤ mA M amCo j ∧ mA M amCo j ≤ 24) ∧ (∀ j, 0 ≤ mA M amKd j ∧ mA M amKd j ≤ 10) ∧ (∀ j, 0 ≤ mA M amRk j ∧ mA M amRk j ≤ 4) ∧ (∀ j, -1000 ≤ mA M amKn j ∧ mA M amKn j ≤ 1000) ∧ (∀ j, 0 ≤ mA M amTm j ∧ mA M amTm j ≤ 17)
/-- what a block leaves alone -/
def kG (M0 M : xm) : Prop := (∀ l j, ¬ l = amIn → ¬ l = amOr → ¬ l = amTr → ¬ (l = aM ∧ (j = 10 ∨ j = 11 ∨ j = 12 ∨ j = 15 ∨ j = 16 ∨ j = 17 ∨ j = 18 ∨ j = 19 ∨ j = 28)) → mA M l j = mA M0 l j) ∧ (∀ l j, ¬ l = amDb → ¬ l = amFr → mB M l j = mB M0 l j) ∧ mR M = mR M0 ∧ mC M = mC M0 ∧ (mK M = mK M0 ∧ mS M = mS M0) ∧ inR M
theorem kG.c {M0 M : xm} (h : kG M0 M) : cEq M0 M := fun j => by
  refine ⟨?_, ?_, ?_, ?_, ?_, ?_⟩ <;> exact h.1 _ _ (by decide) (by decide) (by decide) (fun q => absurd q.1 (by decide))
theorem kG.f {M0 M : xm} {n : Int} (h : kG M0 M) (hc : mCg M0) (e : mA M aM 19 = n) (hn : 1 ≤ n ∧ n ≤ 16) : mCf M n := by
  obtain ⟨c1, c2, c3, c4, c5, c6, c7⟩ := hc
  refine ⟨?_, h.2.2.2.2.2, fun j => ?_, fun j => ?_, fun j => ?_, fun j => ?_, fun j => ?_, e, hn⟩
  · unfold mSt at c1 ⊢
    rw [h.2.2.1]
    exact c1
  · rw [(h.c j).2.2.2.1]; exact c3 j
  · rw [(h.c j).1]; exact c4 j
  · rw [(h.c j).2.1]; exact c5 j
  · rw [(h.c j).2.2.1]; exact c6 j
  · rw [(h.c j).2.2.2.2.1]; exact c7 j
theorem kG.refl {M : xm} (h : inR M) : kG M M := ⟨fun _ _ _ _ _ _ => rfl, fun _ _ _ _ => rfl, rfl, rfl, ⟨rfl, rfl⟩, h⟩
theorem kG.w {M0 M : xm} (h : kG M0 M) {i : Nat} {x : Int} (hi : i = 10 ∨ i = 11 ∨ i = 12 ∨ i = 15 ∨ i = 16 ∨ i = 17 ∨ i = 18 ∨ i = 19 ∨ i = 28) (hx : wr x = x) : kG M0 (wA M aM i x) := by
  obtain ⟨a1, a2, a3, a4, a5, a6⟩ := h
  refine ⟨fun l j u v w z => ?_, a2, a3, a4, a5, a6.wA _ _ hx⟩
  rw [wA_o _ _ (fun q => z ⟨q.1, by rw [q.2]; exact hi⟩)]
  exact a1 l j u v w z
theorem kG.cp {M0 M : xm} (h : kG M0 M) (f t : Int) : kG M0 (cpSta M f t) := by
  obtain ⟨a1, a2, a3, a4, a5, a6⟩ := h
  refine ⟨fun l j u v w z => ?_, fun l j u v => ?_, a3, a4, a5, cpS_R a6 _ _⟩
  · rw [cpS_a, if_neg (fun q => u q.1)]
    exact a1 l j u v w z
  · rw [cpS_b, if_neg (fun q => u q.1)]
    exact a2 l j u v
theorem kG.o {M0 M M' : xm} (h : kG M0 M) (g : oG M M') : kG M0 M' := by
  obtain ⟨a1, a2, a3, a4, a5, a6⟩ := h
  obtain ⟨b1, b2, b3, b4, b5, b6⟩ := g
  exact ⟨fun l j u v w z => (b1 l j v).trans (a1 l j u v w z), fun l j u v => by rw [b2]; exact a2 l j u v, b3.trans a3, b4.trans a4, ⟨b5.1.trans a5.1, b5.2.trans a5.2⟩, b6⟩
theorem kG.b {M0 M M' : xm} (h : kG M0 M) (g : bG M M') : kG M0 M' := by
  obtain ⟨a1, a2, a3, a4, a5, a6⟩ := h
  obtain ⟨b1, b2, b3, b4, b5, b6⟩ := g
  exact ⟨fun l j u v w z => (b1 l j (fun q => u q.1) (fun q => z ⟨q.1, by omega⟩) w).trans (a1 l j u v w z), fun l j u v => (b2 l j (fun q => u q.1) v).trans (a2 l j u v), b3.trans a3, b4.trans a4, ⟨b5.1.trans a5.1, b5.2.trans a5.2⟩, b6⟩
theorem kG.t {M0 M M' : xm} (h : kG M0 M) (g : tG M M') : kG M0 M' := by
  obtain ⟨a1, a2, a3, a4, a5, a6⟩ := h
  obtain ⟨b1, b2, b3, b4, b5, b6⟩ := g
  exact ⟨fun l j u v w z => (b1 l j (fun q => z ⟨q.1, by omega⟩) w).trans (a1 l j u v w z), fun l j u v => by rw [b2]; exact a2 l j u v, b3.trans a3, b4.trans a4, ⟨b5.1.trans a5.1, b5.2.trans a5.2⟩, b6⟩
theorem kG.s {M0 M M' : xm} (h : kG M0 M) (g : sG M M') : kG M0 M' := by
  obtain ⟨a1, a2, a3, a4, a5, a6⟩ := h
  obtain ⟨b1, b2, b3, b4, b5, b6⟩ := g
  exact ⟨fun l j u v w z => (b1 l j (fun q => u q.1)).trans (a1 l j u v w z), fun l j u v => (b2 l j (fun q => u q.1)).trans (a2 l j u v), b3.trans a3, b4.trans a4, ⟨b5.1.trans a5.1, b5.2.trans a5.2⟩, b6⟩
theorem kG.fb {M0 M M' : xm} {k : Int} (h : kG M0 M) (g : fG M k M') : kG M0 M' := by
  obtain ⟨a1, a2, a3, a4, a5, a6⟩ := h
  obtain ⟨b1, b2, b3, b4, b5, b6, b7, b8⟩ := g
  exact ⟨fun l j u v w z => (b1 l j u).trans (a1 l j u v w z), fun l j u v => by rw [b4]; exact a2 l j u v, b5.trans a3, b6.trans a4, ⟨b7.1.trans a5.1, b7.2.trans a5.2⟩, b8⟩
theorem mSl_0 {M : xm} {A : Int → SS} : mSl M 0 A ↔ ∀ o, 0 ≤ o → o ≤ 23 → mS1 M o (A o) := by
  unfold mSl
  constructor
  · intro h o a b
    have g := h o a b
    rwa [show 24 * 0 + o = o by omega] at g
  · intro h o a b
    rw [show 24 * 0 + o = o by omega]
    exact h o a b
/-- the slots above the first stay -/
def hiE (M M' : xm) : Prop := (∀ j, 480 ≤ j → mA M' amIn j = mA M amIn j) ∧ ∀ j, 1968 ≤ j → mB M' amDb j = mB M amDb j
theorem mSl_hi {M M' : xm} {b : Int} {B : Int → SS} (h : mSl M b B) (hb : 1 ≤ b) (g : hiE M M') : mSl M' b B := fun o x y => mS1_c (h o x y) (by omega) (fun j c d => g.1 j (by omega)) (fun j c d => g.2 j (by omega))
theorem mSl_e {M M' : xm} {b : Int} {B : Int → SS} (h : mSl M b B) (hb : 0 ≤ b) (g : ∀ j, mA M' amIn j = mA M amIn j) (g2 : ∀ j, mB M' amDb j = mB M amDb j) : mSl M' b B := fun o x y => mS1_c (h o x y) (by omega) (fun j c d => g j) (fun j c d => g2 j)
theorem bG.hi {M M' : xm} (g : bG M M') : hiE M M' := ⟨fun j h => g.1 _ _ (fun q => by omega) (fun q => absurd q.1 (by decide)) (by decide), fun j h => g.2.1 _ _ (fun q => by omega) (by decide)⟩
theorem sG.hi {M M' : xm} (g : sG M M') : hiE M M' := ⟨fun j h => g.1 _ _ (fun q => by omega), fun j h => g.2.1 _ _ (fun q => by omega)⟩
theorem fG.hi {M M' : xm} {k : Int} (g : fG M k M') (hk : k ≤ 24) : hiE M M' := ⟨fun j h => g.2.1 _ (fun m a b c => by omega), fun j h => by rw [g.2.2.2.1]⟩
theorem tG.e {M M' : xm} (g : tG M M') : (∀ j, mA M' amIn j = mA M amIn j) ∧ ∀ j, mB M' amDb j = mB M amDb j := ⟨fun j => g.1 _ _ (fun q => absurd q.1 (by decide)) (by decide), fun j => by rw [g.2.1]⟩
theorem oG.e {M M' : xm} (g : oG M M') : (∀ j, mA M' amIn j = mA M amIn j) ∧ ∀ j, mB M' amDb j = mB M amDb j := ⟨fun j => g.1 _ _ (by decide), fun j => by rw [g.2.1]⟩
theorem bkF_c {C C' : Nat → Nat → Int} {n N : Int} {ord ord' : Nat → Int} (hC : ∀ A m, actF C' n A m = actF C n A m) (ho : ∀ i : Nat, (i : Int) < N → ord' i = ord i) : ∀ (d : Nat) (k : Int) (A : Int → SS), k + d = N → 0 ≤ k → bkF C' n ord' d k A = bkF C n ord d k A
  | 0, _, _, _, _ => rfl
  | d + 1, k, A, hd, h0 => by
    rw [bkF, bkF, hC, ho k.toNat (by omega)]
    cases actF C n A (ord k.toNat) with
    | inl x => rfl
    | inr s => exact bkF_c hC ho d (k + 1) _ (by omega) (by omega)
def setB (s : SS) (x : Int) : SS := (sR s, sP s, sK s, sO s, sU s, sN s, x, sF s)
def bfA (C : Nat → Nat → Int) (N : Int) (A : Int → SS) : Int → SS := fun o => if o < N then setB (A o) (C amKn (3 * o).toNat) else A o
theorem setB_ok {t x : Int} {s : SS} (h : okS t s) (hx : -1000 ≤ x ∧ x ≤ 1000) : okS t (setB s x) := by
  obtain ⟨g1, g2, g3, g4, g5, g6, g7⟩ := h
  exact ⟨g1, g2, g3, g4, g5, hx, g7⟩
theorem fb_s {M M' : xm} {N : Int} {A : Int → SS} (hN : 0 ≤ N ∧ N ≤ 24) (g : fG M N M') (h : ∀ o, 0 ≤ o → o ≤ 23 → mS1 M o (A o)) : ∀ o, 0 ≤ o → o ≤ 23 → mS1 M' o (bfA (mA M) N A o) := fun o a b => by
  obtain ⟨f1, f2, f3, f4, f5, f6, f7, f8⟩ := g
  have keep : ∀ j : Nat, ¬ (j : Int) % 20 = 18 → mA M' amIn j = mA M amIn j := fun j hj => f2 j (fun m c d e => by omega)
  unfold bfA
  by_cases e : o < N
  · rw [if_pos e]
    obtain ⟨b1, b2, b3, b4, b5, b6, b7, b8⟩ := h o a b
    have rr : ∀ r x, 0 ≤ r → r ≤ 4 → mRw M o r x → mRw M' o r x := fun r x r0 r1 hx => mRw_c hx (fun j c d => keep j (by rcases (show r = 0 ∨ r = 1 ∨ r = 2 ∨ r = 3 ∨ r = 4 by omega) with e | e | e | e | e <;> subst e <;> omega)) (fun j c d => by rw [f4]) ⟨a, r0⟩
    refine ⟨rr 0 _ (by omega) (by omega) b1, ?_, ?_, ?_, ?_, ?_, f3 o a e, fun j c d => rr j _ (by omega) d (b8 j c d)⟩
    · rw [keep _ (by omega)]; exact b2
    · rw [f4]; exact b3
    · rw [f4]; exact b4
    · rw [keep _ (by omega)]; exact b5
    · rw [keep _ (by omega)]; exact b6
  · rw [if_neg e]
    exact mS1_c (h o a b) a (fun j c d => f2 j (fun m x y z => by omega)) (fun j c d => by rw [f4])
theorem okF {C : Nat → Nat → Int} {t N : Int} {A : Int → SS} (hN : 0 ≤ N ∧ N ≤ 24) (hco : ∀ j, 0 ≤ C amCo j ∧ C amCo j ≤ 24) (hkn : ∀ j, -1000 ≤ C amKn j ∧ C amKn j ≤ 1000) (h : ∀ o, 0 ≤ o → o ≤ 23 → okS t (A o)) : ∀ o, 0 ≤ o → o ≤ 23 → okS t (bfA C N (fdA C N A) o) := fun o a b => by
  have g : okS t (fdA C N A o) := by
    unfold fdA
    split
    · refine fed_ok (h o a b) ?_
      unfold iRw
      have hc := hco (3 * o).toNat
      split
      · exact okO_n
      · exact (h _ (by omega) (by omega)).1
    · exact h o a b
  unfold bfA
  split
  · exact setB_ok g (hkn _)
  · exact g
def ofn (C : Nat → Nat → Int) (N : Int) : Nat → Int := fun i => (ordL C N).getD i 0
theorem s_block {M : xm} {n t N : Int} {A : Int → SS} {rk : Int → Nat} (hc : mCg M) (eN : mA M aM 3 = N) (hN : 0 ≤ N ∧ N ≤ 24) (hrk : noLp (mA M) N rk) (hz : ∀ m : Int, N ≤ m → m ≤ 23 → mA M amCo (3 * m).toNat = 0) (hA : mSl M 0 A) (hok : ∀ o, 0 ≤ o → o ≤ 23 → okS t (A o)) (ht : t ≤ 49900) (hn : 1 ≤ n ∧ n ≤ 16) (hp : 0 ≤ mA M aM 11 ∧ mA M aM 11 ≤ 100000) (hb : 0 ≤ mA M aM 12 ∧ mA M aM 12 ≤ 8) (hd : 0 ≤ mA M aM 10 ∧ mA M aM 10 ≤ 100000) (Q : Option xv → xm → Prop)
    (hf : ∀ f m j c M', bkF (mA M) n (ofn (mA M) N) N.toNat 0 A = .inl (f, m, j, c) → kG M M' → (1 ≤ c ∧ c ≤ N) → mA M' aM 15 = 2 * c → (∀ i : Nat, (i : Int) < 2 * c → mA M' amTr i = trF (ofn (mA M) N) c i) → mA M' aM 16 = f → mA M' aM 17 = m → mA M' aM 18 = j → mA M' aM 10 = mA M aM 10 → mA M' aM 11 = mA M aM 11 → mA M' aM 12 = mA M aM 12 → mSl M' 0 A → (∀ b B, 1 ≤ b → b ≤ 8 → mSl M b B → mSl M' b B) → Q (some (vI f)) M')
    (hg : ∀ A' M', bkF (mA M) n (ofn (mA M) N) N.toNat 0 A = .inr A' → kG M M' → mA M' aM 15 = 2 * N → (∀ i : Nat, (i : Int) < 2 * N → mA M' amTr i = trF (ofn (mA M) N) N i) → mA M' aM 16 = 0 → mA M' aM 10 = mA M aM 10 + 1 → mA M' aM 11 = mA M aM 11 + 1 → mA M' aM 12 = (if mA M aM 12 < 8 then mA M aM 12 + 1 else mA M aM 12) → mSl M' 0 (bfA (mA M) N (fdA (mA M) N A')) → (∀ o, 0 ≤ o → o ≤ 23 → okS (t + N) (bfA (mA M) N (fdA (mA M) N A') o)) → mSl M' (1 + mA M aM 11 % 8) A → (∀ b B, 1 ≤ b → b ≤ 8 → ¬ b = 1 + mA M aM 11 % 8 → mSl M b B → mSl M' b B) → Q (some (vI 0)) M') :
    Wp qX10_block 0 [vR aM, vI n, vX, vX] [] M Q := by
  obtain ⟨hs, hR, hco, hkd, hrk2, hkn, htm⟩ := id hc
  have hR' : ∀ L k, wr (mA M L k) = mA M L k := hR
  have k1 : kG M (wA (wA (wA M aM 19 n) aM 16 0) aM 15 0) := (((kG.refl hR).w (by omega) (wr_id (by omega) (by omega))).w (by omega) (by decide)).w (by omega) (by decide)
  have s1 : mSt (wA (wA (wA M aM 19 n) aM 16 0) aM 15 0) := hs
  have qc := s_copyState 0 9 (wA (wA (wA M aM 19 n) aM 16 0) aM 15 0) s1 k1.2.2.2.2.2 (by omega) (by omega) (by omega)
  have k2 := k1.cp 0 9
  have e16 : mA (cpSta (wA (wA (wA M aM 19 n) aM 16 0) aM 15 0) 0 9) aM 16 = 0 := by
    rw [cpS_a, if_neg (fun q => absurd q.1 (by decide)), wA_o _ _ (by decide), wA_e]
  have e15 : mA (cpSta (wA (wA (wA M aM 19 n) aM 16 0) aM 15 0) 0 9) aM 15 = 0 := by
    rw [cpS_a, if_neg (fun q => absurd q.1 (by decide)), wA_e]
  have e19 : mA (cpSta (wA (wA (wA M aM 19 n) aM 16 0) aM 15 0) 0 9) aM 19 = n := by
    rw [cpS_a, if_neg (fun q => absurd q.1 (by decide)), wA_o _ _ (by decide), wA_o _ _ (by decide), wA_e]
  have eo : ∀ j, ¬ (j = 15 ∨ j = 16 ∨ j = 19) → mA (cpSta (wA (wA (wA M aM 19 n) aM 16 0) aM 15 0) 0 9) aM j = mA M aM j := fun j hj => by
    rw [cpS_a, if_neg (fun q => absurd q.1 (by decide)), wA_o _ _ (fun q => hj (by omega)), wA_o _ _ (fun q => hj (by omega)), wA_o _ _ (fun q => hj (by omega))]
  have A1 : mSl (wA (wA (wA M aM 19 n) aM 16 0) aM 15 0) 0 A := mSl_e hA (by omega) (fun j => by rw [wA_o _ _ (fun q => absurd q.1 (by decide)), wA_o _ _ (fun q => absurd q.1 (by decide)), wA_o _ _ (fun q => absurd q.1 (by decide))]) (fun j => rfl)
  have A2 := cpS_to (t := 9) A1 (by omega) (by omega)
  have A2' := cpS_o (f := 0) (t := 9) A1 (by omega) (by omega) (by omega)
  have B2 : ∀ b B, 1 ≤ b → b ≤ 8 → mSl M b B → mSl (cpSta (wA (wA (wA M aM 19 n) aM 16 0) aM 15 0) 0 9) b B := fun b B x y hB => cpS_o (mSl_e hB (by omega) (fun j => by rw [wA_o _ _ (fun q => absurd q.1 (by decide)), wA_o _ _ (fun q => absurd q.1 (by decide)), wA_o _ _ (fun q => absurd q.1 (by decide))]) (fun j => rfl)) (by omega) (by omega) (by omega)
  generalize hM1 : wA (wA (wA M aM 19 n) aM 16 0) aM 15 0 = M1 at *
  generalize hM2 : cpSta M1 0 9 = M2 at *
  have c2 := k2.f hc e19 hn
  simp (disch := first | omega | (simp only [DT, DS, ne_eq, Nat.reduceEqDiff, not_false_eq_true]; done)) only [RX10_block, BW, wr_id, OM, OE, PL, ↓reduceIte, mSt.e hs, hR', TGs, s_isIn, bi_T, and_self, hM1, qc, Nat.reduceLeDiff, Nat.reduceAdd]
  refine s_setOrder c2.1 c2.2.1 (N := N) (by rw [eo 3 (by decide)]; exact eN) hN c2.2.2.1 _ (fun M3 o3 L3 => ?_)
  have k3 := k2.o o3
  have eL : ordL (mA M2) N = ordL (mA M) N := ordL_c (fun j => (k2.c j).2.2.2.1) (fun j => (k2.c j).1) N
  rw [eL] at L3
  have hll := ordL_ok hrk hN.1
  have eor : ∀ i : Nat, (i : Int) < N → mA M3 amOr i = ofn (mA M) N i := fun i hi => L3 i (by omega)
  have m3 : ∀ j, mA M3 aM j = mA M2 aM j := fun j => o3.1 _ _ (by decide)
  have c3 := k3.f hc (by rw [m3]; exact e19) hn
  have bke : bkF (mA M3) n (mA M3 amOr) N.toNat 0 A = bkF (mA M) n (ofn (mA M) N) N.toNat 0 A := bkF_c (fun A m => actF_c k3.c n A m) eor N.toNat 0 A (by omega) (by omega)
  have A3 : ∀ o, 0 ≤ o → o ≤ 23 → mS1 M3 o (A o) := mSl_0.mp (mSl_e A2' (by omega) o3.e.1 o3.e.2)
  have A39 := mSl_e A2 (by omega) o3.e.1 o3.e.2
  have B3 : ∀ b B, 1 ≤ b → b ≤ 8 → mSl M b B → mSl M3 b B := fun b B x y hB => mSl_e (B2 b B x y hB) (by omega) o3.e.1 o3.e.2
  have hor : ∀ i : Nat, (i : Int) < N → 0 ≤ mA M3 amOr i ∧ mA M3 amOr i ≤ 23 := fun i hi => by
    rw [eor i hi]
    have := ordL_at hrk hN.1 i hi
    unfold ofn
    omega
  have bG0 : bG M3 M3 := ⟨fun _ _ _ _ _ => rfl, fun _ _ _ _ => rfl, rfl, rfl, ⟨rfl, rfl⟩, c3.2.1⟩
  simp (disch := omega) only [RX10_block, BW, wr_id]
  refine l_block1 (M0 := M3) (n := n) (t := t) (N := N) (A0 := A) c3 (by rw [m3, eo 3 (by decide)]; exact eN) hN hor (fun m a b h6 => ?_) ht Q (fun f m j c M4 he b4 hc4 f15 ftr f16 f17 f18 => ?_) (fun A' M4 he b4 f16 f15 ftr ha4 => ?_) N.toNat 0 A M3 (by omega) (by omega) bG0 rfl (by rw [m3]; exact e15) (fun i hi => by omega) (fun o a b => ⟨A3 o a b, by rw [show t + 0 = t by omega]; exact hok o a b⟩) rfl
  · rw [(k3.c _).2.2.2.1]
    rw [(k3.c _).1] at h6
    by_cases e : m < N
    · exact noLp_self hrk m a e h6
    · rw [hz m (by omega) b]
      omega
  · rw [bke] at he
    have k4 := k3.b b4
    have s4 : mSt M4 := (k4.f hc (by rw [b4.m (by decide), m3]; exact e19) hn).1
    refine l_block2 (M0 := M4) (c := c) (g := 0) (ord := ofn (mA M) N) s4 (by omega) (fun i hi => by have := hor i (by omega); rw [eor i (by omega)] at this; exact this) Q (fun M5 t5 g15 gtr => ?_) (c - 1 + 1).toNat (c - 1) M4 (by omega) (by omega) (tG.refl b4.2.2.2.2.2) (by omega) (fun i hi => ?_)
    · have k5 := k4.t t5
      have s5 : mSt M5 := (k5.f hc (by rw [t5.1 _ _ (by decide) (by decide), b4.m (by decide), m3]; exact e19) hn).1
      have hR5 : ∀ L k, wr (mA M5 L k) = mA M5 L k := k5.2.2.2.2.2
      have q5 := s_copyState 9 0 M5 s5 k5.2.2.2.2.2 (by omega) (by omega) (by omega)
      have m6 : ∀ j, mA (cpSta M5 9 0) aM j = mA M5 aM j := fun j => by rw [cpS_a, if_neg (fun q => absurd q.1 (by decide))]
      have tr6 : ∀ j, mA (cpSta M5 9 0) amTr j = mA M5 amTr j := fun j => by rw [cpS_a, if_neg (fun q => absurd q.1 (by decide))]
      have m5 : ∀ j, ¬ j = 15 → mA M5 aM j = mA M4 aM j := fun j hj => t5.1 _ _ (fun q => hj q.2) (by decide)
      have A5 : mSl M5 9 A := mSl_e (mSl_hi A39 (by omega) b4.hi) (by omega) t5.e.1 t5.e.2
      have fin := hf f m j c (cpSta M5 9 0) he (k5.cp 9 0) hc4 (by rw [m6]; exact g15) (fun i hi => by rw [tr6]; exact gtr i hi) (by rw [m6, m5 _ (by decide)]; exact f16) (by rw [m6, m5 _ (by decide)]; exact f17) (by rw [m6, m5 _ (by decide)]; exact f18) (by rw [m6, m5 _ (by decide), b4.m (by decide), m3, eo _ (by decide)]) (by rw [m6, m5 _ (by decide), b4.m (by decide), m3, eo _ (by decide)]) (by rw [m6, m5 _ (by decide), b4.m (by decide), m3, eo _ (by decide)]) (cpS_to A5 (by omega) (by omega)) (fun b B x y hB => cpS_o (mSl_e (mSl_hi (B3 b B x y hB) x b4.hi) (by omega) t5.e.1 t5.e.2) (by omega) (by omega) (by omega))
      have h16 : mA M5 aM 16 = f := by rw [m5 _ (by decide)]; exact f16
      simp (disch := first | omega | (simp only [DT, DS, ne_eq, Nat.reduceEqDiff, not_false_eq_true]; done)) only [RX10_block, BW, wr_id, OM, OE, PL, ↓reduceIte, mSt.e s5, hR5, TGs, q5, m6, h16, Nat.reduceLeDiff, Nat.reduceAdd]
      exact fin
    · unfold trF
      rw [if_pos (by omega), ftr i (by omega), eor i (by omega)]
  · rw [bke] at he
    have k4 := k3.b b4
    have s4 : mSt M4 := (k4.f hc (by rw [b4.m (by decide), m3]; exact e19) hn).1
    refine l_block2 (M0 := M4) (c := N) (g := 1) (ord := ofn (mA M) N) s4 (by omega) (fun i hi => by have := hor i (by omega); rw [eor i (by omega)] at this; exact this) Q (fun M5 t5 g15 gtr => ?_) (N - 1 + 1).toNat (N - 1) M4 (by omega) (by omega) (tG.refl b4.2.2.2.2.2) (by omega) (fun i hi => ?_)
    · have k5 := k4.t t5
      have c5 := k5.f hc (by rw [t5.1 _ _ (by decide) (by decide), b4.m (by decide), m3]; exact e19) hn
      have hR5 : ∀ L k, wr (mA M5 L k) = mA M5 L k := k5.2.2.2.2.2
      have m5 : ∀ j, ¬ j = 15 → mA M5 aM j = mA M4 aM j := fun j hj => t5.1 _ _ (fun q => hj q.2) (by decide)
      have e53 : mA M5 aM 3 = N := by rw [m5 _ (by decide), b4.m (by decide), m3, eo _ (by decide)]; exact eN
      have A50 : ∀ o, 0 ≤ o → o ≤ 23 → mS1 M5 o (fdA (mA M5) 0 A' o) := fun o a b => by
        have e : fdA (mA M5) 0 A' o = A' o := by unfold fdA; rw [if_neg (by omega)]
        rw [e]
        exact mS1_c (ha4 o a b).1 a (fun j _ _ => t5.e.1 j) (fun j _ _ => t5.e.2 j)
      have A59 : mSl M5 9 A := mSl_e (mSl_hi A39 (by omega) b4.hi) (by omega) t5.e.1 t5.e.2
      have B5 : ∀ b B, 1 ≤ b → b ≤ 8 → mSl M b B → mSl M5 b B := fun b B x y hB => mSl_e (mSl_hi (B3 b B x y hB) x b4.hi) (by omega) t5.e.1 t5.e.2
      simp (disch := first | omega | (simp only [DT, DS, ne_eq, Nat.reduceEqDiff, not_false_eq_true]; done)) only [RX10_block, RX10_feed, BW, wr_id, OM, OE, PL, ↓reduceIte, TGs, Nat.reduceLeDiff, Nat.reduceAdd]
      refine l_feed (M0 := M5) (N := N) (A := A') c5.1 e53 hN c5.2.2.1 _ (fun M6 s6 a6 => ?_) N.toNat 0 M5 vX (by omega) (by omega) ⟨fun _ _ _ => rfl, fun _ _ _ => rfl, rfl, rfl, ⟨rfl, rfl⟩, c5.2.1⟩ A50
      have k6 := k5.s s6
      have m6 : ∀ j, mA M6 aM j = mA M5 aM j := fun j => s6.1 _ _ (fun q => absurd q.1 (by decide))
      have s6s : mSt M6 := (k6.f hc (by rw [m6, m5 _ (by decide), b4.m (by decide), m3]; exact e19) hn).1
      simp (disch := omega) only [RX10_block, BW, wr_id]
      refine l_block3 (M0 := M6) (N := N) s6s (by rw [m6]; exact e53) hN Q (fun M7 f7 => ?_) N.toNat 0 M6 (by omega) (by omega) ⟨fun _ _ _ => rfl, fun _ _ => rfl, fun m a b => by omega, rfl, rfl, rfl, ⟨rfl, rfl⟩, k6.2.2.2.2.2⟩
      have k7 := k6.fb f7
      have m7 : ∀ j, mA M7 aM j = mA M6 aM j := fun j => f7.1 _ _ (by decide)
      have s7 : mSt M7 := (k7.f hc (by rw [m7, m6, m5 _ (by decide), b4.m (by decide), m3]; exact e19) hn).1
      have hR7 : ∀ L k, wr (mA M7 L k) = mA M7 L k := k7.2.2.2.2.2
      have A7 := fb_s hN f7 a6
      have ebf : bfA (mA M6) N (fdA (mA M5) N A') = bfA (mA M) N (fdA (mA M) N A') := by
        funext o
        unfold bfA
        rw [(k6.c _).2.2.1]
        have e : fdA (mA M5) N A' o = fdA (mA M) N A' o := by
          unfold fdA
          rw [(k5.c _).1, (k5.c _).2.2.2.1]
        rw [e]
      rw [ebf] at A7
      have A79 : mSl M7 9 A := mSl_hi (mSl_hi A59 (by omega) s6.hi) (by omega) (f7.hi hN.2)
      have B7 : ∀ b B, 1 ≤ b → b ≤ 8 → mSl M b B → mSl M7 b B := fun b B x y hB => mSl_hi (mSl_hi (B5 b B x y hB) x s6.hi) x (f7.hi hN.2)
      have g7 : ∀ j, ¬ (j = 15 ∨ j = 16 ∨ j = 19 ∨ j = 17 ∨ j = 18 ∨ j = 28) → mA M7 aM j = mA M aM j := fun j hj => by rw [m7, m6, m5 _ (by omega), b4.m (by omega), m3, eo _ (by omega)]
      have p7 : mA M7 aM 11 = mA M aM 11 := g7 11 (by decide)
      have hpm : (mA M aM 11).tmod 8 = mA M aM 11 % 8 := Int.tmod_eq_emod_of_nonneg hp.1
      have hp8 : 0 ≤ mA M aM 11 % 8 ∧ mA M aM 11 % 8 < 8 := by omega
      have q7 := s_copyState 9 (1 + mA M aM 11 % 8) M7 s7 k7.2.2.2.2.2 (by omega) (by omega) (by omega)
      have k8 := k7.cp 9 (1 + mA M aM 11 % 8)
      have m8 : ∀ j, mA (cpSta M7 9 (1 + mA M aM 11 % 8)) aM j = mA M7 aM j := fun j => by rw [cpS_a, if_neg (fun q => absurd q.1 (by decide))]
      have tr8 : ∀ j, mA (cpSta M7 9 (1 + mA M aM 11 % 8)) amTr j = mA M5 amTr j := fun j => by rw [cpS_a, if_neg (fun q => absurd q.1 (by decide)), f7.1 _ _ (by decide), s6.1 _ _ (fun q => absurd q.1 (by decide))]
      have i16 : mA M7 aM 16 = 0 := by rw [m7, m6, m5 _ (by decide), f16, m3]; exact e16
      have d7 : mA M7 aM 10 = mA M aM 10 := g7 10 (by decide)
      have b7 : mA M7 aM 12 = mA M aM 12 := g7 12 (by decide)
      have i15 : mA M7 aM 15 = 2 * N := by rw [m7, m6]; exact g15
      have A80 := cpS_o (f := 9) (t := 1 + mA M aM 11 % 8) (mSl_0.mpr A7) (by omega) (by omega) (by omega)
      have A8p := cpS_to (t := 1 + mA M aM 11 % 8) A79 (by omega) (by omega)
      have B8 : ∀ b B, 1 ≤ b → b ≤ 8 → ¬ b = 1 + mA M aM 11 % 8 → mSl M b B → mSl (cpSta M7 9 (1 + mA M aM 11 % 8)) b B := fun b B x y z hB => cpS_o (B7 b B x y hB) (by omega) (by omega) z
      have s8 : mSt (cpSta M7 9 (1 + mA M aM 11 % 8)) := s7
      generalize hM8 : cpSta M7 9 (1 + mA M aM 11 % 8) = M8 at *
      have hR8 : ∀ L k, wr (mA M8 L k) = mA M8 L k := k8.2.2.2.2.2
      have p8 : mA M8 aM 11 = mA M aM 11 := by rw [m8]; exact p7
      have d8 : mA M8 aM 10 = mA M aM 10 := by rw [m8]; exact d7
      have b8 : mA M8 aM 12 = mA M aM 12 := by rw [m8]; exact b7
      have fin : ∀ y : Int, y = (if mA M aM 12 < 8 then mA M aM 12 + 1 else mA M aM 12) → wr y = y → Q (some (vI 0)) (wA (wA (wA M8 aM 11 (mA M aM 11 + 1)) aM 12 y) aM 10 (mA M aM 10 + 1)) := fun y ey wy => by
        have i1 : ∀ j, mA (wA (wA (wA M8 aM 11 (mA M aM 11 + 1)) aM 12 y) aM 10 (mA M aM 10 + 1)) amIn j = mA M8 amIn j := fun j => by rw [wA_o _ _ (fun q => absurd q.1 (by decide)), wA_o _ _ (fun q => absurd q.1 (by decide)), wA_o _ _ (fun q => absurd q.1 (by decide))]
        refine hg A' _ he (((k8.w (by omega) (wr_id (by omega) (by omega))).w (by omega) wy).w (by omega) (wr_id (by omega) (by omega))) ?_ (fun i hi => ?_) ?_ ?_ ?_ ?_ (mSl_e A80 (by omega) i1 (fun j => rfl)) ?_ (mSl_e A8p (by omega) i1 (fun j => rfl)) (fun b B x y z hB => mSl_e (B8 b B x y z hB) (by omega) i1 (fun j => rfl))
        · rw [wA_o _ _ (by decide), wA_o _ _ (by decide), wA_o _ _ (by decide), m8]; exact i15
        · rw [wA_o _ _ (fun q => absurd q.1 (by decide)), wA_o _ _ (fun q => absurd q.1 (by decide)), wA_o _ _ (fun q => absurd q.1 (by decide)), tr8]; exact gtr i hi
        · rw [wA_o _ _ (by decide), wA_o _ _ (by decide), wA_o _ _ (by decide), m8]; exact i16
        · exact wA_e _ _ _ _
        · rw [wA_o _ _ (by decide), wA_o _ _ (by decide), wA_e]
        · rw [wA_o _ _ (by decide), wA_e]; exact ey
        · exact okF hN hco hkn (fun o a b => (ha4 o a b).2)
      by_cases cb : mA M aM 12 < 8
      · have g := fin (mA M aM 12 + 1) (by rw [if_pos cb]) (wr_id (by omega) (by omega))
        simp (disch := first | omega | (simp only [DT, DS, ne_eq, Nat.reduceEqDiff, not_false_eq_true]; done)) only [RX10_block, BW, wr_id, OM, OE, PL, ↓reduceIte, mSt.e s7, mSt.e s8, hR7, hR8, TGs, p7, hpm, q7, MM, DT, p8, b8, d8, Nat.reduceEqDiff, Nat.reduceLeDiff, Nat.reduceAdd]
        exact g
      · have g := fin (mA M aM 12 + 0) (by rw [if_neg cb]; omega) (wr_id (by omega) (by omega))
        simp (disch := first | omega | (simp only [DT, DS, ne_eq, Nat.reduceEqDiff, not_false_eq_true]; done)) only [RX10_block, BW, wr_id, OM, OE, PL, ↓reduceIte, mSt.e s7, mSt.e s8, hR7, hR8, TGs, p7, hpm, q7, MM, DT, p8, b8, d8, Nat.reduceEqDiff, Nat.reduceLeDiff, Nat.reduceAdd]
        exact g
    · unfold trF
      rw [if_pos (by omega), ftr i (by omega), eor i (by omega)]
theorem s_blockx {M : xm} (n : Int) (hn : ¬ (1 ≤ n ∧ n ≤ 16)) (hw : -2147483648 ≤ n ∧ n ≤ 2147483647) (Q : Option xv → xm → Prop) (h : Q (some (vI (-1))) M) : Wp qX10_block 0 [vR aM, vI n, vX, vX] [] M Q := by
  simp (disch := first | omega | (simp only [DT, DS, ne_eq, Nat.reduceEqDiff, not_false_eq_true]; done)) only [RX10_block, BW, wr_id, OM, OE, PL, ↓reduceIte, TGs, s_isIn, bi_f hn, Nat.reduceLeDiff, Nat.reduceAdd]
  exact h
theorem s_back {M : xm} (n : Int) (hs : mSt M) (hR : inR M) (hw : -2147483648 ≤ n ∧ n ≤ 2147483647) (hp : 0 ≤ mA M aM 11 ∧ mA M aM 11 ≤ 100000) (hb : 0 ≤ mA M aM 12 ∧ mA M aM 12 ≤ 8) (hbp : mA M aM 12 ≤ mA M aM 11) (hd : 0 ≤ mA M aM 10 ∧ mA M aM 10 ≤ 100000) (Q : Option xv → xm → Prop)
    (h : Q (some (vI (if (1 ≤ n ∧ n ≤ 8) ∧ n ≤ mA M aM 12 then mA M aM 12 - n else -1))) (if (1 ≤ n ∧ n ≤ 8) ∧ n ≤ mA M aM 12 then cpSta (wA (wA (wA M aM 11 (mA M aM 11 - n)) aM 12 (mA M aM 12 - n)) aM 10 (mA M aM 10 - n)) (1 + (mA M aM 11 - n) % 8) 0 else M)) : Wp qX10_back 0 [vR aM, vI n] [] M Q := by
  have hR' : ∀ L k, wr (mA M L k) = mA M L k := hR
  by_cases c1 : 1 ≤ n ∧ n ≤ 8
  · by_cases c2 : n ≤ mA M aM 12
    · rw [if_pos ⟨c1, c2⟩, if_pos ⟨c1, c2⟩] at h
      have hpm : (mA M aM 11 - n).tmod 8 = (mA M aM 11 - n) % 8 := Int.tmod_eq_emod_of_nonneg (by omega)
      have s1 : mSt (wA (wA (wA M aM 11 (mA M aM 11 - n)) aM 12 (mA M aM 12 - n)) aM 10 (mA M aM 10 - n)) := hs
      have R1 : inR (wA (wA (wA M aM 11 (mA M aM 11 - n)) aM 12 (mA M aM 12 - n)) aM 10 (mA M aM 10 - n)) := ((hR.wA _ _ (wr_id (by omega) (by omega))).wA _ _ (wr_id (by omega) (by omega))).wA _ _ (wr_id (by omega) (by omega))
      have q := s_copyState (1 + (mA M aM 11 - n) % 8) 0 _ s1 R1 (by omega) (by omega) (by omega)
      have e12 : mA (cpSta (wA (wA (wA M aM 11 (mA M aM 11 - n)) aM 12 (mA M aM 12 - n)) aM 10 (mA M aM 10 - n)) (1 + (mA M aM 11 - n) % 8) 0) aM 12 = mA M aM 12 - n := by
        rw [cpS_a, if_neg (fun q => absurd q.1 (by decide)), wA_o _ _ (by decide), wA_e]
      have e11 : mA (wA (wA (wA M aM 11 (mA M aM 11 - n)) aM 12 (mA M aM 12 - n)) aM 10 (mA M aM 10 - n)) aM 11 = mA M aM 11 - n := by
        rw [wA_o _ _ (by decide), wA_o _ _ (by decide), wA_e]
      have f12 : mA (wA M aM 11 (mA M aM 11 - n)) aM 12 = mA M aM 12 := wA_o _ _ (by decide)
      have f10 : mA (wA (wA M aM 11 (mA M aM 11 - n)) aM 12 (mA M aM 12 - n)) aM 10 = mA M aM 10 := by rw [wA_o _ _ (by decide), wA_o _ _ (by decide)]
      simp (disch := first | omega | (simp only [DT, DS, ne_eq, Nat.reduceEqDiff, not_false_eq_true]; done)) only [RX10_back, BW, wr_id, OM, OE, PL, ↓reduceIte, hR', TGs, s_isIn, bi_t c1, bi_T, f12, f10, e11, hpm, q, e12, Nat.reduceLeDiff, Nat.reduceAdd]
      exact h
    · rw [if_neg (fun q => c2 q.2), if_neg (fun q => c2 q.2)] at h
      simp (disch := first | omega | (simp only [DT, DS, ne_eq, Nat.reduceEqDiff, not_false_eq_true]; done)) only [RX10_back, BW, wr_id, OM, OE, PL, ↓reduceIte, hR', TGs, s_isIn, bi_t c1, bi_T, Nat.reduceLeDiff, Nat.reduceAdd]
      exact h
  · rw [if_neg (fun q => c1 q.1), if_neg (fun q => c1 q.1)] at h
    simp (disch := first | omega | (simp only [DT, DS, ne_eq, Nat.reduceEqDiff, not_false_eq_true]; done)) only [RX10_back, BW, wr_id, OM, OE, PL, ↓reduceIte, hR', TGs, s_isIn, bi_f c1, Nat.reduceLeDiff, Nat.reduceAdd]
    exact h
