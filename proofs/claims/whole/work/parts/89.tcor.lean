/-! 89.tcor: both answer alike: cord -/
theorem wyF_c {C C' : Nat → Nat → Int} (h : ∀ j, C' amCo j = C amCo j) (h2 : ∀ j, C' amKd j = C amKd j) (N o : Int) : ∀ (d : Nat) (n : Int) (f : Int → Int), wyF C' N o d n f = wyF C N o d n f
  | 0, _, _ => rfl
  | d + 1, n, f => by
    have e : ldB C' = ldB C := by
      funext a b
      unfold ldB
      rw [h, h, h]
    have e2 : lvP C' n f N.toNat = lvP C n f N.toNat := by
      funext b
      unfold lvP
      rw [h2, e]
    unfold wyF
    rw [e2, wyF_c h h2 N o d]
theorem cdF_c {C C' : Nat → Nat → Int} (h : ∀ j, C' amCo j = C amCo j) (h2 : ∀ j, C' amKd j = C amKd j) (N o m i : Int) : cdF C' N o m i = cdF C N o m i := by
  unfold cdF
  rw [h2, h2, wyF_c h h2]
theorem noLp_c {C C' : Nat → Nat → Int} (h : ∀ j, C' amCo j = C amCo j) (h2 : ∀ j, C' amKd j = C amKd j) {N : Int} {rk : Int → Nat} (g : noLp C N rk) : noLp C' N rk := fun m i a b x y => by
  rw [h, h2, h2]
  exact g m i a b x y
/-- where the ins lie -/
def isIn (l : Nat) : Prop := l % 274877906944 = 83871400160 ∨ l % 274877906944 = 83871400096
theorem isIn.t {l : Nat} (h : isIn l) : tg l = 32 := by
  unfold isIn at h
  unfold tg
  omega
theorem cU.n {M : xm} {m : Int} (h : cU M m) : isIn (mR M (uA m.toNat) 5) := by
  have g := h.2.2.1
  split at g
  · exact Or.inl g
  · exact Or.inr g
theorem isIn_ne {l b : Nat} (h : isIn l) (hb : ¬ isIn b) : ¬ l = b := fun q => hb (by rw [← q]; exact h)
theorem cS.u {M : xm} {N : Int} (h : cS M N) : uC M (mA M) N ∧ uI M N := by
  obtain ⟨p, ⟨s1, s2, s3, s4, s5, s6, s7⟩, ⟨n1, n2, n3⟩, u, z, cc⟩ := h
  refine ⟨⟨⟨(cP.e p).2.2.2.2.2.2.1, (cP.e p).2.2.2.2.2.2.2.1, (cP.e p).2.2.2.2.2.2.2.2.1, (cP.e p).2.2.2.2.2.2.2.2.2.1⟩, ⟨n1, n3⟩, s2, fun m a b => ⟨⟨(u m a b).1.1, (u m a b).i⟩, (u m a b).2.2.2.1.2.1, (u m a b).2.2.2.2.2⟩, z, fun m i a b x y => ⟨(s3 _).1, cc m i a b x y⟩, s4⟩, fun m a b => ?_⟩
  have g := (u m a b).n
  exact ⟨isIn_ne g (by unfold isIn; decide), isIn_ne g (by unfold isIn; decide)⟩
section CO
variable {M M' : xm} {N c : Int}
theorem d_hasIn {C : Nat → Nat → Int} {m : Int} (h : uC M C N) (hm : 0 ≤ m ∧ m < N) {i : Int} (hi : 0 ≤ i ∧ i < nin (C amKd m.toNat)) (Q : Option xv → xm → Prop) : Wp qX8_hasIn 0 [vR (uA m.toNat), vI i] [] M Q ↔ Q (some (vI 1)) M := by
  have h1 := (h.2.2.2.1 m hm.1 hm.2).1
  have hz := tg_ne h1.2.1 (by decide)
  have hb := nin_b (C amKd m.toNat)
  simp (disch := first | omega | (simp only [DT, DS, ne_eq, Nat.reduceEqDiff, not_false_eq_true]; done)) only [RX8_hasIn, TGf, h1.2.1, h1.2.2, hz, BW, wr_id, OM, OE, PL, ↓reduceIte, TGs, bi_T, bi_F, bi_ff, Nat.reduceLeDiff, Nat.reduceLT, Nat.reduceAdd]
/-- a cord more, or another -/
def coF (C : Nat → Nat → Int) (k : Nat) (x : Int) (l j : Nat) : Int := if l = amCo ∧ j = k then x else C l j
theorem coF_k (C : Nat → Nat → Int) (k : Nat) (x : Int) (j : Nat) : coF C k x amKd j = C amKd j := by
  unfold coF
  rw [if_neg (fun q => absurd q.1 (by decide))]
theorem coF_c (C : Nat → Nat → Int) (x m i : Int) (hm : 0 ≤ m) (hi : 0 ≤ i ∧ i ≤ 2) : ∀ a b : Int, 0 ≤ a → 0 ≤ b → b ≤ 2 → coF C (3 * m + i).toNat x amCo (3 * a + b).toNat = if a = m ∧ b = i then x else C amCo (3 * a + b).toNat := fun a b a0 b0 b2 => by
  unfold coF
  by_cases e : a = m ∧ b = i
  · rw [if_pos ⟨rfl, by rw [e.1, e.2]⟩, if_pos e]
  · rw [if_neg (fun q => e (by have := q.2; omega)), if_neg e]
theorem uC_co {C : Nat → Nat → Int} {m i o : Int} (h : uC M C N) (hI : uI M N) (hj : ∀ m m' : Int, 0 ≤ m → m < N → 0 ≤ m' → m' < N → mR M (uA m.toNat) 5 = mR M (uA m'.toNat) 5 → m = m') (hm : 0 ≤ m ∧ m < N) (hi : 0 ≤ i ∧ i < nin (C amKd m.toNat)) (ho : -1 ≤ o ∧ o < N) : uC (wA M (mR M (uA m.toNat) 5) i.toNat o) (coF C (3 * m + i).toNat (o + 1)) N ∧ uI (wA M (mR M (uA m.toNat) 5) i.toNat o) N := by
  obtain ⟨g1, g2, g3, g4, g5, g6, g7⟩ := h
  have hb := nin_b (C amKd m.toNat)
  have ck := coF_k C (3 * m + i).toNat (o + 1)
  have cc := coF_c C (o + 1) m i hm.1 (by omega)
  have t5 := (g4 m hm.1 hm.2).1.2.1
  have ne : ∀ b j, ¬ tg b = 32 → mA (wA M (mR M (uA m.toNat) 5) i.toNat o) b j = mA M b j := fun b j t => wA_o _ _ (fun q => t (by rw [q.1]; exact t5))
  refine ⟨⟨g1, by rw [ne _ _ (by decide)]; exact g2, g3.wA _ _ (wr_id (by omega) (by omega)), fun a a0 a1 => ?_, fun a a0 a1 k5 => ?_, fun a b a0 a1 b0 b1 => ?_, fun j => by rw [ck]; exact g7 j⟩, hI⟩
  · obtain ⟨u1, u2, u3⟩ := g4 a a0 a1
    refine ⟨by rw [ck]; exact u1, by rw [ck, ne _ _ (by rw [TGf.1]; decide)]; exact u2, fun b b0 b1 => ?_⟩
    rw [ck] at b1
    have hb2 := nin_b (C amKd a.toNat)
    show mA (wA M (mR M (uA m.toNat) 5) i.toNat o) (mR M (uA a.toNat) 5) b.toNat = _
    rw [cc a b a0 b0 (by omega)]
    by_cases e : a = m
    · by_cases e2 : b = i
      · rw [e, e2, wA_e, if_pos ⟨rfl, rfl⟩]
        omega
      · rw [wA_o _ _ (fun q => by have := q.2; omega), if_neg (fun q => e2 q.2)]
        exact u3 b b0 b1
    · rw [wA_o _ _ (fun q => e (hj a m a0 a1 hm.1 hm.2 q.1)), if_neg (fun q => e q.1)]
      exact u3 b b0 b1
  · rw [ck] at k5
    rw [cc a 2 a0 (by omega) (by omega)]
    by_cases e : a = m ∧ 2 = i
    · obtain ⟨rfl, e2⟩ := e
      have : nin (C amKd a.toNat) = 2 := by unfold nin; rw [if_neg k5]
      omega
    · rw [if_neg e]
      exact g5 a a0 a1 k5
  · rw [cc a b a0 b0 b1]
    split
    · omega
    · exact g6 a b a0 a1 b0 b1
theorem Rel_34 {D : Nat → Prop} {A : Int → SS} {H : Int → Int → SS} {T : Int} {TK : Int → Rw} (hD : ∀ l, D l → (tg l = 32 ∨ tg l = 34) ∧ ¬ l = amIn ∧ ¬ l = amTn ∧ ¬ l = amTk ∧ ¬ l = amTl ∧ ¬ l = amTo ∧ ¬ l = aMarks ∧ ¬ l = amTr) (ha : ∀ l j, ¬ D l → mA M' l j = mA M l j) (e : mB M' = mB M ∧ mR M' = mR M ∧ mC M' = mC M ∧ mK M' = mK M ∧ mS M' = mS M) (r3 : R3 M N c A H) (r4 : R4 M T TK) (r6 : R6 M) (r7 : R7 M N) (r8 : R8 M c) : R3 M' N c A H ∧ R4 M' T TK ∧ R6 M' ∧ R7 M' N ∧ R8 M' c := by
  obtain ⟨e1, e2, e3, e4, e5⟩ := e
  have tx : ∀ l j, ¬ (tg l = 32 ∨ tg l = 34) → mA M' l j = mA M l j := fun l j t => ha l j (fun q => t (hD l q).1)
  have hrow : rowG M M' := ⟨fun k => by rw [e3]; exact Nat.le_refl _, fun l j _ t => ⟨tx l j (by rw [t]; decide), by rw [e2]⟩, fun _ _ _ _ _ => by rw [e1]⟩
  refine ⟨R3_c r3 hrow (fun j => ha _ _ (fun q => (hD _ q).2.1 rfl)) (fun j => by rw [e1]) (fun l j t => ⟨tx l j (by rw [t]; decide), by rw [e1], by rw [e2]⟩) (fun i j => by rw [e2]) (fun j _ => tx _ _ (by decide)) (fun j => tx _ _ (by decide)), R4_c r4 hrow ⟨tx _ _ (by decide), tx _ _ (by decide), tx _ _ (by decide)⟩ (fun l j q => ha l j (fun z => by
    have := hD l z
    rcases q with q | q | q | q
    · exact this.2.2.1 q
    · exact this.2.2.2.1 q
    · exact this.2.2.2.2.1 q
    · exact this.2.2.2.2.2.1 q)) (fun j => by rw [e1]) (fun j => by rw [e2]), R6_c r6 (fun j => tx _ _ (by decide)) (fun j _ => tx _ _ (by decide)) (fun j => ha _ _ (fun q => (hD _ q).2.2.2.2.2.2.1 rfl)) (fun j => ha _ _ (fun q => (hD _ q).2.2.2.2.2.2.2 rfl)), R7_c r7 (fun k => by rw [e3]; exact ⟨Nat.le_refl _, fun _ _ => rfl⟩) (fun i => by rw [e2]), ?_⟩
  unfold R8 at r8 ⊢
  rw [e4, e5]
  exact r8
/-- what cord changes -/
def coD (l : Nat) : Prop := l = amCo ∨ l = amFa ∨ l = aSteps ∨ l = aActed ∨ l = aLine ∨ isIn l
theorem coD_a {b : Nat} (h : ¬ b = amCo ∧ ¬ b = amFa ∧ ¬ b = aSteps ∧ ¬ b = aActed ∧ ¬ b = aLine ∧ ¬ b % 274877906944 = 83871400160 ∧ ¬ b % 274877906944 = 83871400096) : ¬ coD b := fun q => by
  unfold coD isIn at q
  omega
theorem coD_k {b k : Nat} (h : b % 274877906944 = k) (h2 : ¬ k = amCo % 274877906944 ∧ ¬ k = amFa % 274877906944 ∧ ¬ k = aSteps % 274877906944 ∧ ¬ k = aActed % 274877906944 ∧ ¬ k = aLine % 274877906944 ∧ ¬ k = 83871400160 ∧ ¬ k = 83871400096) : ¬ coD b := fun q => by
  unfold coD isIn at q
  rcases q with q | q | q | q | q | q
  · rw [q] at h; exact h2.1 h.symm
  · rw [q] at h; exact h2.2.1 h.symm
  · rw [q] at h; exact h2.2.2.1 h.symm
  · rw [q] at h; exact h2.2.2.2.1 h.symm
  · rw [q] at h; exact h2.2.2.2.2.1 h.symm
  · omega
theorem Rel_co {A : Int → SS} {H : Int → Int → SS} {T : Int} {TK : Int → Rw} {rk rk' : Int → Nat} {m i o : Int} (r1 : R1 M N rk) (r3 : R3 M N c A H) (r4 : R4 M T TK) (r5 : R5 M N) (r6 : R6 M) (r7 : R7 M N) (r8 : R8 M c) (hm : 0 ≤ m ∧ m < N) (hi : 0 ≤ i ∧ i < nin (mA M amKd m.toNat)) (ho : -1 ≤ o ∧ o < N) (hR : inR M') (e : mB M' = mB M ∧ mR M' = mR M ∧ mC M' = mC M ∧ mK M' = mK M ∧ mS M' = mS M) (ha : ∀ l j, ¬ coD l → mA M' l j = mA M l j) (hco : ∀ j, mA M' amCo j = coF (mA M) (3 * m + i).toNat (o + 1) amCo j) (hin : ∀ l j, isIn l → mA M' l j = if l = mR M (uA m.toNat) 5 ∧ j = i.toNat then o else mA M l j) (hl : noLp (coF (mA M) (3 * m + i).toNat (o + 1)) N rk') (hn : ∀ i' : Nat, (i' : Int) < N → mA M' aLine i' = ofn (coF (mA M) (3 * m + i).toNat (o + 1)) N i') : Rel M' c := by
  obtain ⟨g3, g4, g6, g7, g8⟩ := Rel_34 (D := coD) (M' := M') (fun l q => by
    unfold coD at q
    rcases q with q | q | q | q | q | q
    · rw [q]; decide
    · rw [q]; decide
    · rw [q]; decide
    · rw [q]; decide
    · rw [q]; decide
    · refine ⟨Or.inl q.t, ?_, ?_, ?_, ?_, ?_, ?_, ?_⟩ <;> (refine isIn_ne q ?_; unfold isIn; decide)) ha e r3 r4 r6 r7 r8
  obtain ⟨⟨p, ⟨s1, s2, s3, s4, s5, s6, s7⟩, ⟨n1, n2, n3⟩, u, z, cc⟩, tb, lp, hz, hln⟩ := r1
  have aKd : ∀ j, mA M' amKd j = mA M amKd j := fun j => ha _ _ (coD_a (by decide))
  have aKn : ∀ j, mA M' amKn j = mA M amKn j := fun j => ha _ _ (coD_a (by decide))
  have aRk : ∀ j, mA M' amRk j = mA M amRk j := fun j => ha _ _ (coD_a (by decide))
  have aU : ∀ i j, mA M' (uA i) j = mA M (uA i) j := fun i j => ha _ _ (coD_k (DS.2.1 i) (by decide))
  have dk : ∀ i, knA i % 274877906944 = 83764445408 := fun i => by unfold knA; omega
  have aK : ∀ i j, mA M' (knA i) j = mA M (knA i) j := fun i j => ha _ _ (coD_k (dk i) (by decide))
  have e2 := e.2.1
  have hb := nin_b (mA M amKd m.toNat)
  have cf := coF_c (mA M) (o + 1) m i hm.1 (by omega)
  have cfk := coF_k (mA M) (3 * m + i).toNat (o + 1)
  refine ⟨N, A, H, T, TK, rk', ⟨⟨?_, ⟨?_, hR, fun j => ?_, fun j => by rw [aKd]; exact s4 j, fun j => by rw [aRk]; exact s5 j, fun j => by rw [aKn]; exact s6 j, fun j => by rw [ha _ _ (coD_a (by decide))]; exact s7 j⟩, ⟨?_, ?_, n3⟩, fun a m0 m1 => ?_, fun a m0 m1 k5 => ?_, fun a b m0 m1 i0 i1 => ?_⟩, ?_, noLp_c hco (fun j => by rw [cfk]; exact aKd j) hl, fun j x => ?_, fun i' x => ?_⟩, g3, g4, R5_c r5 (fun l j q => ha l j (coD_a (by rcases q with q | q | q <;> rw [q] <;> decide))) (fun i' j => ha _ _ (coD_k (show pkA i' % 274877906944 = 32231133728 by unfold pkA; omega) (by decide))), g6, g7, g8⟩
  · unfold cP at p ⊢
    rw [e2]
    exact p
  · unfold mSt at s1 ⊢
    rw [e2]
    exact s1
  · rw [hco]
    unfold coF
    split
    · omega
    · exact s3 j
  · rw [ha _ _ (coD_a (by decide))]; exact n1
  · rw [ha _ _ (coD_a (by decide))]; exact n2
  · obtain ⟨g1, g2, g3, g4, g5, g6⟩ := u a m0 m1
    have gi := (u a m0 m1).n
    refine ⟨by rw [e2]; exact g1, by rw [e2]; exact g2, by rw [e2, aKd]; exact g3, by rw [aU, aU, aU, aKd, aRk]; exact g4, fun k x y => by rw [aK, aKn]; exact g5 k x y, fun b x y => ?_⟩
    rw [aKd] at y
    have hb2 := nin_b (mA M amKd a.toNat)
    rw [e2, hco, cf a b m0 x (by omega), hin _ _ gi]
    by_cases q : a = m
    · by_cases q2 : b = i
      · rw [q, q2, if_pos ⟨rfl, rfl⟩, if_pos ⟨rfl, rfl⟩]
        omega
      · rw [if_neg (fun q => by have := q.2; omega), if_neg (fun q => q2 q.2)]
        exact g6 b x y
    · rw [if_neg (fun z => q (r7.2.2 a m m0 m1 hm.1 hm.2 z.1)), if_neg (fun z => q z.1)]
      exact g6 b x y
  · rw [aKd] at k5
    rw [hco, cf a 2 m0 (by omega) (by omega)]
    by_cases q : a = m ∧ 2 = i
    · obtain ⟨rfl, q2⟩ := q
      have : nin (mA M amKd a.toNat) = 2 := by unfold nin; rw [if_neg k5]
      omega
    · rw [if_neg q]
      exact z a m0 m1 k5
  · rw [hco, cf a b m0 i0 i1]
    split
    · omega
    · exact cc a b m0 m1 i0 i1
  · obtain ⟨t1, t2⟩ := tb
    refine ⟨fun t a b => ?_, fun t i a b x y => ?_⟩
    · rw [ha _ _ (coD_a (by decide)), ha _ _ (coD_a (by decide))]; exact t1 t a b
    · rw [ha (tbA t.toNat) _ (coD_k (show tbA t.toNat % 274877906944 = 70885835808 by unfold tbA; omega) (by decide)), ha _ _ (coD_a (by decide))]
      exact t2 t i a b x y
  · rw [hco, aKn]
    unfold coF
    rw [if_neg (fun q => by have := q.2; omega)]
    exact hz j x
  · rw [hn i' x]
    unfold ofn
    rw [ordL_c hco (fun j => by rw [cfk]; exact aKd j)]
theorem t_cord (h : Rel M c) (o m i : Int) (ho : -2147483648 ≤ o ∧ o ≤ 2147483647) (hm : -2147483648 ≤ m ∧ m ≤ 2147483647) (hi : -2147483648 ≤ i ∧ i ≤ 2147483647) : Wp qX9_cord 0 [vR aX, vI o, vI m, vI i, vX, vX] [] M (Two c qX10_cord [vR aM, vI o, vI m, vI i, vX]) := by
  have hm' := Rel_m h (show c ≤ c + 1 by omega)
  obtain ⟨N, A, H, T, TK, rk, r1, r3, r4, r5, r6, r7, r8⟩ := id h
  have hC := r1.1
  have eN := hC.2.2.1
  have hN := eN.2.2
  have hR' := hC.r
  have hg := hC.2.1
  have qa := c_at hC m hm
  have qo := c_at hC o ho
  obtain ⟨hu, hI⟩ := hC.u
  have key : ∀ (M1 : xm) (v : Int), rkG M M1 → cdF (mA M) N o m i = v → ¬ v = 1 → (∀ j, mA M1 aLine j = mA M aLine j) → Two c qX10_cord [vR aM, vI o, vI m, vI i, vX] (some (vI v)) M1 := fun M1 v g e e1 hl => ⟨v, rfl, by
    have e2 : cdF (mA M1) N o m i = v := by rw [cdF_c (fun j => g.1 _ _ (by decide) (by decide) (by decide)) (fun j => g.1 _ _ (by decide) (by decide) (by decide)), e]
    refine s_cord (N := N) (by unfold mSt; rw [g.2.2.1]; exact hg.1) g.2.2.2.2.2 (by rw [g.1 _ _ (by decide) (by decide) (by decide)]; exact eN.2.1) hN (fun j => by rw [g.1 _ _ (by decide) (by decide) (by decide)]; exact hg.2.2.2.1 j) o m i ho hm hi _ (fun M2 g2 => ?_)
    rw [e2, if_neg e1]
    refine ⟨rfl, Rel_c hm' g2.2.2.2.2.2 (fun l j x1 x2 x3 x4 => ?_) ⟨g2.2.1.trans g.2.1, g2.2.2.1.trans g.2.2.1, g2.2.2.2.1.trans g.2.2.2.1, g2.2.2.2.2.1.1.trans g.2.2.2.2.1.1, g2.2.2.2.2.1.2.trans g.2.2.2.2.1.2⟩⟩
    rw [g2.1 l j x2]
    by_cases z : l = aLine
    · rw [z]; exact hl j
    · exact g.1 l j z x4 x3⟩
  have bad : cdF (mA M) N o m i = -1 → Two c qX10_cord [vR aM, vI o, vI m, vI i, vX] (some (vI (-1))) M := fun q => key M (-1) (rkG.refl hg.2.1) q (by decide) (fun _ => rfl)
  by_cases c1 : 0 ≤ m ∧ m < N
  · rw [show uR N m = uA m.toNat from if_pos c1] at qa
    have uz : ¬ uA m.toNat = 0 := tg_ne (TGf.1 _) (by decide)
    have hum := hC.2.2.2.1 m c1.1 c1.2
    have qh := c_hasIn hum hg.2.1 i hi
    have hb := nin_b (mA M amKd m.toNat)
    have hnn : nin (mA M amKd m.toNat) = (if mA M amKd m.toNat = 5 then 2 else 1) + 1 := by unfold nin; split <;> rfl
    by_cases c2 : 0 ≤ i ∧ i < nin (mA M amKd m.toNat)
    · simp only [bi_t c2] at qh
      by_cases c3 : o = -1 ∨ (0 ≤ o ∧ o < N)
      · have ecd : cdF (mA M) N o m i = if 0 < shF (mA M) N o m then -10 - shF (mA M) N o m else 1 := by
          unfold cdF shF
          rw [if_neg (fun q => by
            rcases q with q | q
            · exact q ⟨by omega, by omega⟩
            · omega)]
          by_cases a1 : 0 ≤ o ∧ ¬ mA M amKd m.toNat = 6 ∧ ¬ mA M amKd o.toNat = 6
          · rw [if_pos a1]
            by_cases a2 : 0 < wyF (mA M) N o 24 1 (f1 m) o
            · rw [if_pos ⟨a1.1, a1.2.1, a1.2.2, a2⟩, if_pos a2]
            · rw [if_neg (fun q => a2 q.2.2.2), if_neg a2]
          · rw [if_neg a1, if_neg (fun q => a1 ⟨q.1, q.2.1, q.2.2.1⟩), if_neg (by omega)]
        have sb : 0 ≤ shF (mA M) N o m ∧ shF (mA M) N o m ≤ 25 := by
          unfold shF
          split
          · exact wy_b (C := mA M) hN.1 (by omega) 24 1 (f1 m) (lvI_1 c1)
          · omega
        have tail : Wp qX9_cord 42 [vR aX, vI o, vI m, vI i, vR (uA m.toNat), vX] [] M (Two c qX10_cord [vR aM, vI o, vI m, vI i, vX]) := by
          simp (disch := first | omega | (simp only [DT, DS, ne_eq, Nat.reduceEqDiff, not_false_eq_true]; done)) only [RX9_cord, cP.e hC.1, BW, wr_id, OM, OE, PL, ↓reduceIte, TGs, bi_T, bi_F, bi_ff, Nat.reduceLeDiff, Nat.reduceLT, Nat.reduceAdd]
          refine c_short hu hI c1 c3 _ (fun M1 g1 => ?_)
          obtain ⟨hu1, hI1⟩ := g1.rk.u hu hI
          have cP1 : cP M1 := by have := hC.1; unfold cP at this ⊢; rw [g1.2.2.1]; exact this
          by_cases c4 : 0 < shF (mA M) N o m
          · rw [if_pos c4] at ecd
            simp (disch := first | omega | (simp only [DT, DS, ne_eq, Nat.reduceEqDiff, not_false_eq_true]; done)) only [RX9_cord, BW, wr_id, OM, OE, PL, ↓reduceIte, TGs, bi_T, bi_F, bi_ff, Nat.reduceLeDiff, Nat.reduceLT, Nat.reduceAdd]
            exact key M1 _ g1.rk ecd (by omega) (fun j => g1.1 _ _ (by decide))
          · rw [if_neg c4] at ecd
            have qh1 := d_hasIn hu1 c1 c2
            have hin := (hu1.2.2.2.1 m c1.1 c1.2).1
            have iz := tg_ne hin.2.1 (by decide)
            have hR1 : ∀ L k, wr (mA M1 L k) = mA M1 L k := hu1.2.2.1
            simp (disch := first | omega | (simp only [DT, DS, ne_eq, Nat.reduceEqDiff, not_false_eq_true]; done)) only [RX9_cord, cP.e cP1, RX3_join, RX8_setCord, qh1, uz, TGf, hin.2.1, hin.2.2, iz, BW, wr_id, OM, OE, PL, ↓reduceIte, TGs, bi_T, bi_F, bi_ff, Nat.reduceLeDiff, Nat.reduceLT, Nat.reduceAdd]
            obtain ⟨hu2, hI2⟩ := uC_co hu1 hI1 (fun a b x y z w q => r7.2.2 a b x y z w (by rw [g1.2.2.1] at q; exact q)) c1 c2 (o := o) (by omega)
            have cf := coF_c (mA M) (o + 1) m i c1.1 (by omega)
            have cfk := coF_k (mA M) (3 * m + i).toNat (o + 1)
            have hrk : ∃ rk', noLp (coF (mA M) (3 * m + i).toNat (o + 1)) N rk' := by
              by_cases a1 : 0 ≤ o ∧ ¬ mA M amKd m.toNat = 6 ∧ ¬ mA M amKd o.toNat = 6
              · have e : shF (mA M) N o m = wyF (mA M) N o 24 1 (f1 m) o := if_pos a1
                exact rk_new (i := i) r1.2.2.1 hN c1 (by omega) (by omega) cfk (fun x y x0 _ y0 y1 => cf x y x0 y0 y1)
              · refine ⟨rk, rk_old (c := o + 1) r1.2.2.1 (by omega) ?_ cfk (fun x y x0 _ y0 y1 => cf x y x0 y0 y1)⟩
                rw [show o + 1 - 1 = o by omega]
                by_cases b1 : 0 ≤ o
                · by_cases b2 : mA M amKd m.toNat = 6
                  · exact Or.inr (Or.inl b2)
                  · exact Or.inr (Or.inr (Classical.byContradiction (fun q => a1 ⟨b1, b2, q⟩)))
                · exact Or.inl (by omega)
            obtain ⟨rk', hrk⟩ := hrk
            refine c_lineUp hu2 hI2 hrk _ (fun M3 g3 l3 => ?_)
            simp (disch := first | omega | (simp only [DT, DS, ne_eq, Nat.reduceEqDiff, not_false_eq_true]; done)) only [RX3_join, RX9_cord, BW, wr_id, OM, OE, PL, ↓reduceIte, TGs, bi_T, bi_F, bi_ff, Nat.reduceLeDiff, Nat.reduceLT, Nat.reduceAdd]
            refine ⟨1, rfl, ?_⟩
            have e5 : mR M1 (uA m.toNat) 5 = mR M (uA m.toNat) 5 := by rw [g1.2.2.1]
            rw [e5] at g3
            have nI := hum.n
            have st : ∀ l j, ¬ l = aLine → ¬ l = aActed → ¬ l = aSteps → ¬ (l = mR M (uA m.toNat) 5 ∧ j = i.toNat) → mA M3 l j = mA M l j := fun l j x y z w => by rw [g3.1 l j x y z, wA_o _ _ w, g1.1 l j z]
            have ni : ∀ l j, ¬ isIn l → ¬ (l = mR M (uA m.toNat) 5 ∧ j = i.toNat) := fun l j q z => q (by rw [z.1]; exact nI)
            have aCo : ∀ j, mA M3 amCo j = mA M amCo j := fun j => st _ _ (by decide) (by decide) (by decide) (ni _ _ (by unfold isIn; decide))
            have aKd : ∀ j, mA M3 amKd j = mA M amKd j := fun j => st _ _ (by decide) (by decide) (by decide) (ni _ _ (by unfold isIn; decide))
            have e2 : cdF (mA M3) N o m i = 1 := by rw [cdF_c aCo aKd, ecd]
            have e3R : mR M3 = mR M := g3.2.2.1.trans g1.2.2.1
            refine s_cord (N := N) (by unfold mSt; rw [e3R]; exact hg.1) g3.2.2.2.2.2 (by rw [st _ _ (by decide) (by decide) (by decide) (ni _ _ (by unfold isIn; decide))]; exact eN.2.1) hN (fun j => by rw [aKd]; exact hg.2.2.2.1 j) o m i ho hm hi _ (fun M4 g4 => ?_)
            rw [e2, if_pos rfl]
            refine ⟨rfl, Rel_co (m := m) (i := i) (o := o) r1 (R3_m r3 (show c ≤ c + 1 by omega)) r4 r5 r6 r7 (R8_m r8 (by omega)) c1 c2 (by omega) (g4.2.2.2.2.2.wA _ _ (wr_id (by omega) (by omega))) ⟨g4.2.1.trans (g3.2.1.trans g1.2.1), g4.2.2.1.trans e3R, g4.2.2.2.1.trans (g3.2.2.2.1.trans g1.2.2.2.1), g4.2.2.2.2.1.1.trans (g3.2.2.2.2.1.1.trans g1.2.2.2.2.1.1), g4.2.2.2.2.1.2.trans (g3.2.2.2.2.1.2.trans g1.2.2.2.2.1.2)⟩ (fun l j q => ?_) (fun j => ?_) (fun l j q => ?_) hrk (fun i' hi' => ?_)⟩
            · unfold coD at q
              rw [wA_o _ _ (fun z => q (by simp [z.1])), g4.1 l j (fun z => q (by simp [z]))]
              exact st l j (fun z => q (by simp [z])) (fun z => q (by simp [z])) (fun z => q (by simp [z])) (ni l j (fun z => q (by simp [z])))
            · unfold coF
              by_cases z : j = (3 * m + i).toNat
              · rw [z, wA_e, if_pos ⟨rfl, rfl⟩]
              · rw [wA_o _ _ (fun y => z y.2), if_neg (fun y => z y.2), g4.1 _ _ (by decide), aCo]
            · have b1 := isIn_ne q (b := amCo) (by unfold isIn; decide)
              have b2 := isIn_ne q (b := amFa) (by unfold isIn; decide)
              have b3 := isIn_ne q (b := aLine) (by unfold isIn; decide)
              have b4 := isIn_ne q (b := aActed) (by unfold isIn; decide)
              have b5 := isIn_ne q (b := aSteps) (by unfold isIn; decide)
              rw [wA_o _ _ (fun z => b1 z.1), g4.1 l j b2, g3.1 l j b3 b4 b5]
              by_cases z : l = mR M (uA m.toNat) 5 ∧ j = i.toNat
              · rw [if_pos z, z.1, z.2, wA_e]
              · rw [if_neg z, wA_o _ _ z, g1.1 l j b5]
            · rw [wA_o _ _ (fun z => absurd z.1 (by decide)), g4.1 _ _ (by decide)]
              exact l3 i' hi'
        by_cases c5 : o = -1
        · simp (disch := first | omega | (simp only [DT, DS, ne_eq, Nat.reduceEqDiff, not_false_eq_true]; done)) only [RX9_cord, cP.e hC.1, qa, uz, TGf, qh, c5, BW, wr_id, OM, OE, PL, ↓reduceIte, TGs, bi_T, bi_F, bi_ff, Nat.reduceLeDiff, Nat.reduceLT, Nat.reduceAdd] at tail ⊢
          exact tail
        · rw [show uR N o = uA o.toNat from if_pos (by omega)] at qo
          have uzo : ¬ uA o.toNat = 0 := tg_ne (TGf.1 _) (by decide)
          simp (disch := first | omega | (simp only [DT, DS, ne_eq, Nat.reduceEqDiff, not_false_eq_true]; done)) only [RX9_cord, cP.e hC.1, qa, qo, uz, uzo, TGf, qh, c5, BW, wr_id, OM, OE, PL, ↓reduceIte, TGs, bi_T, bi_F, bi_ff, Nat.reduceLeDiff, Nat.reduceLT, Nat.reduceAdd] at tail ⊢
          exact tail
      · rw [show uR N o = 0 from if_neg (fun q => c3 (Or.inr q))] at qo
        have c5 : ¬ o = -1 := fun q => c3 (Or.inl q)
        simp (disch := first | omega | (simp only [DT, DS, ne_eq, Nat.reduceEqDiff, not_false_eq_true]; done)) only [RX9_cord, cP.e hC.1, qa, qo, uz, TGf, qh, c5, BW, wr_id, OM, OE, PL, ↓reduceIte, TGs, bi_T, bi_F, bi_ff, Nat.reduceLeDiff, Nat.reduceLT, Nat.reduceAdd]
        refine bad ?_
        unfold cdF
        rw [if_pos (Or.inr (by omega))]
    · simp only [bi_f c2] at qh
      simp (disch := first | omega | (simp only [DT, DS, ne_eq, Nat.reduceEqDiff, not_false_eq_true]; done)) only [RX9_cord, cP.e hC.1, qa, uz, TGf, qh, BW, wr_id, OM, OE, PL, ↓reduceIte, TGs, bi_T, bi_F, bi_ff, Nat.reduceLeDiff, Nat.reduceLT, Nat.reduceAdd]
      refine bad ?_
      unfold cdF
      rw [if_pos (Or.inl (fun q => c2 (by omega)))]
  · rw [show uR N m = 0 from if_neg c1] at qa
    simp (disch := first | omega | (simp only [DT, DS, ne_eq, Nat.reduceEqDiff, not_false_eq_true]; done)) only [RX9_cord, cP.e hC.1, qa, BW, wr_id, OM, OE, PL, ↓reduceIte, TGs, bi_T, bi_F, bi_ff, Nat.reduceLeDiff, Nat.reduceLT, Nat.reduceAdd]
    refine bad ?_
    unfold cdF
    rw [if_pos (Or.inl (fun q => c1 (by omega)))]
end CO
