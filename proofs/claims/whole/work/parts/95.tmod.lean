/-! 95.tmod: both answer alike: module -/
theorem uC_t {M M' : xm} {C : Nat → Nat → Int} {N : Int} (h : uC M C N) (hR : mR M' = mR M) (hr : inR M') (ha : mA M' aRack 0 = mA M aRack 0) (hb : ∀ i, mA M' (uA i) 1 = mA M (uA i) 1) (hc : ∀ m : Int, 0 ≤ m → m < N → ∀ j, mA M' (mR M (uA m.toNat) 5) j = mA M (mR M (uA m.toNat) 5) j) : uC M' C N := by
  obtain ⟨g1, g2, g3, g4, g5, g6, g7⟩ := h
  refine ⟨by rw [hR]; exact g1, by rw [ha]; exact g2, hr, fun m x y => ?_, g5, g6, g7⟩
  obtain ⟨u1, u2, u3⟩ := g4 m x y
  exact ⟨by rw [hR]; exact u1, by rw [hb]; exact u2, fun i a b => by rw [hR, hc m x y]; exact u3 i a b⟩
section MK
variable {M M2 M4 : xm} {n I : Nat} {kd rk c : Int}
def mdX (M : xm) (n : Nat) (kd rk : Int) : xm := wA (wA (wA M amKd n kd) amRk n rk) aM 3 (n + 1)
theorem md_mk (eU : na M 9 0 20490 = uA n) (u : uS (nw M 9 0 20490 7) M2 n kd rk I 9) (i2 : inK M2 I (nin kd)) (hn : n ≤ 23) (hk : 0 ≤ kd ∧ kd ≤ 10) (hr : 0 ≤ rk ∧ rk ≤ 4) (g : rkG (wA (wR M2 aUnits n (uA n)) aRack 0 (n + 1)) M4) : mdG M (nw M 9 0 20490 7) (mdX M4 n kd rk) n kd rk I := by
  have hI := uT.n (s := 9) u.2
  have sX : ∀ l j, ¬ l = aLine → ¬ l = aActed → ¬ l = aSteps → ¬ l = amKd → ¬ l = amRk → ¬ (l = aRack ∧ j = 0) → ¬ (l = aM ∧ j = 3) → mA (mdX M4 n kd rk) l j = mA M2 l j := fun l j a b d e f w v => by
    unfold mdX
    rw [wA_o _ _ v, wA_o _ _ (fun q => f q.1), wA_o _ _ (fun q => e q.1), g.1 l j a b d, wA_o _ _ w]
    rfl
  have s0 : ∀ l j, ¬ nL n I l → mA M2 l j = mA M l j ∧ mB M2 l j = mB M l j ∧ mR M2 l j = mR M l j := fun l j q => by
    obtain ⟨x, y, z⟩ := u.1 l j q
    have hl : ¬ l = na M 9 0 20490 := fun w => q (Or.inl (by rw [w, eU]))
    refine ⟨x.trans ?_, y.trans ?_, z.trans ?_⟩
    · rw [MM.2.2.2.2.2.2.2.2.2.2.2.2.2.2.2.2.1, if_neg hl]
    · rw [MM.2.2.2.2.2.2.2.2.2.2.2.2.2.2.2.2.2.1, if_neg hl]
    · rw [MM.2.2.2.2.2.2.2.2.2.2.2.2.2.2.2.2.2.2.1, if_neg hl]
  have sB : mB (mdX M4 n kd rk) = mB M2 := g.2.1
  have sR : ∀ l j, mR (mdX M4 n kd rk) l j = if l = aUnits ∧ j = n then uA n else mR M2 l j := fun l j => by
    have e : mR (mdX M4 n kd rk) = mR M4 := rfl
    rw [e, g.2.2.1]
    rfl
  have sC : mC (mdX M4 n kd rk) = mC M2 := g.2.2.2.1
  have iX : inR (mdX M4 n kd rk) := ((g.2.2.2.2.2.wA _ _ (wr_id (by omega) (by omega))).wA _ _ (wr_id (by omega) (by omega))).wA _ _ (wr_id (by omega) (by omega))
  have nk : ∀ b, ¬ b % 274877906944 = 83764445408 → ¬ knA n = b := fun b q z => q (by rw [← z]; exact (key_u n).2.1)
  have rr : ∀ j, mA M4 amKd j = mA M amKd j ∧ mA M4 amRk j = mA M amRk j := fun j => by
    rw [g.1 _ _ (by decide) (by decide) (by decide), g.1 _ _ (by decide) (by decide) (by decide), wA_o _ _ (fun q => absurd q.1 (by decide)), wA_o _ _ (fun q => absurd q.1 (by decide))]
    exact ⟨(s0 amKd j (nL_k hI (by unfold kN; decide))).1, (s0 amRk j (nL_k hI (by unfold kN; decide))).1⟩
  refine ⟨uT_c u.2 (fun l j t => ?_) sB (fun l j t => ?_) sC ⟨g.2.2.2.2.1.1, g.2.2.2.2.1.2⟩ iX, fun j x y => ?_, fun l j a b d e f w v z => ?_, fun l j q => ?_, fun l j q w => ?_, ⟨fun j => ?_, fun j => ?_, ⟨?_, ?_⟩, fun j => ?_⟩, ?_, fun k => nw_le M _ _ _ _ k, Nat.le_refl _, Nat.le_refl _⟩
  · have ne : ∀ b, ¬ b % 274877906944 = 83764445408 → ¬ tg b = 9 → ¬ tg b = 6 → ¬ l = b := fun b x y z w => by
      rcases t with t | t | t
      · exact y (by rw [← w]; exact t)
      · exact z (by rw [← w]; exact t)
      · exact nk b x (t.symm.trans w)
    exact sX l j (ne _ (by decide) (by decide) (by decide)) (ne _ (by decide) (by decide) (by decide)) (ne _ (by decide) (by decide) (by decide)) (ne _ (by decide) (by decide) (by decide)) (ne _ (by decide) (by decide) (by decide)) (fun q => ne _ (by decide) (by decide) (by decide) q.1) (fun q => ne _ (by decide) (by decide) (by decide) q.1)
  · rw [sR, if_neg (fun q => t (by rw [q.1]; decide))]
  · have ne : ∀ b, ¬ isIn b → ¬ I = b := fun b q => isIn_ne hI q
    rw [sX I _ (ne _ (by unfold isIn; decide)) (ne _ (by unfold isIn; decide)) (ne _ (by unfold isIn; decide)) (ne _ (by unfold isIn; decide)) (ne _ (by unfold isIn; decide)) (fun q => ne _ (by unfold isIn; decide) q.1) (fun q => ne _ (by unfold isIn; decide) q.1)]
    exact i2 j x y
  · rw [sX l j b d e f w v z]; exact (s0 l j a).1
  · rw [sB]; exact (s0 l j q).2.1
  · rw [sR, if_neg (fun z => w z.1)]; exact (s0 l j q).2.2
  · unfold mdX
    rw [wA_o _ _ (fun q => absurd q.1 (by decide)), wA_o _ _ (fun q => absurd q.1 (by decide))]
    by_cases e : j = n
    · rw [e, wA_e, if_pos rfl]
    · rw [wA_o _ _ (fun q => e q.2), if_neg e, (rr j).1]
  · unfold mdX
    rw [wA_o _ _ (fun q => absurd q.1 (by decide))]
    by_cases e : j = n
    · rw [e, wA_e, if_pos rfl]
    · rw [wA_o _ _ (fun q => e q.2), if_neg e, wA_o _ _ (fun q => absurd q.1 (by decide)), (rr j).2]
  · unfold mdX
    rw [wA_o _ _ (fun q => absurd q.1 (by decide)), wA_o _ _ (fun q => absurd q.1 (by decide)), wA_o _ _ (fun q => absurd q.1 (by decide)), g.1 _ _ (by decide) (by decide) (by decide), wA_e]
  · unfold mdX
    rw [wA_e]
  · rw [sR]
    by_cases e : j = n
    · rw [if_pos ⟨rfl, e⟩, if_pos e]
    · rw [if_neg (fun q => e q.2), if_neg e]
      exact (s0 aUnits j (nL_k hI (by unfold kN; decide))).2.2
  · rw [MM.2.2.2.2.2.2.2.2.2.2.2.2.2.2.2.2.2.2.2, if_pos (by decide)]
theorem t_module (h : Rel M c) (kd rk : Int) (hkd : -2147483648 ≤ kd ∧ kd ≤ 2147483647) (hrk : -2147483648 ≤ rk ∧ rk ≤ 2147483647) : Wp qX9_module 0 [vR aX, vI kd, vI rk] [] M (Two c qX10_module [vR aM, vI kd, vI rk]) := by
  have hm' := Rel_m h (show c ≤ c + 1 by omega)
  obtain ⟨N, A, H, T, TK, rr, r1, r3, r4, r5, r6, r7, r8⟩ := h
  have hC := r1.1
  have eN := hC.2.2.1
  have hg := hC.2.1
  have hR' := hC.r
  have qs := s_module kd rk M hg.1 hg.2.1 hkd hrk (by rw [eN.2.1]; exact eN.2.2)
  rw [eN.2.1] at qs
  have qf := c_isFull hC
  by_cases c1 : 0 ≤ kd ∧ kd ≤ 10
  · by_cases c2 : 0 ≤ rk ∧ rk ≤ 4
    · by_cases c3 : N = 24
      · simp only [bi_t c3] at qf
        simp (disch := first | omega | (simp only [DT, DS, ne_eq, Nat.reduceEqDiff, not_false_eq_true]; done)) only [RX9_module, cP.e hC.1, qf, BW, wr_id, OM, OE, PL, ↓reduceIte, TGs, bi_T, bi_F, bi_ff, Nat.reduceLeDiff, Nat.reduceLT, Nat.reduceAdd]
        refine ⟨_, rfl, ?_⟩
        rw [qs, if_neg (fun q => q c1), if_neg (fun q => q c2), if_pos c3]
        exact ⟨rfl, hm'⟩
      · simp only [bi_f c3] at qf
        obtain ⟨n, rfl⟩ : ∃ n : Nat, N = n := ⟨N.toNat, by omega⟩
        have hn : n ≤ 23 := by omega
        have k7 := r7.1
        have eU : na M 9 0 20490 = uA n := na_e (show mC M (ky 9 0 20490) = n by have := k7.1; show mC M 42970644489 = n; omega)
        have uz : ¬ uA n = 0 := tg_ne (TGf.1 _) (by decide)
        have ct : cnt (nw M 9 0 20490 7) n := by
          have mo : ∀ k, ¬ k = ky 9 0 20490 → mC (nw M 9 0 20490 7) k = mC M k := fun k q => by rw [MM.2.2.2.2.2.2.2.2.2.2.2.2.2.2.2.2.2.2.2, if_neg q]
          refine ⟨?_, ?_, ?_, ?_, ?_⟩ <;> (rw [mo _ (by decide)]; omega)
        simp (disch := first | omega | (simp only [DT, DS, ne_eq, Nat.reduceEqDiff, not_false_eq_true]; done)) only [RX9_module, cP.e hC.1, qf, RX3_add, eN.1, eU, uz, TGf, BW, wr_id, OM, OE, PL, ↓reduceIte, TGs, bi_T, bi_F, bi_ff, Nat.reduceLeDiff, Nat.reduceLT, Nat.reduceAdd]
        refine c_unit (hg.2.1.nw _ _ _ _) ct (by omega) c1 c2 _ (fun M2 I u2 i2 => ?_)
        simp (disch := first | omega | (simp only [DT, DS, ne_eq, Nat.reduceEqDiff, not_false_eq_true]; done)) only [RX3_add, TGf, xel, BW, wr_id, OM, OE, PL, ↓reduceIte, TGs, bi_T, bi_F, bi_ff, Nat.reduceLeDiff, Nat.reduceLT, Nat.reduceAdd]
        have i3 : inR (wA (wR M2 aUnits n (uA n)) aRack 0 ((n : Int) + 1)) := (u2.2.2.2.2.2.2.2.2.wR _ _ _).wA _ _ (wr_id (by omega) (by omega))
        have gm := md_mk eU u2 i2 hn c1 c2 (rkG.refl i3)
        have R0 := md_R0 gm hn c1 c2 r1 r7
        obtain ⟨uc, ui⟩ := R0.1.u
        have hI := gm.1.n
        have xo : ∀ l j, ¬ l = amKd → ¬ l = amRk → ¬ l = aM → mA (wA (wR M2 aUnits n (uA n)) aRack 0 ((n : Int) + 1)) l j = mA (mdX (wA (wR M2 aUnits n (uA n)) aRack 0 ((n : Int) + 1)) n kd rk) l j := fun l j x y z => by
          unfold mdX
          rw [wA_o _ _ (fun q => z q.1), wA_o _ _ (fun q => y q.1), wA_o _ _ (fun q => x q.1)]
        have uc3 := uC_t (M' := wA (wR M2 aUnits n (uA n)) aRack 0 ((n : Int) + 1)) uc rfl i3 (xo _ _ (by decide) (by decide) (by decide)) (fun i => xo _ _ (fun q => by have e := TGf.1 i; rw [q] at e; exact absurd e (by decide)) (fun q => by have e := TGf.1 i; rw [q] at e; exact absurd e (by decide)) (fun q => by have e := TGf.1 i; rw [q] at e; exact absurd e (by decide))) (fun m x y j => by
          have gi := (R0.1.2.2.2.1 m x y).n
          exact xo _ _ (isIn_ne gi (by unfold isIn; decide)) (isIn_ne gi (by unfold isIn; decide)) (isIn_ne gi (by unfold isIn; decide)))
        refine c_lineUp uc3 ui R0.2.2.1 _ (fun M4 g4 l4 => ?_)
        simp (disch := first | omega | (simp only [DT, DS, ne_eq, Nat.reduceEqDiff, not_false_eq_true]; done)) only [RX3_add, RX9_module, BW, wr_id, OM, OE, PL, ↓reduceIte, TGs, bi_T, bi_F, bi_ff, Nat.reduceLeDiff, Nat.reduceLT, Nat.reduceAdd]
        refine ⟨_, rfl, ?_⟩
        have gx := md_mk eU u2 i2 hn c1 c2 g4
        have e3 : mA M4 aM 3 = n := by
          have f := (u2.1 aM 3 (nL_k hI (by unfold kN; decide))).1
          rw [MM.2.2.2.2.2.2.2.2.2.2.2.2.2.2.2.2.1, if_neg (by rw [eU]; intro q; have e := TGf.1 n; rw [← q] at e; exact absurd e (by decide))] at f
          rw [g4.1 _ _ (by decide) (by decide) (by decide), wA_o _ _ (fun q => absurd q.1 (by decide))]
          show mA M2 aM 3 = n
          rw [f]
          exact eN.2.1
        have s4 : mSt M4 := by
          have := hg.1
          unfold mSt at this ⊢
          have e : ∀ j, mR M4 aM j = mR M aM j := fun j => md_r gx (l := aM) (by unfold kN; decide) (by decide) j
          simp only [e]
          exact this
        have q4 := s_module kd rk M4 s4 g4.2.2.2.2.2 hkd hrk (by rw [e3]; omega)
        rw [e3] at q4
        rw [q4, if_neg (fun q => q c1), if_neg (fun q => q c2), if_neg (by omega), Int.toNat_natCast]
        refine ⟨rfl, Rel_md gx hn c1 c2 r1 r3 r4 r5 r6 r7 r8 (fun i x => ?_)⟩
        rw [wA_o _ _ (fun q => absurd q.1 (by decide)), wA_o _ _ (fun q => absurd q.1 (by decide)), wA_o _ _ (fun q => absurd q.1 (by decide)), l4 i x]
        unfold ofn
        rw [ordL_c R0.2.2.2.2.2 R0.2.2.2.2.1]
    · by_cases c4 : rk < 0
      · simp (disch := first | omega | (simp only [DT, DS, ne_eq, Nat.reduceEqDiff, not_false_eq_true]; done)) only [RX9_module, BW, wr_id, OM, OE, PL, ↓reduceIte, TGs, bi_T, bi_F, bi_ff, Nat.reduceLeDiff, Nat.reduceLT, Nat.reduceAdd]
        refine ⟨_, rfl, ?_⟩
        rw [qs, if_neg (fun q => q c1), if_pos c2]
        exact ⟨rfl, hm'⟩
      · simp (disch := first | omega | (simp only [DT, DS, ne_eq, Nat.reduceEqDiff, not_false_eq_true]; done)) only [RX9_module, BW, wr_id, OM, OE, PL, ↓reduceIte, TGs, bi_T, bi_F, bi_ff, Nat.reduceLeDiff, Nat.reduceLT, Nat.reduceAdd]
        refine ⟨_, rfl, ?_⟩
        rw [qs, if_neg (fun q => q c1), if_pos c2]
        exact ⟨rfl, hm'⟩
  · by_cases c4 : kd < 0
    · simp (disch := first | omega | (simp only [DT, DS, ne_eq, Nat.reduceEqDiff, not_false_eq_true]; done)) only [RX9_module, BW, wr_id, OM, OE, PL, ↓reduceIte, TGs, bi_T, bi_F, bi_ff, Nat.reduceLeDiff, Nat.reduceLT, Nat.reduceAdd]
      refine ⟨_, rfl, ?_⟩
      rw [qs, if_pos c1]
      exact ⟨rfl, hm'⟩
    · simp (disch := first | omega | (simp only [DT, DS, ne_eq, Nat.reduceEqDiff, not_false_eq_true]; done)) only [RX9_module, BW, wr_id, OM, OE, PL, ↓reduceIte, TGs, bi_T, bi_F, bi_ff, Nat.reduceLeDiff, Nat.reduceLT, Nat.reduceAdd]
      refine ⟨_, rfl, ?_⟩
      rw [qs, if_pos c1]
      exact ⟨rfl, hm'⟩
end MK
