/-! 85.ttak: both answer alike: take -/
theorem ts_nv (n : Nat) : ¬ isV amTs n := fun h => by
  unfold isV at h
  rw [show amTs % 274877906944 = 115184017441 by decide] at h
  omega
theorem db_nv (n : Nat) : ¬ isV amDb n := fun h => by
  unfold isV at h
  rw [show amDb % 274877906944 = 114908411937 by decide] at h
  omega
theorem fr_nv (n : Nat) : ¬ isV amFr n := fun h => by
  unfold isV at h
  rw [show amFr % 274877906944 = 115200754721 by decide] at h
  omega
theorem t_take {M : xm} {c : Int} (h : Rel M c) (m : Int) (hm : -2147483648 ≤ m ∧ m ≤ 2147483647) : Wp qX9_take 0 [vR aX, vI m, vX] [] M (Two c qX10_take [vR aM, vI m, vX]) := by
  have hm' := Rel_m h (show c ≤ c + 1 by omega)
  obtain ⟨N, A, H, T, TK, rk, r1, r3, r4, r5, r6, r7, r8⟩ := id h
  have hC := r1.1
  have eN := hC.2.2.1
  have hN := eN.2.2
  have hR' := hC.r
  have qa := c_at hC m hm
  have qg := c_givenBy hC m hm
  have hT := r4.1
  have qs := s_take hC.2.1.1 hC.2.1.2.1 eN.2.1 hN r3.m hT.1 hT.2.2.2 hT.2.1 m hm
  have bad : ∀ v, tkF A N T m = v → ¬ 0 < v → Two c qX10_take [vR aM, vI m, vX] (some (vI v)) M := fun v e nv => ⟨v, rfl, by
    rw [qs, e, if_neg nv]
    exact ⟨rfl, hm'⟩⟩
  unfold tkF at bad
  by_cases c1 : 0 ≤ m ∧ m < N
  · rw [show uR N m = uA m.toNat from if_pos c1] at qa
    have uz : ¬ uA m.toNat = 0 := tg_ne (TGf.1 _) (by decide)
    rw [show gR M N m = mR M (nowA m.toNat) 0 from if_pos c1] at qg
    rw [if_pos (by omega)] at bad
    obtain ⟨g1, g2⟩ := r3.1.2.1.g m c1.1 c1.2
    cases e : sR (A m) with
    | none =>
      rw [e] at g1 bad
      have z : mR M (nowA m.toNat) 0 = 0 := g1
      rw [z] at qg
      simp (disch := first | omega | (simp only [DT, DS, ne_eq, Nat.reduceEqDiff, not_false_eq_true]; done)) only [RX9_take, cP.e hC.1, qa, uz, qg, BW, wr_id, OM, OE, PL, ↓reduceIte, TGs, bi_T, bi_F, bi_ff, Nat.reduceLeDiff, Nat.reduceLT, Nat.reduceAdd]
      exact bad _ rfl (by decide)
    | some w =>
      rw [e] at g1 bad
      have ow := g2 w e
      have tz := tg_ne g1.1.2 (by decide)
      have tw := g1.1.2
      dsimp only at bad
      by_cases c2 : T = 40
      · rw [if_pos c2] at bad
        simp (disch := first | omega | (simp only [DT, DS, ne_eq, Nat.reduceEqDiff, not_false_eq_true]; done)) only [RX9_take, RX7_isFull, cP.e hC.1, qa, uz, qg, tz, hT.2.2.1, BW, wr_id, OM, OE, PL, ↓reduceIte, TGs, bi_T, bi_F, bi_ff, Nat.reduceLeDiff, Nat.reduceLT, Nat.reduceAdd]
        exact bad _ rfl (by decide)
      · have xe : (mR M (nowA m.toNat) 0 = 0 ∨ tg (mR M (nowA m.toNat) 0) = 5) := Or.inr tw
        have t1 : mA (wR M aTRows T.toNat (mR M (nowA m.toNat) 0)) aTaks 0 = T := hT.2.2.1
        have hTb := hT.2.2.2
        simp (disch := first | omega | (simp only [DT, DS, ne_eq, Nat.reduceEqDiff, not_false_eq_true]; done)) only [RX9_take, RX7_isFull, RX7_add, cP.e hC.1, qa, uz, qg, tz, hT.2.2.1, xel5, tw, t1, MM, DT, Nat.reduceEqDiff, BW, wr_id, OM, OE, PL, ↓reduceIte, TGs, bi_T, bi_F, bi_ff, Nat.reduceLeDiff, Nat.reduceLT, Nat.reduceAdd]
        refine ⟨T + 1, rfl, ?_⟩
        generalize hG : mR M (nowA m.toNat) 0 = G at *
        have hR1 : inR (wA (wR M aTRows T.toNat G) aTaks 0 (T + 1)) := hC.2.1.2.1.wA _ _ (wr_id (by omega) (by omega))
        have a1 : ∀ l j, ¬ l = aTaks → mA (wA (wR M aTRows T.toNat G) aTaks 0 (T + 1)) l j = mA M l j := fun l j q => wA_o _ _ (fun z => q z.1)
        have rr : ∀ l j, ¬ l = aTRows → mR (wA (wR M aTRows T.toNat G) aTaks 0 (T + 1)) l j = mR M l j := fun l j q => if_neg (fun z => q z.1)
        have rT : ∀ j, mR (wA (wR M aTRows T.toNat G) aTaks 0 (T + 1)) aTRows j = if j = T.toNat then G else mR M aTRows j := fun j => by
          show (if aTRows = aTRows ∧ j = T.toNat then G else mR M aTRows j) = _
          by_cases z : j = T.toNat
          · rw [if_pos ⟨rfl, z⟩, if_pos z]
          · rw [if_neg (fun q => z q.2), if_neg z]
        have tk0 : mA (wA (wR M aTRows T.toNat G) aTaks 0 (T + 1)) aTaks 0 = T + 1 := wA_e _ _ _ _
        have bb : mB (wA (wR M aTRows T.toNat G) aTaks 0 (T + 1)) = mB M := rfl
        have cc : mC (wA (wR M aTRows T.toNat G) aTaks 0 (T + 1)) = mC M ∧ mK (wA (wR M aTRows T.toNat G) aTaks 0 (T + 1)) = mK M ∧ mS (wA (wR M aTRows T.toNat G) aTaks 0 (T + 1)) = mS M := ⟨rfl, rfl, rfl⟩
        generalize wA (wR M aTRows T.toNat G) aTaks 0 (T + 1) = M1 at *
        have hs1 : mSt M1 := by
          have := hC.2.1.1
          unfold mSt at this ⊢
          simp only [rr aM _ (by decide)]
          exact this
        have ha1 : mAs M1 (24 * c) A := fun o a b => ⟨mS1_same (r3.m o a b).1 (fun j => a1 _ _ (by decide)) (fun j => by rw [bb]) a, (r3.m o a b).2⟩
        have q2 := s_take hs1 hR1 (by rw [a1 _ _ (by decide)]; exact eN.2.1) hN ha1 (by rw [a1 _ _ (by decide)]; exact hT.1) hT.2.2.2 (by rw [a1 _ _ (by decide)]; exact hT.2.1) m hm
        have et : tkF A N T m = T + 1 := by
          unfold tkF
          rw [if_pos (by omega), e]
          dsimp only
          rw [if_neg c2]
        rw [q2, et, if_pos (by omega)]
        obtain ⟨k0, k1, k2, k3⟩ := mRw_s (by have := (r3.m m c1.1 (by omega)).1.1; rw [e] at this; exact this)
        have w0 : mA M amIn (20 * m).toNat - 1 = rwK w := by omega
        have w1 : mA M amIn (20 * m + 1).toNat = rwL w := k1
        have w2 : mA M amIn (20 * m + 2).toNat = rwN w := k2
        have ra : ∀ l j, mA (tkM M1 m T) l j = if l = aM ∧ j = 22 then T + 1 else if l = amTo ∧ j = T.toNat then rwN w else if l = amTl ∧ j = T.toNat then rwL w else if l = amTk ∧ j = T.toNat then rwK w else if l = amTn ∧ j = T.toNat then T + 1 else if l = aM ∧ j = 0 then T + 1 else mA M1 l j := fun l j => by
          rw [← w2, ← w1, ← w0, ← a1 amIn _ (by decide), ← a1 amIn _ (by decide), ← a1 amIn _ (by decide)]
          rfl
        have rb : ∀ l j, mB (tkM M1 m T) l j = if l = amTs ∧ (16 * T).toNat ≤ j ∧ j < (16 * T + 16).toNat then mB M amDb (j - (16 * T).toNat + (82 * m).toNat) else mB M l j := fun l j => by
          rw [← bb]
          rfl
        have rR : mR (tkM M1 m T) = mR M1 := rfl
        have rC : mC (tkM M1 m T) = mC M ∧ mK (tkM M1 m T) = mK M ∧ mS (tkM M1 m T) = mS M := cc
        have hR2 : inR (tkM M1 m T) := fun l j => by
          rw [ra]
          have o1 := ow.1
          have o2 := ow.2.1
          have o3 := mk_16 ow
          repeat' split
          all_goals first | exact wr_id (by omega) (by omega) | exact hR1 l j
        have keep : ∀ l j, ¬ l = aM → ¬ l = amTo → ¬ l = amTl → ¬ l = amTk → ¬ l = amTn → ¬ l = aTaks → mA (tkM M1 m T) l j = mA M l j := fun l j x1 x2 x3 x4 x5 x6 => by
          rw [ra, if_neg (fun q => x1 q.1), if_neg (fun q => x2 q.1), if_neg (fun q => x3 q.1), if_neg (fun q => x4 q.1), if_neg (fun q => x5 q.1), if_neg (fun q => x1 q.1)]
          exact a1 l j x6
        have kM : ∀ j, ¬ j = 22 → ¬ j = 0 → mA (tkM M1 m T) aM j = mA M aM j := fun j x1 x2 => by
          rw [ra, if_neg (fun q => x1 q.2), if_neg (fun q => absurd q.1 (by decide)), if_neg (fun q => absurd q.1 (by decide)), if_neg (fun q => absurd q.1 (by decide)), if_neg (fun q => absurd q.1 (by decide)), if_neg (fun q => x2 q.2)]
          exact a1 _ _ (by decide)
        have kt : ∀ l j, ¬ tg l = 32 → ¬ tg l = 11 → ¬ tg l = 8 → mA (tkM M1 m T) l j = mA M l j := fun l j x y z => keep l j (fun q => y (by rw [q]; decide)) (fun q => x (by rw [q]; decide)) (fun q => x (by rw [q]; decide)) (fun q => x (by rw [q]; decide)) (fun q => x (by rw [q]; decide)) (fun q => z (by rw [q]; decide))
        have kr : ∀ l j, ¬ l = aTRows → mR (tkM M1 m T) l j = mR M l j := fun l j q => by rw [rR]; exact rr l j q
        have krt : ∀ l j, ¬ tg l = 35 → mR (tkM M1 m T) l j = mR M l j := fun l j q => kr l j (fun z => q (by rw [z]; decide))
        have krf : ∀ i j, mR (tkM M1 m T) (fedA i) j = mR M (fedA i) j := fun i j => kr _ _ (fun q => by
          have e1 : fedA i % 274877906944 = 65510834467 := by unfold fedA; omega
          rw [q] at e1
          exact absurd e1 (by decide))
        have hrow : rowG M (tkM M1 m T) := ⟨fun k => by rw [rC.1]; exact Nat.le_refl _, fun l j _ t => ⟨kt l j (by rw [t]; decide) (by rw [t]; decide) (by rw [t]; decide), krt l j (by rw [t]; decide)⟩, fun v j n _ b => by
          rw [rb, if_neg (fun q => ts_nv n (by rw [← q.1]; exact b))]⟩
        obtain ⟨M1', r1', r3', r4', r5', r6', r7', r8'⟩ : ∃ x : Nat, R1 M N rk ∧ R3 M N (c + 1) A H ∧ R4 M T TK ∧ R5 M N ∧ R6 M ∧ R7 M N ∧ R8 M (c + 1) := ⟨0, r1, R3_m r3 (by omega), r4, r5, r6, r7, R8_m r8 (by omega)⟩
        refine ⟨rfl, N, A, H, T + 1, (fun k => if k = T then w else TK k), rk, R1_c r1 hR2 (fun l j _ _ _ q => krt l j q) (fun l j q q3 => ?_) (fun j => keep _ _ (by decide) (by decide) (by decide) (by decide) (by decide) (by decide)), R3_c r3' hrow (fun j => keep _ _ (by decide) (by decide) (by decide) (by decide) (by decide) (by decide)) (fun j => by rw [rb, if_neg (fun q => absurd q.1 (by decide))]) (fun l j t => ⟨kt l j (by rw [t]; decide) (by rw [t]; decide) (by rw [t]; decide), by rw [rb, if_neg (fun q => absurd t (by rw [q.1]; decide))], krt l j (by rw [t]; decide)⟩) krf (fun j q => kM j (by omega) (by omega)) (fun j => keep _ _ (by decide) (by decide) (by decide) (by decide) (by decide) (by decide)), ⟨⟨?_, ?_, ?_, by omega, by omega⟩, fun k a b => ?_, fun k a b => ?_⟩, R5_c r5 (fun l j q => keep l j (by rcases q with q | q | q <;> rw [q] <;> decide) (by rcases q with q | q | q <;> rw [q] <;> decide) (by rcases q with q | q | q <;> rw [q] <;> decide) (by rcases q with q | q | q <;> rw [q] <;> decide) (by rcases q with q | q | q <;> rw [q] <;> decide) (by rcases q with q | q | q <;> rw [q] <;> decide)) (fun i j => keep _ _ (fun q => pk_n (by decide) q.symm) (fun q => pk_n (by decide) q.symm) (fun q => pk_n (by decide) q.symm) (fun q => pk_n (by decide) q.symm) (fun q => pk_n (by decide) q.symm) (fun q => pk_n (by decide) q.symm)), R6_c r6 (fun j => keep _ _ (by decide) (by decide) (by decide) (by decide) (by decide) (by decide)) (fun j q => kM j (by omega) (by omega)) (fun j => keep _ _ (by decide) (by decide) (by decide) (by decide) (by decide) (by decide)) (fun j => keep _ _ (by decide) (by decide) (by decide) (by decide) (by decide) (by decide)), R7_c r7 (fun k => by rw [rC.1]; exact ⟨Nat.le_refl _, fun _ _ => rfl⟩) (fun i => krt _ _ (by rw [TGf.1]; decide)), ?_⟩
        · by_cases z : l = aM
          · rw [z, q3 z]
            exact kM 3 (by decide) (by decide)
          · exact keep l j z (fun y => q (by unfold nonX; simp [y])) (fun y => q (by unfold nonX; simp [y])) (fun y => q (by unfold nonX; simp [y])) (fun y => q (by unfold nonX; simp [y])) (fun y => q (by rw [y]; unfold nonX; decide))
        · rw [ra, if_pos ⟨rfl, rfl⟩]
        · rw [ra, if_neg (by decide), if_neg (fun q => absurd q.1 (by decide)), if_neg (fun q => absurd q.1 (by decide)), if_neg (fun q => absurd q.1 (by decide)), if_neg (fun q => absurd q.1 (by decide)), if_pos ⟨rfl, rfl⟩]
        · rw [ra, if_neg (fun q => absurd q.1 (by decide)), if_neg (fun q => absurd q.1 (by decide)), if_neg (fun q => absurd q.1 (by decide)), if_neg (fun q => absurd q.1 (by decide)), if_neg (fun q => absurd q.1 (by decide)), if_neg (fun q => absurd q.1 (by decide))]
          exact tk0
        · rw [ra, if_neg (fun q => absurd q.1 (by decide)), if_neg (fun q => absurd q.1 (by decide)), if_neg (fun q => absurd q.1 (by decide)), if_neg (fun q => absurd q.1 (by decide))]
          by_cases z : k = T
          · rw [if_pos ⟨rfl, by rw [z]⟩, z]
          · rw [if_neg (fun q => by have := q.2; omega), if_neg (fun q => absurd q.1 (by decide)), a1 _ _ (by decide)]
            exact r4.2.1 k a (by omega)
        · dsimp only
          by_cases z : k = T
          · rw [if_pos z, z]
            refine ⟨⟨?_, ?_, ?_, fun i i0 i1 => ?_⟩, ow, ?_⟩
            · rw [ra, if_neg (fun q => absurd q.1 (by decide)), if_neg (fun q => absurd q.1 (by decide)), if_neg (fun q => absurd q.1 (by decide)), if_pos ⟨rfl, rfl⟩]
            · rw [ra, if_neg (fun q => absurd q.1 (by decide)), if_neg (fun q => absurd q.1 (by decide)), if_pos ⟨rfl, rfl⟩]
            · rw [ra, if_neg (fun q => absurd q.1 (by decide)), if_pos ⟨rfl, rfl⟩]
            · rw [rb, if_pos ⟨rfl, by omega, by omega⟩, show (16 * T + i).toNat - (16 * T).toNat + (82 * m).toNat = (82 * m + i).toNat by omega]
              exact k3 i i0 i1
            · rw [rR, rT, if_pos rfl]
              exact cRw_f hrow g1
          · rw [if_neg z]
            obtain ⟨⟨y1, y2, y3, y4⟩, y5, y6⟩ := r4.2.2 k a (by omega)
            refine ⟨⟨?_, ?_, ?_, fun i i0 i1 => ?_⟩, y5, ?_⟩
            · rw [ra, if_neg (fun q => absurd q.1 (by decide)), if_neg (fun q => absurd q.1 (by decide)), if_neg (fun q => absurd q.1 (by decide)), if_neg (fun q => by have := q.2; omega), if_neg (fun q => absurd q.1 (by decide)), if_neg (fun q => absurd q.1 (by decide)), a1 _ _ (by decide)]
              exact y1
            · rw [ra, if_neg (fun q => absurd q.1 (by decide)), if_neg (fun q => absurd q.1 (by decide)), if_neg (fun q => by have := q.2; omega), if_neg (fun q => absurd q.1 (by decide)), if_neg (fun q => absurd q.1 (by decide)), if_neg (fun q => absurd q.1 (by decide)), a1 _ _ (by decide)]
              exact y2
            · rw [ra, if_neg (fun q => absurd q.1 (by decide)), if_neg (fun q => by have := q.2; omega), if_neg (fun q => absurd q.1 (by decide)), if_neg (fun q => absurd q.1 (by decide)), if_neg (fun q => absurd q.1 (by decide)), if_neg (fun q => absurd q.1 (by decide)), a1 _ _ (by decide)]
              exact y3
            · rw [rb, if_neg (fun q => by have := q.2; omega)]
              exact y4 i i0 i1
            · rw [rR, rT, if_neg (by omega)]
              exact cRw_f hrow y6
        · have := R8_m r8 (show c ≤ c + 1 by omega)
          unfold R8 at this ⊢
          rw [rC.2.1, rC.2.2]
          exact this
  · rw [show uR N m = 0 from if_neg c1] at qa
    rw [if_neg (fun q => c1 (by omega))] at bad
    simp (disch := first | omega | (simp only [DT, DS, ne_eq, Nat.reduceEqDiff, not_false_eq_true]; done)) only [RX9_take, cP.e hC.1, qa, BW, wr_id, OM, OE, PL, ↓reduceIte, TGs, bi_T, bi_F, bi_ff, Nat.reduceLeDiff, Nat.reduceLT, Nat.reduceAdd]
    exact bad _ rfl (by decide)
