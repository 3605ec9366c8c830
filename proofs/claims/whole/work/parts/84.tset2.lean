/-! 84.tset2: both answer alike: keep, recall, take -/
theorem pk_k (i : Nat) : pkA i % 274877906944 = 32231133728 := by unfold pkA; omega
theorem pk_n {i l : Nat} (h : ¬ l % 274877906944 = 32231133728) : ¬ l = pkA i := fun q => h (by rw [q]; exact pk_k i)
theorem pk_e {i j : Nat} (h : pkA i = pkA j) : i = j := by unfold pkA at h; omega
theorem kn_k (i : Nat) : knA i % 274877906944 = 83764445408 := by unfold knA; omega
theorem kn_n {i l : Nat} (h : ¬ l % 274877906944 = 83764445408) : ¬ l = knA i := fun q => h (by rw [q]; exact kn_k i)
theorem kn_e {i j : Nat} (h : knA i = knA j) : i = j := by unfold knA at h; omega
theorem c_phas {M : xm} (p : Int) (hp : -2147483648 ≤ p ∧ p ≤ 2147483647) (Q : Option xv → xm → Prop) : Wp qX2_has 0 [vR aPres, vI p] [] M Q ↔ Q (some (vI (bi (0 ≤ p ∧ p ≤ 7)))) M := by
  by_cases c1 : p < 0
  · rw [bi_f (by omega)]
    simp (disch := first | omega | (simp only [DT, DS, ne_eq, Nat.reduceEqDiff, not_false_eq_true]; done)) only [RX2_has, BW, wr_id, OM, OE, PL, ↓reduceIte, TGs, bi_T, bi_F, bi_ff, Nat.reduceLeDiff, Nat.reduceLT, Nat.reduceAdd]
  · by_cases c2 : p < 8
    · rw [bi_t (by omega)]
      simp (disch := first | omega | (simp only [DT, DS, ne_eq, Nat.reduceEqDiff, not_false_eq_true]; done)) only [RX2_has, BW, wr_id, OM, OE, PL, ↓reduceIte, TGs, bi_T, bi_F, bi_ff, Nat.reduceLeDiff, Nat.reduceLT, Nat.reduceAdd]
    · rw [bi_f (by omega)]
      simp (disch := first | omega | (simp only [DT, DS, ne_eq, Nat.reduceEqDiff, not_false_eq_true]; done)) only [RX2_has, BW, wr_id, OM, OE, PL, ↓reduceIte, TGs, bi_T, bi_F, bi_ff, Nat.reduceLeDiff, Nat.reduceLT, Nat.reduceAdd]
/-- ints at D alone are others -/
def iG (D : Nat → Prop) (M0 M : xm) : Prop := (∀ l j, ¬ D l → mA M l j = mA M0 l j) ∧ (mB M = mB M0 ∧ mR M = mR M0 ∧ mC M = mC M0 ∧ mK M = mK M0 ∧ mS M = mS M0) ∧ inR M
theorem l_store {M0 : xm} {N p : Int} (hC0 : cS M0 N) (hp : 0 ≤ p ∧ p ≤ 7) (Q : Option xv → xm → Prop) (hg : ∀ M x4, iG (fun l => l = pkA p.toNat) M0 M → (∀ j : Int, 0 ≤ j → j < 3 * N → mA M (pkA p.toNat) j.toNat = mA M0 amKn j.toNat) → Wp qX2_store 57 [vR aPres, vI p, vR aRack, vI N, x4] [] M Q) : ∀ (d : Nat) (k : Int) (M : xm) (x4 : xv), k + d = N → 0 ≤ k → iG (fun l => l = pkA p.toNat) M0 M → (∀ j : Int, 0 ≤ j → j < 3 * k → mA M (pkA p.toNat) j.toNat = mA M0 amKn j.toNat) → Wp qX2_store 12 [vR aPres, vI p, vR aRack, vI k, x4] [] M Q
  | 0, k, M, x4, hd, h0, hG, hj => by
    have hC : cS M N := cS_d hC0 hG.2.2 (fun l j _ _ _ _ => by rw [hG.2.1.2.1]) (fun l j q _ => hG.1 l j (fun z => q (by unfold nonX; rw [z]; simp [pk_k])))
    have hR' := hC.r
    have eN := hC.2.2.1
    obtain rfl : k = N := by omega
    have g := hg M x4 hG hj
    rw [HX2_store_12]
    simp (disch := first | omega | (simp only [DT, DS, ne_eq, Nat.reduceEqDiff, not_false_eq_true]; done)) only [RX2_store, eN.1, cP.e hC.1, BW, wr_id, OM, OE, PL, ↓reduceIte, TGs, bi_T, bi_F, bi_ff, Nat.reduceLeDiff, Nat.reduceLT, Nat.reduceAdd] at g ⊢
    exact g
  | d + 1, k, M, x4, hd, h0, hG, hj => by
    have hC : cS M N := cS_d hC0 hG.2.2 (fun l j _ _ _ _ => by rw [hG.2.1.2.1]) (fun l j q _ => hG.1 l j (fun z => q (by unfold nonX; rw [z]; simp [pk_k])))
    have hR' := hC.r
    have eN := hC.2.2.1
    have hN := eN.2.2
    have hm : 0 ≤ k ∧ k < N := by omega
    have qa := c_at hC k (by omega)
    rw [show uR N k = uA k.toNat from if_pos hm] at qa
    have uz : ¬ uA k.toNat = 0 := tg_ne (TGf.1 _) (by decide)
    have hu := hC.2.2.2.1 k hm.1 hm.2
    have ih := l_store hC0 hp Q hg d (k + 1) (wC M (knA k.toNat) 0 (pkA p.toNat) (k * 3).toNat 3) (vR (uA k.toNat)) (by omega) (by omega) ⟨fun l j q => ?_, hG.2.1, hG.2.2.wC _ _ _ _ _⟩ (fun j a b => ?_)
    · rw [HX2_store_12]
      simp (disch := first | omega | (simp only [DT, DS, ne_eq, Nat.reduceEqDiff, not_false_eq_true]; done)) only [RX2_store, eN.1, cP.e hC.1, qa, uz, TGf, hu.1.2.1, Int.reduceToNat, BW, wr_id, OM, OE, PL, ↓reduceIte, TGs, bi_T, bi_F, bi_ff, Nat.reduceLeDiff, Nat.reduceLT, Nat.reduceAdd]
      exact ih
    · have e : mA (wC M (knA k.toNat) 0 (pkA p.toNat) (k * 3).toNat 3) l j = mA M l j := if_neg (fun z => q z.1)
      rw [e]
      exact hG.1 l j q
    · show (if pkA p.toNat = pkA p.toNat ∧ (k * 3).toNat ≤ j.toNat ∧ j.toNat < (k * 3).toNat + 3 then mA M (knA k.toNat) (0 + (j.toNat - (k * 3).toNat)) else mA M (pkA p.toNat) j.toNat) = _
      by_cases e : 3 * k ≤ j
      · rw [if_pos ⟨rfl, by omega, by omega⟩]
        have g := hu.2.2.2.2.1 (j - 3 * k) (by omega) (by omega)
        rw [show 3 * k + (j - 3 * k) = j by omega, hG.1 amKn _ (pk_n (by decide))] at g
        rw [show 0 + (j.toNat - (k * 3).toNat) = (j - 3 * k).toNat by omega]
        exact g
      · rw [if_neg (by omega)]
        exact hj j a (by omega)
theorem t_keep {M : xm} {c : Int} (h : Rel M c) (p : Int) (hp : -2147483648 ≤ p ∧ p ≤ 2147483647) : Wp qX9_keep 0 [vR aX, vI p] [] M (Two c qX10_keep [vR aM, vI p, vX]) := by
  have hm' := Rel_m h (show c ≤ c + 1 by omega)
  obtain ⟨N, A, H, T, TK, rk, r1, r3, r4, r5, r6, r7, r8⟩ := id h
  have hC := r1.1
  have eN := hC.2.2.1
  have hN := eN.2.2
  have hR' := hC.r
  have q1 := c_phas (M := M) p hp
  have qs := s_keep p M hC.2.1.1 hC.2.1.2.1 hp (by rw [eN.2.1]; exact hN)
  by_cases c1 : 0 ≤ p ∧ p ≤ 7
  · simp only [bi_t c1] at q1
    have key := l_store hC c1 (cont qX9_keep 23 [vR aX, vI p] [] (Two c qX10_keep [vR aM, vI p, vX])) (fun M1 x4 hG hj => by
      have hC1 : cS M1 N := cS_d hC hG.2.2 (fun l j _ _ _ _ => by rw [hG.2.1.2.1]) (fun l j q _ => hG.1 l j (fun z => q (by unfold nonX; rw [z]; simp [pk_k])))
      have hR1 := hC1.r
      have eN1 := hC1.2.2.1
      simp (disch := first | omega | (simp only [DT, DS, ne_eq, Nat.reduceEqDiff, not_false_eq_true]; done)) only [RX2_store, RX9_keep, eN1.1, cP.e hC1.1, MM, DT, Nat.reduceEqDiff, BW, wr_id, OM, OE, PL, ↓reduceIte, TGs, bi_T, bi_F, bi_ff, Nat.reduceLeDiff, Nat.reduceLT, Nat.reduceAdd]
      have hs2 : mSt (wA M1 aPSz p.toNat N) := hC1.2.1.1
      have hR2 : inR (wA M1 aPSz p.toNat N) := hC1.2.1.2.1.wA _ _ (wr_id (by omega) (by omega))
      have e3 : mA (wA M1 aPSz p.toNat N) aM 3 = N := by rw [wA_o _ _ (fun q => absurd q.1 (by decide))]; exact eN1.2.1
      refine ⟨N, rfl, ?_⟩
      have q4 := s_keep p (wA M1 aPSz p.toNat N) hs2 hR2 hp (by rw [e3]; exact hN)
      rw [q4, if_pos c1, e3]
      have eK : ∀ j, mA (wA M1 aPSz p.toNat N) amKn j = mA M amKn j := fun j => by rw [wA_o _ _ (fun q => absurd q.1 (by decide))]; exact hG.1 _ _ (pk_n (by decide))
      have rd : ∀ l j, mA (wA (wF (wA M1 aPSz p.toNat N) amPr (72 * p).toNat (72 * p + 72).toNat (fun j => mA (wA M1 aPSz p.toNat N) amKn (j - (72 * p).toNat))) amPm p.toNat (N + 1)) l j = if l = amPm ∧ j = p.toNat then N + 1 else if l = amPr ∧ (72 * p).toNat ≤ j ∧ j < (72 * p + 72).toNat then mA M amKn (j - (72 * p).toNat) else if l = aPSz ∧ j = p.toNat then N else mA M1 l j := fun l j => by
        rw [← eK]
        rfl
      refine ⟨rfl, Rel_pr hm' ((hR2.wF _ _ _ (fun j => hR2 _ _)).wA _ _ (wr_id (by omega) (by omega))) ⟨hG.2.1.1, hG.2.1.2.1, hG.2.1.2.2.1, hG.2.1.2.2.2.1, hG.2.1.2.2.2.2⟩ (fun l j a b d e => ?_) (fun N' eN' r5' => ?_)⟩
      · rw [rd, if_neg (fun q => b q.1), if_neg (fun q => a q.1), if_neg (fun q => d q.1)]
        exact hG.1 l j (pk_n e)
      · rw [eN.2.1] at eN'
        subst eN'
        obtain ⟨f1, f2, f3⟩ := r5'
        have nopk : ∀ l, ¬ l % 274877906944 = 32231133728 → ∀ j, mA M1 l j = mA M l j := fun l q j => hG.1 l j (pk_n q)
        refine ⟨fun p' a b => ?_, fun j => ?_, fun j => ?_⟩
        · have ePm : mA (wA (wF (wA M1 aPSz p.toNat N) amPr (72 * p).toNat (72 * p + 72).toNat (fun j => mA (wA M1 aPSz p.toNat N) amKn (j - (72 * p).toNat))) amPm p.toNat (N + 1)) amPm p'.toNat = if p' = p then N + 1 else mA M amPm p'.toNat := by
            rw [rd]
            by_cases e : p' = p
            · rw [if_pos e, if_pos ⟨rfl, by rw [e]⟩]
            · rw [if_neg e, if_neg (fun q => by have := q.2; omega), if_neg (fun q => absurd q.1 (by decide)), if_neg (fun q => absurd q.1 (by decide))]
              exact nopk _ (by decide) _
          have ePs : mA (wA (wF (wA M1 aPSz p.toNat N) amPr (72 * p).toNat (72 * p + 72).toNat (fun j => mA (wA M1 aPSz p.toNat N) amKn (j - (72 * p).toNat))) amPm p.toNat (N + 1)) aPSz p'.toNat = if p' = p then N else mA M aPSz p'.toNat := by
            rw [rd, if_neg (fun q => absurd q.1 (by decide)), if_neg (fun q => absurd q.1 (by decide))]
            by_cases e : p' = p
            · rw [if_pos e, if_pos ⟨rfl, by rw [e]⟩]
            · rw [if_neg e, if_neg (fun q => by have := q.2; omega)]
              exact nopk _ (by decide) _
          obtain ⟨u1, u2, u3⟩ := f1 p' a b
          rw [ePm, ePs]
          by_cases e : p' = p
          · rw [if_pos e, if_pos e]
            refine ⟨by omega, by omega, fun j x y => ?_⟩
            subst e
            rw [rd (pkA p'.toNat), if_neg (fun q => pk_n (by decide) q.1.symm), if_neg (fun q => pk_n (by decide) q.1.symm), if_neg (fun q => pk_n (by decide) q.1.symm), hj j x (by omega), rd, if_neg (fun q => absurd q.1 (by decide)), if_pos ⟨rfl, by omega, by omega⟩, show (72 * p' + j).toNat - (72 * p').toNat = j.toNat by omega]
          · rw [if_neg e, if_neg e]
            refine ⟨u1, u2, fun j x y => ?_⟩
            have u4 := u3 j x y
            rw [rd (pkA p'.toNat), if_neg (fun q => pk_n (by decide) q.1.symm), if_neg (fun q => pk_n (by decide) q.1.symm), if_neg (fun q => pk_n (by decide) q.1.symm), hG.1 _ _ (fun q => by have := pk_e q; omega), rd, if_neg (fun q => absurd q.1 (by decide)), if_neg (fun q => by have := q.2; omega), if_neg (fun q => absurd q.1 (by decide)), nopk _ (by decide)]
            exact u4
        · rw [rd, if_neg (fun q => absurd q.1 (by decide))]
          by_cases e : (72 * p).toNat ≤ j ∧ j < (72 * p + 72).toNat
          · rw [if_pos ⟨rfl, e⟩]
            exact hC.2.1.2.2.2.2.2.1 _
          · rw [if_neg (fun q => e q.2), if_neg (fun q => absurd q.1 (by decide)), nopk _ (by decide)]
            exact f2 j
        · rw [rd]
          by_cases e : j = p.toNat
          · rw [if_pos ⟨rfl, e⟩]; omega
          · rw [if_neg (fun q => e q.2), if_neg (fun q => absurd q.1 (by decide)), if_neg (fun q => absurd q.1 (by decide)), nopk _ (by decide)]
            exact f3 j) N.toNat 0 M vX (by omega) (by omega) ⟨fun _ _ _ => rfl, ⟨rfl, rfl, rfl, rfl, rfl⟩, hC.2.1.2.1⟩ (fun j a b => by omega)
    simp (disch := first | omega | (simp only [DT, DS, ne_eq, Nat.reduceEqDiff, not_false_eq_true]; done)) only [RX9_keep, RX2_store, cP.e hC.1, q1, BW, wr_id, OM, OE, PL, ↓reduceIte, TGs, bi_T, bi_F, bi_ff, Nat.reduceLeDiff, Nat.reduceLT, Nat.reduceAdd]
    exact key
  · simp only [bi_f c1] at q1
    simp (disch := first | omega | (simp only [DT, DS, ne_eq, Nat.reduceEqDiff, not_false_eq_true]; done)) only [RX9_keep, cP.e hC.1, q1, BW, wr_id, OM, OE, PL, ↓reduceIte, TGs, bi_T, bi_F, bi_ff, Nat.reduceLeDiff, Nat.reduceLT, Nat.reduceAdd]
    refine ⟨_, rfl, ?_⟩
    rw [qs, if_neg c1]
    exact ⟨rfl, hm'⟩
/-- knobs of class and reference, set from presets: what holds of k modules -/
theorem l_restore {M0 : xm} {N p n : Int} (hC0 : cS M0 N) (hp : 0 ≤ p ∧ p ≤ 7) (en : mA M0 aPSz p.toNat = n) (hn : 0 ≤ n ∧ n ≤ N) (Q : Option xv → xm → Prop) (hg : ∀ M, iG (fun l => l % 274877906944 = 83764445408) M0 M → (∀ m k : Int, 0 ≤ m → m < N → 0 ≤ k → k ≤ 2 → mA M (knA m.toNat) k.toNat = if m < n then mA M0 (pkA p.toNat) (3 * m + k).toNat else mA M0 (knA m.toNat) k.toNat) → Q (some (vI n)) M) : ∀ (d : Nat) (i : Int) (M : xm) (x4 : xv), i + d = n → 0 ≤ i → iG (fun l => l % 274877906944 = 83764445408) M0 M → (∀ m k : Int, 0 ≤ m → m < N → 0 ≤ k → k ≤ 2 → mA M (knA m.toNat) k.toNat = if m < i then mA M0 (pkA p.toNat) (3 * m + k).toNat else mA M0 (knA m.toNat) k.toNat) → Wp qX2_restore 13 [vR aPres, vI p, vR aRack, vI i, x4] [] M Q
  | 0, i, M, x4, hd, h0, hG, hj => by
    have hP : cP M := by unfold cP; rw [hG.2.1.2.1]; exact hC0.1
    have hR' : ∀ L k, wr (mA M L k) = mA M L k := hG.2.2
    have hN := hC0.2.2.1.2.2
    have es : mA M aPSz p.toNat = n := by rw [hG.1 _ _ (by decide)]; exact en
    obtain rfl : i = n := by omega
    have g := hg M hG hj
    rw [HX2_restore_13]
    simp (disch := first | omega | (simp only [DT, DS, ne_eq, Nat.reduceEqDiff, not_false_eq_true]; done)) only [RX2_restore, cP.e hP, es, BW, wr_id, OM, OE, PL, ↓reduceIte, TGs, bi_T, bi_F, bi_ff, Nat.reduceLeDiff, Nat.reduceLT, Nat.reduceAdd]
    exact g
  | d + 1, i, M, x4, hd, h0, hG, hj => by
    have hP : cP M := by unfold cP; rw [hG.2.1.2.1]; exact hC0.1
    have hR' : ∀ L k, wr (mA M L k) = mA M L k := hG.2.2
    have eN := hC0.2.2.1
    have hN := eN.2.2
    have es : mA M aPSz p.toNat = n := by rw [hG.1 _ _ (by decide)]; exact en
    have eR : mA M aRack 0 = N := by rw [hG.1 _ _ (by decide)]; exact eN.1
    have hm : 0 ≤ i ∧ i < N := by omega
    have hu := (hC0.2.2.2.1 i hm.1 hm.2).1
    have uz : ¬ uA i.toNat = 0 := tg_ne (TGf.1 _) (by decide)
    have r1 : mR M aUnits i.toNat = uA i.toNat := by rw [hG.2.1.2.1]; exact hu.1
    have r2 : mR M (uA i.toNat) 3 = knA i.toNat := by rw [hG.2.1.2.1]; exact hu.2.1
    have qa : ∀ Q, Wp qX3_at 0 [vR aRack, vI i] [] M Q ↔ Q (some (vR (uA i.toNat))) M := fun Q => by
      simp (disch := first | omega | (simp only [DT, DS, ne_eq, Nat.reduceEqDiff, not_false_eq_true]; done)) only [RX3_at, eR, cP.e hP, r1, BW, wr_id, OM, OE, PL, ↓reduceIte, TGs, bi_T, bi_F, bi_ff, Nat.reduceLeDiff, Nat.reduceLT, Nat.reduceAdd]
    have ih := l_restore hC0 hp en hn Q hg d (i + 1) (wC M (pkA p.toNat) (i * 3).toNat (knA i.toNat) 0 3) (vR (uA i.toNat)) (by omega) (by omega) ⟨fun l j q => ?_, hG.2.1, hG.2.2.wC _ _ _ _ _⟩ (fun m k a b x y => ?_)
    · rw [HX2_restore_13]
      simp (disch := first | omega | (simp only [DT, DS, ne_eq, Nat.reduceEqDiff, not_false_eq_true]; done)) only [RX2_restore, cP.e hP, es, qa, uz, TGf, r2, Int.reduceToNat, BW, wr_id, OM, OE, PL, ↓reduceIte, TGs, bi_T, bi_F, bi_ff, Nat.reduceLeDiff, Nat.reduceLT, Nat.reduceAdd]
      exact ih
    · have e : mA (wC M (pkA p.toNat) (i * 3).toNat (knA i.toNat) 0 3) l j = mA M l j := if_neg (fun z => kn_n q z.1)
      rw [e]
      exact hG.1 l j q
    · show (if knA m.toNat = knA i.toNat ∧ 0 ≤ k.toNat ∧ k.toNat < 0 + 3 then mA M (pkA p.toNat) ((i * 3).toNat + (k.toNat - 0)) else mA M (knA m.toNat) k.toNat) = _
      by_cases e : m = i
      · rw [if_pos ⟨by rw [e], by omega, by omega⟩, if_pos (by omega), hG.1 _ _ (by unfold pkA; omega), e, show (i * 3).toNat + (k.toNat - 0) = (3 * i + k).toNat by omega]
      · rw [if_neg (fun q => by have := kn_e q.1; omega), hj m k a b x y]
        by_cases e2 : m < i
        · rw [if_pos e2, if_pos (by omega)]
        · rw [if_neg e2, if_neg (by omega)]
theorem t_recall {M : xm} {c : Int} (h : Rel M c) (p : Int) (hp : -2147483648 ≤ p ∧ p ≤ 2147483647) : Wp qX9_recall 0 [vR aX, vI p] [] M (Two c qX10_recall [vR aM, vI p, vX, vX]) := by
  have hm' := Rel_m h (show c ≤ c + 1 by omega)
  obtain ⟨N, A, H, T, TK, rk, r1, r3, r4, r5, r6, r7, r8⟩ := id h
  have hC := r1.1
  have eN := hC.2.2.1
  have hN := eN.2.2
  have hR' := hC.r
  have q1 := c_phas (M := M) p hp
  obtain ⟨f1, f2, f3⟩ := r5
  have qs := s_recall p M hC.2.1.1 hC.2.1.2.1 hp f3
  by_cases c1 : 0 ≤ p ∧ p ≤ 7
  · simp only [bi_t c1] at q1
    obtain ⟨u1, u2, u3⟩ := f1 p c1.1 c1.2
    have pb := f3 p.toNat
    by_cases c2 : mA M amPm p.toNat = 0
    · have e1 : mA M aPSz p.toNat = -1 := by omega
      simp (disch := first | omega | (simp only [DT, DS, ne_eq, Nat.reduceEqDiff, not_false_eq_true]; done)) only [RX9_recall, RX2_isUnused, cP.e hC.1, q1, e1, BW, wr_id, OM, OE, PL, ↓reduceIte, TGs, bi_T, bi_F, bi_ff, Nat.reduceLeDiff, Nat.reduceLT, Nat.reduceAdd]
      refine ⟨_, rfl, ?_⟩
      rw [qs, if_pos c1, if_pos c2]
      exact ⟨rfl, hm'⟩
    · have key := l_restore (n := mA M amPm p.toNat - 1) hC c1 u1 (by omega) (cont qX9_recall 41 [vR aX, vI p] [] (Two c qX10_recall [vR aM, vI p, vX, vX])) (fun M1 hG hj => by
        simp (disch := first | omega | (simp only [DT, DS, ne_eq, Nat.reduceEqDiff, not_false_eq_true]; done)) only [RX9_recall, BW, wr_id, OM, OE, PL, ↓reduceIte, TGs, bi_T, bi_F, bi_ff, Nat.reduceLeDiff, Nat.reduceLT, Nat.reduceAdd]
        have nk : ∀ l, ¬ l % 274877906944 = 83764445408 → ∀ j, mA M1 l j = mA M l j := fun l q j => hG.1 l j q
        have hs1 : mSt M1 := by
          have := hC.2.1.1
          unfold mSt at this ⊢
          rw [hG.2.1.2.1]
          exact this
        refine ⟨_, rfl, ?_⟩
        have q4 := s_recall p M1 hs1 hG.2.2 hp (fun j => by rw [nk _ (by decide)]; exact f3 j)
        rw [q4, if_pos c1, nk _ (by decide), if_neg c2]
        have rd : ∀ l j, mA (wF M1 amKn 0 (3 * (mA M amPm p.toNat - 1)).toNat (fun j => mA M1 amPr (j + (72 * p).toNat))) l j = if l = amKn ∧ 0 ≤ j ∧ j < (3 * (mA M amPm p.toNat - 1)).toNat then mA M amPr (j + (72 * p).toNat) else mA M1 l j := fun l j => by
          rw [← nk amPr (by decide)]
          rfl
        refine ⟨rfl, Rel_kn hm' (hG.2.2.wF _ _ _ (fun j => hG.2.2 _ _)) hG.2.1 (fun l j a b => ?_) (fun N' eN' m k m0 m1 k0 k2 => ?_) (fun j => ?_) (fun N' eN' j x y => ?_)⟩
        · rw [rd, if_neg (fun q => a q.1)]
          exact nk l b j
        · rw [eN.2.1] at eN'
          subst eN'
          rw [rd (knA m.toNat), if_neg (fun q => kn_n (by decide) q.1.symm), hj m k m0 m1 k0 k2, rd]
          by_cases e : m < mA M amPm p.toNat - 1
          · have := u3 (3 * m + k) (by omega) (by omega)
            rw [if_pos e, if_pos ⟨rfl, by omega, by omega⟩, this, show (72 * p + (3 * m + k)).toNat = (3 * m + k).toNat + (72 * p).toNat by omega]
          · rw [if_neg e, if_neg (fun q => by have := q.2; omega), nk _ (by decide)]
            exact (hC.2.2.2.1 m m0 m1).2.2.2.2.1 k k0 k2
        · rw [rd]
          split
          · exact f2 _
          · rw [nk _ (by decide)]
            exact hC.2.1.2.2.2.2.2.1 j
        · rw [eN.2.1] at eN'
          subst eN'
          rw [rd, if_neg (fun q => by have := q.2; omega), nk _ (by decide)]
          exact y) (mA M amPm p.toNat - 1).toNat 0 M vX (by omega) (by omega) ⟨fun _ _ _ => rfl, ⟨rfl, rfl, rfl, rfl, rfl⟩, hC.2.1.2.1⟩ (fun m k a b x y => by rw [if_neg (by omega)])
      simp (disch := first | omega | (simp only [DT, DS, ne_eq, Nat.reduceEqDiff, not_false_eq_true]; done)) only [RX9_recall, RX2_isUnused, RX2_restore, cP.e hC.1, q1, u1, BW, wr_id, OM, OE, PL, ↓reduceIte, TGs, bi_T, bi_F, bi_ff, Nat.reduceLeDiff, Nat.reduceLT, Nat.reduceAdd]
      exact key
  · simp only [bi_f c1] at q1
    simp (disch := first | omega | (simp only [DT, DS, ne_eq, Nat.reduceEqDiff, not_false_eq_true]; done)) only [RX9_recall, cP.e hC.1, q1, BW, wr_id, OM, OE, PL, ↓reduceIte, TGs, bi_T, bi_F, bi_ff, Nat.reduceLeDiff, Nat.reduceLT, Nat.reduceAdd]
    refine ⟨_, rfl, ?_⟩
    rw [qs, if_neg c1]
    exact ⟨rfl, hm'⟩
