/-! 71.clop: the developers' own: sample by sample (written by wip/whole/gen71.py) -/
theorem cV_s {M : xm} {m k : Int} {L V : Nat} {z : ZT} (h : cV M m L V z k) (s : Int) : cV M m L V (zP z, zK z, zO z, zU z, zN z, zM z, zV z, s) k := h
theorem n_gate {M0 : xm} {N m n : Int} {L V G : Nat} {r : Rw} (hC : cS M0 N) (hm : 0 ≤ m ∧ m < N) (en : mA M0 aBlok 7 = n) (hK : mkd M0 L V 0 n) (hG : cRw M0 G (some r)) (ho : okR r) (hGL : ¬ G = L ∧ ¬ mR M0 G 2 = V) (Q : Option xv → xm → Prop) :
    ∀ (d : Nat) (k : Int) (z : ZT) (M : xm), k + d = n → 0 ≤ k → cF M0 m L V M → cV M m L V z k → (0 ≤ zU z ∧ zU z ≤ 1) → cPost M0 m n L V Q (lpF (gatS (mA M0 amKn (3 * m).toNat) (mA M0 amKn (3 * m + 1).toNat) (rwL r) (rwN r) (rwV r)) d k z) → Wp qX0_openGate 30 [vR aBlok, vR (uA m.toNat), vR G, vR L, vI k] [] M Q
  | 0, k, z, M, hd, h0, hF, hV, hu0, hP => by
    have hR' : ∀ L k, wr (mA M L k) = mA M L k := hF.2.2.2.2.2
    have t := hK.1.1
    have hCM := hF.o.s t hC
    have hKM := hF.k hK
    have e7 : mA M aBlok 7 = n := by rw [hF.b7 t]; exact en
    have hn := hK.2.2.2.2
    have hu := hCM.2.2.2.1 m hm.1 hm.2
    have hu1 := hu.1
    rw [HX0_openGate_30]
    simp (disch := first | omega | (simp only [DT, DS, ne_eq, Nat.reduceEqDiff, not_false_eq_true]; done)) only [RX0_openGate, e7, BW, wr_id, OM, OE, PL, ↓reduceIte, TGs, bi_T, bi_F, bi_ff, Nat.reduceLeDiff, Nat.reduceLT, Nat.reduceAdd]
    obtain rfl : k = n := by omega
    exact hP M hF hV
  | d + 1, k, z, M, hd, h0, hF, hV, hu0, hP => by
    have hR' : ∀ L k, wr (mA M L k) = mA M L k := hF.2.2.2.2.2
    have t := hK.1.1
    have hCM := hF.o.s t hC
    have hKM := hF.k hK
    have e7 : mA M aBlok 7 = n := by rw [hF.b7 t]; exact en
    have hn := hK.2.2.2.2
    have hu := hCM.2.2.2.1 m hm.1 hm.2
    have hu1 := hu.1
    have hk15 : 0 ≤ k ∧ k ≤ 15 := by omega
    have hkn : 0 ≤ k ∧ k < n := by omega
    have hpw := pow_b h0 hk15.2
    obtain ⟨v1, v2, v3, v4, v5, v6, v7, v8⟩ := id hV
    have hGM := hF.o.g hG hGL
    have tG := hG.1.2
    have hl := ho.2.1
    have qe := c_ends hCM hGM ho hk15
    have qv := c_valueAt hGM ho k (by omega)
    have ql := c_lacks hGM ho k (by omega)
    have fin : ∀ (M1 : xm) (z' : ZT), cF M0 m L V M1 → cV M1 m L V z' (k + 1) → (0 ≤ zU z' ∧ zU z' ≤ 1) → gatS (mA M0 amKn (3 * m).toNat) (mA M0 amKn (3 * m + 1).toNat) (rwL r) (rwN r) (rwV r) k z = .inr z' → Wp qX0_openGate 30 [vR aBlok, vR (uA m.toNat), vR G, vR L, vI (k + 1)] [] M1 Q := fun M1 z' a1 a2 b0 a6 => n_gate hC hm en hK hG ho hGL Q d (k + 1) z' M1 (by omega) (by omega) a1 a2 b0 (by rw [lpF_r a6] at hP; exact hP)
    rw [HX0_openGate_30]
    by_cases c1 : rwL r ≤ k
    · rw [lpF_l (show gatS (mA M0 amKn (3 * m).toNat) (mA M0 amKn (3 * m + 1).toNat) (rwL r) (rwN r) (rwV r) k z = .inl 3 from if_pos c1)] at hP
      simp only [if_pos c1] at qe
      simp (disch := first | omega | (simp only [DT, DS, ne_eq, Nat.reduceEqDiff, not_false_eq_true]; done)) only [RX0_openGate, e7, tG, qe, BW, wr_id, OM, OE, PL, ↓reduceIte, TGs, bi_T, bi_F, bi_ff, Nat.reduceLeDiff, Nat.reduceLT, Nat.reduceAdd]
      exact cfail hF (by decide) (wr_id (by omega) (by omega)) hP _
    · have ev : smV (some r) k = rwV r k := by
        unfold smV
        dsimp only
        rw [if_pos (by omega)]
      have en' : noB (some r) k = bt (rwN r) k := by
        show (decide (0 ≤ k ∧ k ≤ rwL r - 1) && bt (rwN r) k) = bt (rwN r) k
        rw [decide_eq_true (show 0 ≤ k ∧ k ≤ rwL r - 1 by omega)]
        rfl
      simp only [ev] at qv
      simp only [en'] at ql
      simp only [if_neg c1] at qe
      have k0 : mA M amKn (3 * m).toNat = mA M0 amKn (3 * m).toNat := hF.o.a t _ (by decide) (by decide) (by decide)
      have k1 : mA M amKn (3 * m + 1).toNat = mA M0 amKn (3 * m + 1).toNat := hF.o.a t _ (by decide) (by decide) (by decide)
      have pe : ∀ x, ptF 0 x = x := fun x => rfl
      have ni : ∀ x, isNaN64 (FP.i2d x) = false := fun x => (mg_i x).nn (by decide)
      cases cb : bt (rwN r) k
      · simp only [cb, bi_ff] at ql
        have hub := upF_b (k0 := mA M0 amKn (3 * m).toNat) (k1 := mA M0 amKn (3 * m + 1).toNat) (rwV r k) hu0
        have qu := c_upAfter hCM hm (rwV r k)
        rw [k0, k1, v2] at qu
        have hK1 := hKM.w m.toNat 4 (upF (mA M0 amKn (3 * m).toNat) (mA M0 amKn (3 * m + 1).toNat) (zU z) (rwV r k))
        generalize hup : upF (mA M0 amKn (3 * m).toNat) (mA M0 amKn (3 * m + 1).toNat) (zU z) (rwV r k) = u at *
        simp (disch := first | omega | (simp only [DT, DS, ne_eq, Nat.reduceEqDiff, not_false_eq_true]; done)) only [RX0_openGate, e7, tG, qe, ql, qv, TGf, hu1.2.2.1, qu, t, MM, hK1.p hkn _ (ni _), pe, BW, wr_id, OM, OE, PL, ↓reduceIte, TGs, bi_T, bi_F, bi_ff, Nat.reduceLeDiff, Nat.reduceLT, Nat.reduceAdd]
        exact fin _ _ ((hF.wN (Or.inr (Or.inl rfl)) (wr_id (by omega) (by omega))).wV _ _) (cV_v (cV_u hV t u) hK.1.2 h0 _) hub (by unfold gatS; rw [if_neg c1, if_neg (by rw [cb]; decide), hup] <;> rfl)
      · simp only [cb, bi_T] at ql
        simp (disch := first | omega | (simp only [DT, DS, ne_eq, Nat.reduceEqDiff, not_false_eq_true]; done)) only [RX0_openGate, e7, tG, qe, ql, TGf, hu1.2.2.1, t, v2, hKM.p hkn _ (ni _), pe, BW, wr_id, OM, OE, PL, ↓reduceIte, TGs, bi_T, bi_F, bi_ff, Nat.reduceLeDiff, Nat.reduceLT, Nat.reduceAdd]
        exact fin _ _ (hF.wV _ _) (cV_v hV hK.1.2 h0 _) hu0 (by unfold gatS; rw [if_neg c1, if_pos cb] <;> rfl)
theorem n_shape {M0 : xm} {N m n : Int} {L V G : Nat} {r : Rw} (hC : cS M0 N) (hm : 0 ≤ m ∧ m < N) (en : mA M0 aBlok 7 = n) (hK : mkd M0 L V 4 n) (hG : cRw M0 G (some r)) (ho : okR r) (hGL : ¬ G = L ∧ ¬ mR M0 G 2 = V) (hkd : 1 ≤ mA M0 amKd m.toNat ∧ mA M0 amKd m.toNat ≤ 4) (h4 : rwK r = 4) (Q : Option xv → xm → Prop) :
    ∀ (d : Nat) (k : Int) (z : ZT) (M : xm), k + d = n → 0 ≤ k → cF M0 m L V M → cV M m L V z k → mg 1043 (zK z) → mg 1043 (zO z) → (0 ≤ zM z ∧ zM z < 2 ^ (k).toNat) → cPost M0 m n L V Q (lpF (shpS (mA M0 amKd m.toNat) (mA M0 (nowA m.toNat) 6) (mA M0 amKn (3 * m).toNat) (mA M0 amKn (3 * m + 1).toNat) (mA M0 amKn (3 * m + 2).toNat) n (rwL r) (rwN r) (rwV r)) d k z) → Wp qX0_shape 30 [vR aBlok, vR (uA m.toNat), vR G, vR L, vI k] [] M Q
  | 0, k, z, M, hd, h0, hF, hV, hkp, hol, hmk, hP => by
    have hR' : ∀ L k, wr (mA M L k) = mA M L k := hF.2.2.2.2.2
    have t := hK.1.1
    have hCM := hF.o.s t hC
    have hKM := hF.k hK
    have e7 : mA M aBlok 7 = n := by rw [hF.b7 t]; exact en
    have hn := hK.2.2.2.2
    have hu := hCM.2.2.2.1 m hm.1 hm.2
    have hu1 := hu.1
    rw [HX0_shape_30]
    simp (disch := first | omega | (simp only [DT, DS, ne_eq, Nat.reduceEqDiff, not_false_eq_true]; done)) only [RX0_shape, e7, BW, wr_id, OM, OE, PL, ↓reduceIte, TGs, bi_T, bi_F, bi_ff, Nat.reduceLeDiff, Nat.reduceLT, Nat.reduceAdd]
    obtain rfl : k = n := by omega
    exact hP M hF hV
  | d + 1, k, z, M, hd, h0, hF, hV, hkp, hol, hmk, hP => by
    have hR' : ∀ L k, wr (mA M L k) = mA M L k := hF.2.2.2.2.2
    have t := hK.1.1
    have hCM := hF.o.s t hC
    have hKM := hF.k hK
    have e7 : mA M aBlok 7 = n := by rw [hF.b7 t]; exact en
    have hn := hK.2.2.2.2
    have hu := hCM.2.2.2.1 m hm.1 hm.2
    have hu1 := hu.1
    have hk15 : 0 ≤ k ∧ k ≤ 15 := by omega
    have hkn : 0 ≤ k ∧ k < n := by omega
    have hpw := pow_b h0 hk15.2
    obtain ⟨v1, v2, v3, v4, v5, v6, v7, v8⟩ := id hV
    have hGM := hF.o.g hG hGL
    have tG := hG.1.2
    have hl := ho.2.1
    have qe := c_ends hCM hGM ho hk15
    have qv := c_valueAt hGM ho k (by omega)
    have ql := c_lacks hGM ho k (by omega)
    have fin : ∀ (M1 : xm) (z' : ZT), cF M0 m L V M1 → cV M1 m L V z' (k + 1) → mg 1043 (zK z') → mg 1043 (zO z') → (0 ≤ zM z' ∧ zM z' < 2 ^ ((k + 1)).toNat) → shpS (mA M0 amKd m.toNat) (mA M0 (nowA m.toNat) 6) (mA M0 amKn (3 * m).toNat) (mA M0 amKn (3 * m + 1).toNat) (mA M0 amKn (3 * m + 2).toNat) n (rwL r) (rwN r) (rwV r) k z = .inr z' → Wp qX0_shape 30 [vR aBlok, vR (uA m.toNat), vR G, vR L, vI (k + 1)] [] M1 Q := fun M1 z' a1 a2 b0 b1 b2 a6 => n_shape hC hm en hK hG ho hGL hkd h4 Q d (k + 1) z' M1 (by omega) (by omega) a1 a2 b0 b1 b2 (by rw [lpF_r a6] at hP; exact hP)
    rw [HX0_shape_30]
    by_cases c1 : rwL r ≤ k
    · rw [lpF_l (show shpS (mA M0 amKd m.toNat) (mA M0 (nowA m.toNat) 6) (mA M0 amKn (3 * m).toNat) (mA M0 amKn (3 * m + 1).toNat) (mA M0 amKn (3 * m + 2).toNat) n (rwL r) (rwN r) (rwV r) k z = .inl 3 from if_pos c1)] at hP
      simp only [if_pos c1] at qe
      simp (disch := first | omega | (simp only [DT, DS, ne_eq, Nat.reduceEqDiff, not_false_eq_true]; done)) only [RX0_shape, e7, tG, qe, BW, wr_id, OM, OE, PL, ↓reduceIte, TGs, bi_T, bi_F, bi_ff, Nat.reduceLeDiff, Nat.reduceLT, Nat.reduceAdd]
      exact cfail hF (by decide) (wr_id (by omega) (by omega)) hP _
    · have ev : smV (some r) k = rwV r k := by
        unfold smV
        dsimp only
        rw [if_pos (by omega)]
      have en' : noB (some r) k = bt (rwN r) k := by
        show (decide (0 ≤ k ∧ k ≤ rwL r - 1) && bt (rwN r) k) = bt (rwN r) k
        rw [decide_eq_true (show 0 ≤ k ∧ k ≤ rwL r - 1 by omega)]
        rfl
      simp only [ev] at qv
      simp only [en'] at ql
      simp only [if_neg c1] at qe
      have kk : mA M amKd m.toNat = mA M0 amKd m.toNat := hF.o.a t _ (by decide) (by decide) (by decide)
      have k0 : mA M amKn (3 * m).toNat = mA M0 amKn (3 * m).toNat := hF.o.a t _ (by decide) (by decide) (by decide)
      have k1 : mA M amKn (3 * m + 1).toNat = mA M0 amKn (3 * m + 1).toNat := hF.o.a t _ (by decide) (by decide) (by decide)
      have k2 : mA M amKn (3 * m + 2).toNat = mA M0 amKn (3 * m + 2).toNat := hF.o.a t _ (by decide) (by decide) (by decide)
      have k6 := hF.n6 t
      have pe : ∀ x, ptF 4 x = x := fun x => rfl
      have hx : mg 1043 (rwV r k) := sv_mg (ho.2.2.2.2.1 k h0 hk15.2) (by omega)
      cases cb : bt (rwN r) k
      · simp only [cb, bi_ff] at ql
        have hy := shp_mg (o0 := mA M0 (nowA m.toNat) 6) (k0 := mA M0 amKn (3 * m).toNat) (k := k) hn hx
        by_cases d1 : mA M0 amKd m.toNat = 1
        · have qs := c_shaped1 hCM hm hk15 e7 hn (rwV r k) hx (kk.trans d1)
          rw [k0, k6] at qs
          simp (disch := first | omega | (simp only [DT, DS, ne_eq, Nat.reduceEqDiff, not_false_eq_true]; done)) only [RX0_shape, e7, tG, qe, ql, qv, TGf, qs, t, hKM.p hkn _ (hy.nn (by decide)), pe, BW, wr_id, OM, OE, PL, ↓reduceIte, TGs, bi_T, bi_F, bi_ff, Nat.reduceLeDiff, Nat.reduceLT, Nat.reduceAdd]
          exact fin _ _ (hF.wV _ _) (cV_v hV hK.1.2 h0 _) hkp hol ⟨hmk.1, by show zM z < _; rw [hpw.2.2]; omega⟩ (by unfold shpS; rw [if_neg c1, if_neg (by rw [cb]; decide), if_pos d1] <;> rfl)
        · have hz := fil_mg (k1 := mA M0 amKn (3 * m + 1).toNat) hy hkp
          by_cases d4 : mA M0 amKd m.toNat = 4
          · have qs := c_shaped4 hCM hm hk15 e7 hn (rwV r k) hx (by rw [v4]; exact hkp) (by rw [v5]; exact hol) (kk.trans d4)
            rw [k0, k1, k2, k6, v4, v5] at qs
            have qs2 := fun Q => qs Q rfl rfl
            have hlt := lat_mg hz hol
            have hod := old_mg (k2 := mA M0 amKn (3 * m + 2).toNat) hz
            have hst : shpS (mA M0 amKd m.toNat) (mA M0 (nowA m.toNat) 6) (mA M0 amKn (3 * m).toNat) (mA M0 amKn (3 * m + 1).toNat) (mA M0 amKn (3 * m + 2).toNat) n (rwL r) (rwN r) (rwV r) k z = .inr (zP z, (hdF (FP.dadd (hdF (FP.dmul (gnF (mA M0 (nowA m.toNat) 6) (mA M0 amKn (3 * m).toNat) k n) (rwV r k))) (FP.dmul (zK z) (FP.ddiv (FP.i2d (Int32.ofInt (mA M0 amKn (3 * m + 1).toNat))) 4620693217682128896)))), (hdF (FP.dmul (hdF (FP.dadd (hdF (FP.dmul (gnF (mA M0 (nowA m.toNat) 6) (mA M0 amKn (3 * m).toNat) k n) (rwV r k))) (FP.dmul (zK z) (FP.ddiv (FP.i2d (Int32.ofInt (mA M0 amKn (3 * m + 1).toNat))) 4620693217682128896)))) (FP.ddiv (FP.i2d (Int32.ofInt (mA M0 amKn (3 * m + 2).toNat))) 4620693217682128896))), zU z, zN z, zM z, upV (zV z) k.toNat (hdF (FP.dadd (hdF (FP.dadd (hdF (FP.dmul (gnF (mA M0 (nowA m.toNat) 6) (mA M0 amKn (3 * m).toNat) k n) (rwV r k))) (FP.dmul (zK z) (FP.ddiv (FP.i2d (Int32.ofInt (mA M0 amKn (3 * m + 1).toNat))) 4620693217682128896)))) (zO z))), zS z) := by
              unfold shpS
              rw [if_neg c1, if_neg (by rw [cb]; decide), if_neg d1, if_pos d4]
            generalize hdF (FP.dmul (gnF (mA M0 (nowA m.toNat) 6) (mA M0 amKn (3 * m).toNat) k n) (rwV r k)) = y at *
            generalize hdF (FP.dadd y (FP.dmul (zK z) (FP.ddiv (FP.i2d (Int32.ofInt (mA M0 amKn (3 * m + 1).toNat))) 4620693217682128896))) = w at *
            generalize hdF (FP.dmul w (FP.ddiv (FP.i2d (Int32.ofInt (mA M0 amKn (3 * m + 2).toNat))) 4620693217682128896)) = o at *
            have hK2 : mkd (wB (wB M (nowA m.toNat) 2 w) (nowA m.toNat) 3 o) L V 4 n := hKM
            simp (disch := first | omega | (simp only [DT, DS, ne_eq, Nat.reduceEqDiff, not_false_eq_true]; done)) only [RX0_shape, e7, tG, qe, ql, qv, TGf, qs2, t, hK2.p hkn _ (hlt.nn (by decide)), pe, BW, wr_id, OM, OE, PL, ↓reduceIte, TGs, bi_T, bi_F, bi_ff, Nat.reduceLeDiff, Nat.reduceLT, Nat.reduceAdd]
            exact fin _ _ (((hF.wD (Or.inl rfl)).wD (Or.inr rfl)).wV _ _) (cV_v (cV_o (cV_k hV hK.1.2 w) hK.1.2 o) hK.1.2 h0 _) hz hod ⟨hmk.1, by show zM z < _; rw [hpw.2.2]; omega⟩ hst
          · have qs := c_shaped2 hCM hm hk15 e7 hn (rwV r k) hx (by rw [v4]; exact hkp) (by rw [kk]; omega)
            rw [k0, k1, k6, v4] at qs
            have hst : shpS (mA M0 amKd m.toNat) (mA M0 (nowA m.toNat) 6) (mA M0 amKn (3 * m).toNat) (mA M0 amKn (3 * m + 1).toNat) (mA M0 amKn (3 * m + 2).toNat) n (rwL r) (rwN r) (rwV r) k z = .inr (zP z, (hdF (FP.dadd (hdF (FP.dmul (gnF (mA M0 (nowA m.toNat) 6) (mA M0 amKn (3 * m).toNat) k n) (rwV r k))) (FP.dmul (zK z) (FP.ddiv (FP.i2d (Int32.ofInt (mA M0 amKn (3 * m + 1).toNat))) 4620693217682128896)))), zO z, zU z, zN z, zM z, upV (zV z) k.toNat (hdF (FP.dadd (hdF (FP.dmul (gnF (mA M0 (nowA m.toNat) 6) (mA M0 amKn (3 * m).toNat) k n) (rwV r k))) (FP.dmul (zK z) (FP.ddiv (FP.i2d (Int32.ofInt (mA M0 amKn (3 * m + 1).toNat))) 4620693217682128896)))), zS z) := by
              unfold shpS
              rw [if_neg c1, if_neg (by rw [cb]; decide), if_neg d1, if_neg d4]
            generalize hdF (FP.dadd (hdF (FP.dmul (gnF (mA M0 (nowA m.toNat) 6) (mA M0 amKn (3 * m).toNat) k n) (rwV r k))) (FP.dmul (zK z) (FP.ddiv (FP.i2d (Int32.ofInt (mA M0 amKn (3 * m + 1).toNat))) 4620693217682128896))) = w at *
            have hK2 : mkd (wB M (nowA m.toNat) 2 w) L V 4 n := hKM
            simp (disch := first | omega | (simp only [DT, DS, ne_eq, Nat.reduceEqDiff, not_false_eq_true]; done)) only [RX0_shape, e7, tG, qe, ql, qv, TGf, qs, t, hK2.p hkn _ (hz.nn (by decide)), pe, BW, wr_id, OM, OE, PL, ↓reduceIte, TGs, bi_T, bi_F, bi_ff, Nat.reduceLeDiff, Nat.reduceLT, Nat.reduceAdd]
            exact fin _ _ ((hF.wD (Or.inl rfl)).wV _ _) (cV_v (cV_k hV hK.1.2 w) hK.1.2 h0 _) hz hol ⟨hmk.1, by show zM z < _; rw [hpw.2.2]; omega⟩ hst
      · simp only [cb, bi_T] at ql
        simp (disch := first | omega | (simp only [DT, DS, ne_eq, Nat.reduceEqDiff, not_false_eq_true]; done)) only [RX0_shape, e7, tG, qe, ql, TGf, t, c_putNo t hKM.2.1.2 v6 (by omega) k hkn hmk, BW, wr_id, OM, OE, PL, ↓reduceIte, TGs, bi_T, bi_F, bi_ff, Nat.reduceLeDiff, Nat.reduceLT, Nat.reduceAdd]
        exact fin _ _ (hF.wL t (wr_id (by omega) (by omega))) (cV_z (cV_m hV t (zM z + 2 ^ k.toNat)) h0) hkp hol ⟨by show 0 ≤ zM z + _; omega, by show zM z + _ < _; rw [hpw.2.2]; omega⟩ (by unfold shpS; rw [if_neg c1, if_pos cb] <;> rfl)
theorem n_mean {M0 : xm} {N m n : Int} {L V G : Nat} {r : Rw} (hC : cS M0 N) (hm : 0 ≤ m ∧ m < N) (en : mA M0 aBlok 7 = n) (hK : mkd M0 L V 2 n) (hG : cRw M0 G (some r)) (ho : okR r) (hGL : ¬ G = L ∧ ¬ mR M0 G 2 = V) (h4 : rwK r = 2) (Q : Option xv → xm → Prop) :
    ∀ (d : Nat) (k : Int) (z : ZT) (M : xm) (x7 : xv), k + d = n → 0 ≤ k → cF M0 m L V M → cV M m L V z k → (0 ≤ zN z ∧ zN z ≤ 1000000 + k) → (-2147483648 * k ≤ zS z ∧ zS z ≤ 2147483648 * k) → cPost M0 m n L V Q (lpF (menS (mA M0 amKn (3 * m).toNat) (rwL r) (rwV r)) d k z) → Wp qX0_average 33 [vR aBlok, vR (uA m.toNat), vR G, vR L, vJ (zS z), vX, vI k, x7] [] M Q
  | 0, k, z, M, x7, hd, h0, hF, hV, hsa, hsu, hP => by
    have hR' : ∀ L k, wr (mA M L k) = mA M L k := hF.2.2.2.2.2
    have t := hK.1.1
    have hCM := hF.o.s t hC
    have hKM := hF.k hK
    have e7 : mA M aBlok 7 = n := by rw [hF.b7 t]; exact en
    have hn := hK.2.2.2.2
    have hu := hCM.2.2.2.1 m hm.1 hm.2
    have hu1 := hu.1
    rw [HX0_average_33]
    simp (disch := first | omega | (simp only [DT, DS, ne_eq, Nat.reduceEqDiff, not_false_eq_true]; done)) only [RX0_average, e7, BW, wr_id, OM, OE, PL, ↓reduceIte, TGs, bi_T, bi_F, bi_ff, Nat.reduceLeDiff, Nat.reduceLT, Nat.reduceAdd]
    obtain rfl : k = n := by omega
    exact hP M hF hV
  | d + 1, k, z, M, x7, hd, h0, hF, hV, hsa, hsu, hP => by
    have hR' : ∀ L k, wr (mA M L k) = mA M L k := hF.2.2.2.2.2
    have t := hK.1.1
    have hCM := hF.o.s t hC
    have hKM := hF.k hK
    have e7 : mA M aBlok 7 = n := by rw [hF.b7 t]; exact en
    have hn := hK.2.2.2.2
    have hu := hCM.2.2.2.1 m hm.1 hm.2
    have hu1 := hu.1
    have hk15 : 0 ≤ k ∧ k ≤ 15 := by omega
    have hkn : 0 ≤ k ∧ k < n := by omega
    have hpw := pow_b h0 hk15.2
    obtain ⟨v1, v2, v3, v4, v5, v6, v7, v8⟩ := id hV
    have hGM := hF.o.g hG hGL
    have tG := hG.1.2
    have hl := ho.2.1
    have qe := c_ends hCM hGM ho hk15
    have qv := c_valueAt hGM ho k (by omega)
    have ql := c_lacks hGM ho k (by omega)
    have fin : ∀ (M1 : xm) (y7 : xv) (z' : ZT), cF M0 m L V M1 → cV M1 m L V z' (k + 1) → (0 ≤ zN z' ∧ zN z' ≤ 1000000 + (k + 1)) → (-2147483648 * (k + 1) ≤ zS z' ∧ zS z' ≤ 2147483648 * (k + 1)) → menS (mA M0 amKn (3 * m).toNat) (rwL r) (rwV r) k z = .inr z' → Wp qX0_average 33 [vR aBlok, vR (uA m.toNat), vR G, vR L, vJ (zS z'), vX, vI (k + 1), y7] [] M1 Q := fun M1 y7 z' a1 a2 b0 b1 a6 => n_mean hC hm en hK hG ho hGL h4 Q d (k + 1) z' M1 y7 (by omega) (by omega) a1 a2 b0 b1 (by rw [lpF_r a6] at hP; exact hP)
    rw [HX0_average_33]
    by_cases c1 : rwL r ≤ k
    · rw [lpF_l (show menS (mA M0 amKn (3 * m).toNat) (rwL r) (rwV r) k z = .inl 3 from if_pos c1)] at hP
      simp only [if_pos c1] at qe
      simp (disch := first | omega | (simp only [DT, DS, ne_eq, Nat.reduceEqDiff, not_false_eq_true]; done)) only [RX0_average, e7, tG, qe, BW, wr_id, OM, OE, PL, ↓reduceIte, TGs, bi_T, bi_F, bi_ff, Nat.reduceLeDiff, Nat.reduceLT, Nat.reduceAdd]
      exact cfail hF (by decide) (wr_id (by omega) (by omega)) hP _
    · have ev : smV (some r) k = rwV r k := by
        unfold smV
        dsimp only
        rw [if_pos (by omega)]
      have en' : noB (some r) k = bt (rwN r) k := by
        show (decide (0 ≤ k ∧ k ≤ rwL r - 1) && bt (rwN r) k) = bt (rwN r) k
        rw [decide_eq_true (show 0 ≤ k ∧ k ≤ rwL r - 1 by omega)]
        rfl
      simp only [ev] at qv
      simp only [en'] at ql
      simp only [if_neg c1] at qe
      have k0 : mA M amKn (3 * m).toNat = mA M0 amKn (3 * m).toNat := hF.o.a t _ (by decide) (by decide) (by decide)
      have kn0 := hu.2.2.2.2.1 0 (by omega) (by omega)
      rw [show 3 * m + 0 = 3 * m by omega, show (0 : Int).toNat = 0 from rfl, k0] at kn0
      have kb := hC.2.1.2.2.2.2.2.1 (3 * m).toNat
      have pe : ∀ x, ptF 2 x = x := fun x => rfl
      have ni : ∀ x, isNaN64 (FP.i2d x) = false := fun x => (mg_i x).nn (by decide)
      have hr := sv_in (ho.2.2.2.2.1 k h0 hk15.2) (show rwK r < 3 by omega)
      by_cases c2 : k + mA M0 amKn (3 * m).toNat = 0
      · rw [lpF_l (show menS (mA M0 amKn (3 * m).toNat) (rwL r) (rwV r) k z = .inl 5 by unfold menS; rw [if_neg c1, if_pos c2])] at hP
        simp (disch := first | omega | (simp only [DT, DS, ne_eq, Nat.reduceEqDiff, not_false_eq_true]; done)) only [RX0_average, e7, tG, qe, qv, TGf, hu1.2.1, Int.reduceToNat, kn0, c_fail hCM (f := 5) (s := k) (by decide) (wr_id (by omega) (by omega)), BW, wr_id, OM, OE, PL, ↓reduceIte, TGs, bi_T, bi_F, bi_ff, Nat.reduceLeDiff, Nat.reduceLT, Nat.reduceAdd]
        exact cfail hF (by decide) (wr_id (by omega) (by omega)) hP _
      · have hfs := menS_r (k0 := mA M0 amKn (3 * m).toNat) (vs := rwV r) (z := z) c1 c2
        generalize hv : (FP.d2l (rwV r k)).toInt = v at hr hfs
        have htd := tdiv_b (a := zS z + v) (b := k + mA M0 amKn (3 * m).toNat) (H := 68719476736) (by omega) (by omega) (by omega)
        have hsb : 0 ≤ mA M (nowA m.toNat) 5 ∧ mA M (nowA m.toNat) 5 ≤ 1000000000 := by rw [v3]; omega
        have hw := c_held32 (M := M) (TGf.2.2.2.2.1 m.toNat) ((zS z + v).tdiv (k + mA M0 amKn (3 * m).toNat)) (by omega) hsb
        rw [v3] at hw
        have hb := si_b 2147483647 ((zS z + v).tdiv (k + mA M0 amKn (3 * m).toNat))
        have hK1 := hKM.w m.toNat 5 (zN z + si 2147483647 ((zS z + v).tdiv (k + mA M0 amKn (3 * m).toNat)))
        simp (disch := first | omega | (simp only [DT, DS, ne_eq, Nat.reduceEqDiff, not_false_eq_true]; done)) only [RX0_average, e7, tG, qe, qv, TGf, hu1.2.1, hu1.2.2.1, Int.reduceToNat, kn0, hv, w64_id, t, hw, hK1.p hkn _ (ni _), pe, BW, wr_id, OM, OE, PL, ↓reduceIte, TGs, bi_T, bi_F, bi_ff, Nat.reduceLeDiff, Nat.reduceLT, Nat.reduceAdd]
        exact fin _ _ _ ((hF.wN (Or.inr (Or.inr rfl)) (wr_id (by omega) (by omega))).wV _ _) (cV_s (cV_v (cV_n hV t (zN z + si 2147483647 ((zS z + v).tdiv (k + mA M0 amKn (3 * m).toNat)))) hK.1.2 h0 _) (zS z + v)) ⟨by show 0 ≤ zN z + _; omega, by show zN z + _ ≤ _; omega⟩ ⟨by show _ ≤ zS z + v; omega, by show zS z + v ≤ _; omega⟩ hfs
theorem n_turn {M0 : xm} {N m n : Int} {L V G : Nat} {r : Rw} (hC : cS M0 N) (hm : 0 ≤ m ∧ m < N) (en : mA M0 aBlok 7 = n) (hK : mkd M0 L V (mA M0 amRk m.toNat) n) (hG : cRw M0 G (some r)) (ho : okR r) (hGL : ¬ G = L ∧ ¬ mR M0 G 2 = V) (Q : Option xv → xm → Prop) :
    ∀ (d : Nat) (k : Int) (z : ZT) (M : xm), k + d = n → 0 ≤ k → cF M0 m L V M → cV M m L V z k → (0 ≤ zN z ∧ zN z ≤ 1000000 + k) → (0 ≤ zM z ∧ zM z < 2 ^ (k).toNat) → cPost M0 m n L V Q (lpF (trnS (decide (3 ≤ rwK r)) (mA M0 amRk m.toNat) (rwL r) (rwN r) (rwV r)) d k z) → Wp qX0_turn 33 [vR aBlok, vR (uA m.toNat), vR G, vR L, vI k] [] M Q
  | 0, k, z, M, hd, h0, hF, hV, hsa, hmk, hP => by
    have hR' : ∀ L k, wr (mA M L k) = mA M L k := hF.2.2.2.2.2
    have t := hK.1.1
    have hCM := hF.o.s t hC
    have hKM := hF.k hK
    have e7 : mA M aBlok 7 = n := by rw [hF.b7 t]; exact en
    have hn := hK.2.2.2.2
    have hu := hCM.2.2.2.1 m hm.1 hm.2
    have hu1 := hu.1
    rw [HX0_turn_33]
    simp (disch := first | omega | (simp only [DT, DS, ne_eq, Nat.reduceEqDiff, not_false_eq_true]; done)) only [RX0_turn, e7, BW, wr_id, OM, OE, PL, ↓reduceIte, TGs, bi_T, bi_F, bi_ff, Nat.reduceLeDiff, Nat.reduceLT, Nat.reduceAdd]
    obtain rfl : k = n := by omega
    exact hP M hF hV
  | d + 1, k, z, M, hd, h0, hF, hV, hsa, hmk, hP => by
    have hR' : ∀ L k, wr (mA M L k) = mA M L k := hF.2.2.2.2.2
    have t := hK.1.1
    have hCM := hF.o.s t hC
    have hKM := hF.k hK
    have e7 : mA M aBlok 7 = n := by rw [hF.b7 t]; exact en
    have hn := hK.2.2.2.2
    have hu := hCM.2.2.2.1 m hm.1 hm.2
    have hu1 := hu.1
    have hk15 : 0 ≤ k ∧ k ≤ 15 := by omega
    have hkn : 0 ≤ k ∧ k < n := by omega
    have hpw := pow_b h0 hk15.2
    obtain ⟨v1, v2, v3, v4, v5, v6, v7, v8⟩ := id hV
    have hGM := hF.o.g hG hGL
    have tG := hG.1.2
    have hl := ho.2.1
    have qe := c_ends hCM hGM ho hk15
    have qv := c_valueAt hGM ho k (by omega)
    have ql := c_lacks hGM ho k (by omega)
    have fin : ∀ (M1 : xm) (z' : ZT), cF M0 m L V M1 → cV M1 m L V z' (k + 1) → (0 ≤ zN z' ∧ zN z' ≤ 1000000 + (k + 1)) → (0 ≤ zM z' ∧ zM z' < 2 ^ ((k + 1)).toNat) → trnS (decide (3 ≤ rwK r)) (mA M0 amRk m.toNat) (rwL r) (rwN r) (rwV r) k z = .inr z' → Wp qX0_turn 33 [vR aBlok, vR (uA m.toNat), vR G, vR L, vI (k + 1)] [] M1 Q := fun M1 z' a1 a2 b0 b1 a6 => n_turn hC hm en hK hG ho hGL Q d (k + 1) z' M1 (by omega) (by omega) a1 a2 b0 b1 (by rw [lpF_r a6] at hP; exact hP)
    rw [HX0_turn_33]
    by_cases c1 : rwL r ≤ k
    · rw [lpF_l (show trnS (decide (3 ≤ rwK r)) (mA M0 amRk m.toNat) (rwL r) (rwN r) (rwV r) k z = .inl 3 from if_pos c1)] at hP
      simp only [if_pos c1] at qe
      simp (disch := first | omega | (simp only [DT, DS, ne_eq, Nat.reduceEqDiff, not_false_eq_true]; done)) only [RX0_turn, e7, tG, qe, BW, wr_id, OM, OE, PL, ↓reduceIte, TGs, bi_T, bi_F, bi_ff, Nat.reduceLeDiff, Nat.reduceLT, Nat.reduceAdd]
      exact cfail hF (by decide) (wr_id (by omega) (by omega)) hP _
    · have ev : smV (some r) k = rwV r k := by
        unfold smV
        dsimp only
        rw [if_pos (by omega)]
      have en' : noB (some r) k = bt (rwN r) k := by
        show (decide (0 ≤ k ∧ k ≤ rwL r - 1) && bt (rwN r) k) = bt (rwN r) k
        rw [decide_eq_true (show 0 ≤ k ∧ k ≤ rwL r - 1 by omega)]
        rfl
      simp only [ev] at qv
      simp only [en'] at ql
      simp only [if_neg c1] at qe
      have hrk := hC.2.1.2.2.2.2.1 m.toNat
      have hsv := ho.2.2.2.2.1 k h0 hk15.2
      have hsb : 0 ≤ mA M (nowA m.toNat) 5 ∧ mA M (nowA m.toNat) 5 ≤ 1000000000 := by rw [v3]; omega
      have qi := c_isFloating (M := M) tG hGM.2.1.1 ho.1
      have wsb := ws_b (mA M0 amRk m.toNat) (FP.d2l (rwV r k)).toInt
      have fsb := fs_b (mA M0 amRk m.toNat) (rwV r k)
      by_cases c3 : 3 ≤ rwK r
      · simp only [bi_t c3] at qi
        have qf := c_putFloating hCM hm hKM hkn v6 hmk hGM ho c3 (by omega) hsb
        rw [v3] at qf
        cases cb : bt (rwN r) k
        · simp only [cb, Bool.false_eq_true, and_false, if_false] at qf
          simp (disch := first | omega | (simp only [DT, DS, ne_eq, Nat.reduceEqDiff, not_false_eq_true]; done)) only [RX0_turn, e7, tG, qe, qi, TGf, t, qf, BW, wr_id, OM, OE, PL, ↓reduceIte, TGs, bi_T, bi_F, bi_ff, Nat.reduceLeDiff, Nat.reduceLT, Nat.reduceAdd]
          exact fin _ _ ((hF.wN (Or.inr (Or.inr rfl)) (wr_id (by omega) (by omega))).wV _ _) (cV_v (cV_n hV t (zN z + fsF (mA M0 amRk m.toNat) (rwV r k))) hK.1.2 h0 _) ⟨by show 0 ≤ zN z + _; omega, by show zN z + _ ≤ _; omega⟩ ⟨hmk.1, by show zM z < _; rw [hpw.2.2]; omega⟩ (by unfold trnS; rw [if_neg c1, if_neg (by rw [cb]; decide), if_pos (decide_eq_true c3)] <;> rfl)
        · simp only [cb, and_true] at qf
          by_cases c4 : 3 ≤ mA M0 amRk m.toNat
          · simp only [if_pos c4] at qf
            simp (disch := first | omega | (simp only [DT, DS, ne_eq, Nat.reduceEqDiff, not_false_eq_true]; done)) only [RX0_turn, e7, tG, qe, qi, TGf, t, qf, BW, wr_id, OM, OE, PL, ↓reduceIte, TGs, bi_T, bi_F, bi_ff, Nat.reduceLeDiff, Nat.reduceLT, Nat.reduceAdd]
            exact fin _ _ (hF.wL t (wr_id (by omega) (by omega))) (cV_z (cV_m hV t (zM z + 2 ^ k.toNat)) h0) ⟨hsa.1, by show zN z ≤ _; omega⟩ ⟨by show 0 ≤ zM z + _; omega, by show zM z + _ < _; rw [hpw.2.2]; omega⟩ (by unfold trnS; rw [if_neg c1, if_pos cb, if_pos c4] <;> rfl)
          · simp only [if_neg c4] at qf
            have e0 : rwV r k = 0 := ho.2.2.2.2.2 k h0 hk15.2 (Or.inl cb)
            have f0 := fv_0 (kd := mA M0 amRk m.toNat) (by omega)
            rw [e0, f0.1, f0.2, Int.add_zero] at qf
            simp (disch := first | omega | (simp only [DT, DS, ne_eq, Nat.reduceEqDiff, not_false_eq_true]; done)) only [RX0_turn, e7, tG, qe, qi, TGf, t, qf, BW, wr_id, OM, OE, PL, ↓reduceIte, TGs, bi_T, bi_F, bi_ff, Nat.reduceLeDiff, Nat.reduceLT, Nat.reduceAdd]
            exact fin _ _ ((hF.wN (Or.inr (Or.inr rfl)) (wr_id (by omega) (by omega))).wV _ _) (cV_v (cV_n hV t (zN z)) hK.1.2 h0 0) ⟨hsa.1, by show zN z ≤ _; omega⟩ ⟨hmk.1, by show zM z < _; rw [hpw.2.2]; omega⟩ (by unfold trnS; rw [if_neg c1, if_pos cb, if_neg c4, Int.add_zero] <;> rfl)
      · simp only [bi_f c3] at qi
        have cb : bt (rwN r) k = false := by
          rw [ho.2.2.2.1 (by omega)]
          exact bt_0 k hk15
        have hr := sv_in hsv (show rwK r < 3 by omega)
        have ei := d2i_w hsv (show rwK r < 3 by omega)
        have qw := c_putWhole hCM hm hKM hkn (FP.d2i (rwV r k)).toInt (by omega) hsb
        rw [ei, v3] at qw
        simp (disch := first | omega | (simp only [DT, DS, ne_eq, Nat.reduceEqDiff, not_false_eq_true]; done)) only [RX0_turn, e7, tG, qe, qi, qv, TGf, t, ei, qw, BW, wr_id, OM, OE, PL, ↓reduceIte, TGs, bi_T, bi_F, bi_ff, Nat.reduceLeDiff, Nat.reduceLT, Nat.reduceAdd]
        exact fin _ _ ((hF.wN (Or.inr (Or.inr rfl)) (wr_id (by omega) (by omega))).wV _ _) (cV_v (cV_n hV t (zN z + wsF (mA M0 amRk m.toNat) (FP.d2l (rwV r k)).toInt)) hK.1.2 h0 _) ⟨by show 0 ≤ zN z + _; omega, by show zN z + _ ≤ _; omega⟩ ⟨hmk.1, by show zM z < _; rw [hpw.2.2]; omega⟩ (by unfold trnS; rw [if_neg c1, if_neg (by rw [cb]; decide), if_neg (by rw [decide_eq_false c3]; decide)] <;> rfl)
theorem n_source {M0 : xm} {N m n : Int} {L V : Nat} (hC : cS M0 N) (hm : 0 ≤ m ∧ m < N) (en : mA M0 aBlok 7 = n) (hK : mkd M0 L V (mA M0 amRk m.toNat) n) {t0 : Int} (hT : cTb M0) (ht0 : -2147483648 ≤ t0 ∧ t0 ≤ 2147483647) (htn : 0 ≤ tlF M0 t0) (Q : Option xv → xm → Prop) :
    ∀ (d : Nat) (k : Int) (z : ZT) (M : xm), k + d = n → 0 ≤ k → cF M0 m L V M → cV M m L V z k → 0 ≤ zP z → (0 ≤ zN z ∧ zN z ≤ 1000000 + k) → (0 ≤ zM z ∧ zM z < 2 ^ (k).toNat) → cPost M0 m n L V Q (lpF (srcS (tlF M0 t0) (mA M0 amKn (3 * m + 1).toNat) (mA M0 amRk m.toNat) (fun j => mA M0 amTb (16 * t0 + (j : Int)).toNat)) d k z) → Wp qX0_playTable 54 [vR aBlok, vR (uA m.toNat), vI t0, vI (tlF M0 t0), vR L, vI k] [] M Q
  | 0, k, z, M, hd, h0, hF, hV, hp0, hsa, hmk, hP => by
    have hR' : ∀ L k, wr (mA M L k) = mA M L k := hF.2.2.2.2.2
    have t := hK.1.1
    have hCM := hF.o.s t hC
    have hKM := hF.k hK
    have e7 : mA M aBlok 7 = n := by rw [hF.b7 t]; exact en
    have hn := hK.2.2.2.2
    have hu := hCM.2.2.2.1 m hm.1 hm.2
    have hu1 := hu.1
    rw [HX0_playTable_54]
    simp (disch := first | omega | (simp only [DT, DS, ne_eq, Nat.reduceEqDiff, not_false_eq_true]; done)) only [RX0_playTable, e7, BW, wr_id, OM, OE, PL, ↓reduceIte, TGs, bi_T, bi_F, bi_ff, Nat.reduceLeDiff, Nat.reduceLT, Nat.reduceAdd]
    obtain rfl : k = n := by omega
    exact hP M hF hV
  | d + 1, k, z, M, hd, h0, hF, hV, hp0, hsa, hmk, hP => by
    have hR' : ∀ L k, wr (mA M L k) = mA M L k := hF.2.2.2.2.2
    have t := hK.1.1
    have hCM := hF.o.s t hC
    have hKM := hF.k hK
    have e7 : mA M aBlok 7 = n := by rw [hF.b7 t]; exact en
    have hn := hK.2.2.2.2
    have hu := hCM.2.2.2.1 m hm.1 hm.2
    have hu1 := hu.1
    have hk15 : 0 ≤ k ∧ k ≤ 15 := by omega
    have hkn : 0 ≤ k ∧ k < n := by omega
    have hpw := pow_b h0 hk15.2
    obtain ⟨v1, v2, v3, v4, v5, v6, v7, v8⟩ := id hV
    have fin : ∀ (M1 : xm) (z' : ZT), cF M0 m L V M1 → cV M1 m L V z' (k + 1) → 0 ≤ zP z' → (0 ≤ zN z' ∧ zN z' ≤ 1000000 + (k + 1)) → (0 ≤ zM z' ∧ zM z' < 2 ^ ((k + 1)).toNat) → srcS (tlF M0 t0) (mA M0 amKn (3 * m + 1).toNat) (mA M0 amRk m.toNat) (fun j => mA M0 amTb (16 * t0 + (j : Int)).toNat) k z = .inr z' → Wp qX0_playTable 54 [vR aBlok, vR (uA m.toNat), vI t0, vI (tlF M0 t0), vR L, vI (k + 1)] [] M1 Q := fun M1 z' a1 a2 b0 b1 b2 a6 => n_source hC hm en hK hT ht0 htn Q d (k + 1) z' M1 (by omega) (by omega) a1 a2 b0 b1 b2 (by rw [lpF_r a6] at hP; exact hP)
    rw [HX0_playTable_54]
    have hTM := hF.o.t t hT
    have etl : tlF M t0 = tlF M0 t0 := by
      unfold tlF
      rw [hF.o.a t _ (by decide) (by decide) (by decide)]
    have k1 : mA M amKn (3 * m + 1).toNat = mA M0 amKn (3 * m + 1).toNat := hF.o.a t _ (by decide) (by decide) (by decide)
    have kn1 := hu.2.2.2.2.1 1 (by omega) (by omega)
    rw [show (1 : Int).toNat = 1 from rfl, k1] at kn1
    have kb := hC.2.1.2.2.2.2.2.1 (3 * m + 1).toNat
    have hrk := hC.2.1.2.2.2.2.1 m.toNat
    have tlb := tlF_b (t := t0) hC
    have hpr : -2147483648 ≤ zP z ∧ zP z ≤ 2147483647 := by rw [← v1]; exact hF.2.2.2.2.2.b _ _
    by_cases c1 : tlF M0 t0 = 0
    · rw [lpF_l (show srcS (tlF M0 t0) (mA M0 amKn (3 * m + 1).toNat) (mA M0 amRk m.toNat) (fun j => mA M0 amTb (16 * t0 + (j : Int)).toNat) k z = .inl 5 from if_pos c1)] at hP
      simp (disch := first | omega | (simp only [DT, DS, ne_eq, Nat.reduceEqDiff, not_false_eq_true]; done)) only [RX0_playTable, e7, c1, c_fail hCM (f := 5) (s := k) (by decide) (wr_id (by omega) (by omega)), BW, wr_id, OM, OE, PL, ↓reduceIte, TGs, bi_T, bi_F, bi_ff, Nat.reduceLeDiff, Nat.reduceLT, Nat.reduceAdd]
      exact cfail hF (by decide) (wr_id (by omega) (by omega)) hP _
    · have qp := c_hasPlace hCM hTM t0 (zP z) ht0 hpr
      rw [etl] at qp
      by_cases c2 : tlF M0 t0 ≤ zP z
      · rw [lpF_l (show srcS (tlF M0 t0) (mA M0 amKn (3 * m + 1).toNat) (mA M0 amRk m.toNat) (fun j => mA M0 amTb (16 * t0 + (j : Int)).toNat) k z = .inl 3 by unfold srcS; rw [if_neg c1, if_pos c2])] at hP
        simp only [bi_f (show ¬ (0 ≤ zP z ∧ zP z < tlF M0 t0) by omega)] at qp
        simp (disch := first | omega | (simp only [DT, DS, ne_eq, Nat.reduceEqDiff, not_false_eq_true]; done)) only [RX0_playTable, e7, cP.e hCM.1, TGf, hu1.2.2.1, v1, qp, c_fail hCM (f := 3) (s := k) (by decide) (wr_id (by omega) (by omega)), BW, wr_id, OM, OE, PL, ↓reduceIte, TGs, bi_T, bi_F, bi_ff, Nat.reduceLeDiff, Nat.reduceLT, Nat.reduceAdd]
        exact cfail hF (by decide) (wr_id (by omega) (by omega)) hP _
      · simp only [bi_t (show 0 ≤ zP z ∧ zP z < tlF M0 t0 by omega)] at qp
        have qa := c_tat hCM hTM t0 (zP z) ht0 (by rw [etl]; omega)
        have etb : mA M amTb (16 * t0 + zP z).toNat = mA M0 amTb (16 * t0 + ((zP z).toNat : Int)).toNat := by rw [hF.o.a t _ (by decide) (by decide) (by decide), show ((zP z).toNat : Int) = zP z by omega]
        rw [etb] at qa
        have tv : -2147483648 ≤ mA M0 amTb (16 * t0 + ((zP z).toNat : Int)).toNat ∧ mA M0 amTb (16 * t0 + ((zP z).toNat : Int)).toNat ≤ 2147483647 := hC.2.1.2.1.b _ _
        have hsb : 0 ≤ mA M (nowA m.toNat) 5 ∧ mA M (nowA m.toNat) 5 ≤ 1000000000 := by rw [v3]; omega
        have qt := c_putFromTable hCM hm hKM hkn v6 hmk (mA M0 amTb (16 * t0 + ((zP z).toNat : Int)).toNat) tv hsb
        rw [v3] at qt
        have wsb := ws_b (mA M0 amRk m.toNat) (mA M0 amTb (16 * t0 + ((zP z).toNat : Int)).toNat)
        have e1 := Int.emod_nonneg (zP z + mA M0 amKn (3 * m + 1).toNat) c1
        have e2 := Int.emod_lt_of_pos (zP z + mA M0 amKn (3 * m + 1).toNat) (show 0 < tlF M0 t0 by omega)
        have qm := fun M => c_floorMod (M := M) (zP z + mA M0 amKn (3 * m + 1).toNat) (tlF M0 t0) (by omega) (by omega)
        by_cases c3 : 3 ≤ mA M0 amRk m.toNat ∧ mA M0 amTb (16 * t0 + ((zP z).toNat : Int)).toNat = -2147483648
        · simp only [if_pos c3] at qt
          have p1 : mA (wA M L 3 (zM z + 2 ^ k.toNat)) (nowA m.toNat) 1 = zP z := by rw [wA_o _ _ (fun q => cV_i t q.1)]; exact v1
          have kq : mA (wA M L 3 (zM z + 2 ^ k.toNat)) (knA m.toNat) 1 = mA M0 amKn (3 * m + 1).toNat := by rw [wA_o _ _ (fun q => absurd q.2 (by decide))]; exact kn1
          simp (disch := first | omega | (simp only [DT, DS, ne_eq, Nat.reduceEqDiff, not_false_eq_true]; done)) only [RX0_playTable, e7, cP.e hCM.1, TGf, hu1.2.1, hu1.2.2.1, v1, qp, qa, t, qt, MM.2.2.1, p1, kq, Int.reduceToNat, qm, BW, wr_id, OM, OE, PL, ↓reduceIte, TGs, bi_T, bi_F, bi_ff, Nat.reduceLeDiff, Nat.reduceLT, Nat.reduceAdd]
          exact fin _ _ ((hF.wL t (wr_id (by omega) (by omega))).wN (Or.inl rfl) (wr_id (by omega) (by omega))) (cV_p (cV_z (cV_m hV t (zM z + 2 ^ k.toNat)) h0) t _) e1 ⟨hsa.1, by show zN z ≤ _; omega⟩ ⟨by show 0 ≤ zM z + _; omega, by show zM z + _ < _; rw [hpw.2.2]; omega⟩ (by unfold srcS; rw [if_neg c1, if_neg c2, if_pos c3] <;> rfl)
        · simp only [if_neg c3] at qt
          generalize hS : wsF (mA M0 amRk m.toNat) (mA M0 amTb (16 * t0 + ((zP z).toNat : Int)).toNat) = w at *
          generalize hX : wvF (mA M0 amRk m.toNat) (mA M0 amTb (16 * t0 + ((zP z).toNat : Int)).toNat) = x at *
          have p1 : mA (wB (wA M (nowA m.toNat) 5 (zN z + w)) V k.toNat x) (nowA m.toNat) 1 = zP z := (wA_o M _ (by simp)).trans v1
          have kq : mA (wB (wA M (nowA m.toNat) 5 (zN z + w)) V k.toNat x) (knA m.toNat) 1 = mA M0 amKn (3 * m + 1).toNat := (wA_o M _ (by simp)).trans kn1
          simp (disch := first | omega | (simp only [DT, DS, ne_eq, Nat.reduceEqDiff, not_false_eq_true]; done)) only [RX0_playTable, e7, cP.e hCM.1, TGf, hu1.2.1, hu1.2.2.1, v1, qp, qa, t, qt, MM.2.2.1, MM.2.2.2.2.2.2.1, p1, kq, Int.reduceToNat, qm, BW, wr_id, OM, OE, PL, ↓reduceIte, TGs, bi_T, bi_F, bi_ff, Nat.reduceLeDiff, Nat.reduceLT, Nat.reduceAdd]
          exact fin _ _ (((hF.wN (Or.inr (Or.inr rfl)) (wr_id (by omega) (by omega))).wV _ _).wN (Or.inl rfl) (wr_id (by omega) (by omega))) (cV_p (cV_v (cV_n hV t (zN z + w)) hK.1.2 h0 x) t _) e1 ⟨by show 0 ≤ zN z + _; omega, by show zN z + _ ≤ _; omega⟩ ⟨hmk.1, by show zM z < _; rw [hpw.2.2]; omega⟩ (by unfold srcS; rw [if_neg c1, if_neg c2, if_neg c3, hS, hX] <;> rfl)
