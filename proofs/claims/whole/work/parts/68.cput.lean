/-! 68.cput: the developers' own: a sample comes into a row -/
theorem d2_il {y : UInt64} (h : mg 1053 y) : (FP.d2i y).toInt = (FP.d2l y).toInt ∧ -2147483648 ≤ (FP.d2l y).toInt ∧ (FP.d2l y).toInt ≤ 2147483647 := by
  have hn : Jvm.FP.Core.val64 y ≠ .nan := (nan_d y).mp (h.nn (by decide))
  have hb := y.toNat_lt
  have hk : -(4742290407621132288 : Int) < Jvm.FP.Core.dkey y ∧ Jvm.FP.Core.dkey y < 4742290407621132288 := by
    unfold mg at h
    unfold Jvm.FP.Core.dkey
    split <;> omega
  have n1 : Jvm.FP.Core.val64 4746794007244308480 ≠ .nan := (nan_d _).mp (by decide)
  have n2 : Jvm.FP.Core.val64 13970166044103278592 ≠ .nan := (nan_d _).mp (by decide)
  have c1 := Jvm.FP.Core.dcmp_lt.mp ((Jvm.FP.Core.dcmp_lt_key hn n1).mpr (by
    rw [show Jvm.FP.Core.dkey 4746794007244308480 = 4746794007244308480 by decide]
    omega))
  have c2 := Jvm.FP.Core.dcmp_gt.mp ((Jvm.FP.Core.dcmp_gt_key hn n2).mpr (by
    rw [show Jvm.FP.Core.dkey 13970166044103278592 = -4746794007248502784 by decide]
    omega))
  have z1 := c1.2.2
  have z2 := c2.2.2
  rw [Jvm.FP.Core.zval_d2i_hi] at z1
  rw [Jvm.FP.Core.zval_d2i_lo] at z2
  have hw : -2147483648 < Jvm.FP.Core.signed (Jvm.FP.Core.sgn (Jvm.FP.Core.val64 y)) (Jvm.FP.Core.zmag Jvm.FP.Core.b64 (Jvm.FP.Core.val64 y) / Jvm.FP.Core.one64) ∧ Jvm.FP.Core.signed (Jvm.FP.Core.sgn (Jvm.FP.Core.val64 y)) (Jvm.FP.Core.zmag Jvm.FP.Core.b64 (Jvm.FP.Core.val64 y) / Jvm.FP.Core.one64) < 2147483648 := by
    rcases Int.le_total 0 (Jvm.FP.Core.signed (Jvm.FP.Core.sgn (Jvm.FP.Core.val64 y)) (Jvm.FP.Core.zmag Jvm.FP.Core.b64 (Jvm.FP.Core.val64 y))) with g | g
    · obtain ⟨i, a, b, _⟩ := Jvm.FP.Core.cut_pos Jvm.FP.Core.one64_pos g z1
      omega
    · obtain ⟨i, a, b, _⟩ := Jvm.FP.Core.cut_neg Jvm.FP.Core.one64_pos g z2
      omega
  have e1 : (FP.d2i y).toInt = _ := Jvm.FP.Core.d2i_val hn
  have e2 : (FP.d2l y).toInt = _ := Jvm.FP.Core.d2l_val hn
  rw [e1, e2]
  omega
theorem d2i_w {kd : Int} {x : UInt64} (h : svK kd x) (hk : kd < 3) : (FP.d2i x).toInt = (FP.d2l x).toInt := by
  obtain ⟨v, hv, e⟩ := h.1 hk
  rw [e, d2l_i hv, show FP.d2i (FP.i2d (Int32.ofInt v)) = Int32.ofInt v from Jvm.FP.Core.d2i_i2d _, Int32.toInt_ofInt, Int.bmod_eq_of_le (by have : (Int32.size : Int) = 4294967296 := rfl; omega) (by have : (Int32.size : Int) = 4294967296 := rfl; omega)]
/-- a row that is being made -/
def mkd (M : xm) (L V : Nat) (kd n : Int) : Prop := (tg L = 5 ∧ isV V n.toNat) ∧ (mA M L 0 = kd ∧ mA M L 1 = n) ∧ mR M L 2 = V ∧ (0 ≤ kd ∧ kd ≤ 4) ∧ (1 ≤ n ∧ n ≤ 16)
theorem mkd.v {M : xm} {L V : Nat} {kd n : Int} (h : mkd M L V kd n) : tg V = 33 ∧ (ln V : Int) = n := by
  have g := h.1.2.t (by have := h.2.2.2.2; omega)
  refine ⟨g.1, ?_⟩
  rw [g.2]
  have := h.2.2.2.2
  omega
theorem tg_d {a b s t : Nat} (ha : tg a = s) (hb : tg b = t) (h : ¬ s = t) : ¬ a = b := fun q => h (by rw [← ha, ← hb, q])
theorem mkd.w {M : xm} {L V : Nat} {kd n : Int} (h : mkd M L V kd n) (i j : Nat) (x : Int) : mkd (wA M (nowA i) j x) L V kd n := by
  obtain ⟨h1, ⟨h2, h3⟩, h4, h5, h6⟩ := h
  have hd : ¬ L = nowA i := tg_d h1.1 (TGf.2.2.2.2.1 i) (by decide)
  exact ⟨h1, ⟨by rw [wA_o _ _ (fun q => hd q.1)]; exact h2, by rw [wA_o _ _ (fun q => hd q.1)]; exact h3⟩, h4, h5, h6⟩
section CP
variable {M : xm} {N : Int} {L V : Nat} {kd n m k : Int}
theorem mkd.p (h : mkd M L V kd n) (hk : 0 ≤ k ∧ k < n) (x : UInt64) (hx : isNaN64 x = false) (Q : Option xv → xm → Prop) : Wp qX4_put 0 [vR L, vI k, vD x, vX] [] M Q ↔ Q none (wB M V k.toNat (ptF kd x)) := by
  have hv := h.v
  obtain ⟨h1, ⟨h2, h3⟩, h4, h5, h6⟩ := h
  exact c_put h1.1 h2 h3 h4 hv h5 (by omega) k hk x hx Q
theorem c_putWhole (hC : cS M N) (hm : 0 ≤ m ∧ m < N) (hK : mkd M L V kd n) (hk : 0 ≤ k ∧ k < n) (v : Int) (hv : -2147483648 ≤ v ∧ v ≤ 2147483647) (hsa : 0 ≤ mA M (nowA m.toNat) 5 ∧ mA M (nowA m.toNat) 5 ≤ 1000000000) (Q : Option xv → xm → Prop) : Wp qX0_putWhole 0 [vR aBlok, vR (uA m.toNat), vR L, vI k, vI v] [] M Q ↔ Q none (wB (wA M (nowA m.toNat) 5 (mA M (nowA m.toNat) 5 + wsF kd v)) V k.toNat (wvF kd v)) := by
  have hu := (hC.2.2.2.1 m hm.1 hm.2).1
  have t := hK.1.1
  have e0 := hK.2.1.1
  have g1 := by256 v
  have g2 := (hd_mg g1).nn (by decide)
  have n0 : isNaN64 FP.dconst0 = false := by decide
  have n1 : isNaN64 FP.dconst1 = false := by decide
  have ni : ∀ x, isNaN64 (FP.i2d x) = false := fun x => (mg_i x).nn (by decide)
  rcases (show kd = 0 ∨ kd = 1 ∨ kd = 2 ∨ kd = 3 ∨ kd = 4 by have := hK.2.2.2.1; omega) with rfl | rfl | rfl | rfl | rfl
  · have e : ∀ x, ptF 0 x = x := fun x => rfl
    by_cases c : 0 < v
    · rw [show wvF 0 v = FP.dconst1 by unfold wvF; rw [if_pos rfl, if_pos c], show wsF 0 v = 0 from rfl, Int.add_zero, wA_self]
      simp (disch := first | omega | (simp only [DT, DS, ne_eq, Nat.reduceEqDiff, not_false_eq_true]; done)) only [RX0_putWhole, t, e0, hK.p hk _ n1, e, BW, wr_id, OM, OE, PL, ↓reduceIte, TGs, bi_T, bi_F, bi_ff, Nat.reduceLeDiff, Nat.reduceLT, Nat.reduceAdd]
    · rw [show wvF 0 v = FP.dconst0 by unfold wvF; rw [if_pos rfl, if_neg c], show wsF 0 v = 0 from rfl, Int.add_zero, wA_self]
      simp (disch := first | omega | (simp only [DT, DS, ne_eq, Nat.reduceEqDiff, not_false_eq_true]; done)) only [RX0_putWhole, t, e0, hK.p hk _ n0, e, BW, wr_id, OM, OE, PL, ↓reduceIte, TGs, bi_T, bi_F, bi_ff, Nat.reduceLeDiff, Nat.reduceLT, Nat.reduceAdd]
  · have e : ∀ x, ptF 1 x = x := fun x => rfl
    rw [show wvF 1 v = FP.i2d (Int32.ofInt (cz 32767 v)) from rfl, show wsF 1 v = si 32767 v from rfl]
    have hK' := hK.w m.toNat 5 (mA M (nowA m.toNat) 5 + si 32767 v)
    simp (disch := first | omega | (simp only [DT, DS, ne_eq, Nat.reduceEqDiff, not_false_eq_true]; done)) only [RX0_putWhole, t, e0, hu.2.2.1, TGf, c_held16 (TGf.2.2.2.2.1 m.toNat) v (by omega) hsa, hK'.p hk _ (ni _), e, BW, wr_id, OM, OE, PL, ↓reduceIte, TGs, bi_T, bi_F, bi_ff, Nat.reduceLeDiff, Nat.reduceLT, Nat.reduceAdd]
  · have e : ∀ x, ptF 2 x = x := fun x => rfl
    rw [show wvF 2 v = FP.i2d (Int32.ofInt v) from rfl, show wsF 2 v = 0 from rfl, Int.add_zero, wA_self]
    simp (disch := first | omega | (simp only [DT, DS, ne_eq, Nat.reduceEqDiff, not_false_eq_true]; done)) only [RX0_putWhole, t, e0, hK.p hk _ (ni _), e, BW, wr_id, OM, OE, PL, ↓reduceIte, TGs, bi_T, bi_F, bi_ff, Nat.reduceLeDiff, Nat.reduceLT, Nat.reduceAdd]
  · have e : ∀ x, ptF 3 x = flF x := fun x => rfl
    rw [show wvF 3 v = flF (hdF (FP.ddiv (FP.i2d (Int32.ofInt v)) 4643211215818981376)) from rfl, show wsF 3 v = 0 from rfl, Int.add_zero, wA_self]
    simp (disch := first | omega | (simp only [DT, DS, ne_eq, Nat.reduceEqDiff, not_false_eq_true]; done)) only [RX0_putWhole, t, e0, g1, c_held, hK.p hk _ g2, e, BW, wr_id, OM, OE, PL, ↓reduceIte, TGs, bi_T, bi_F, bi_ff, Nat.reduceLeDiff, Nat.reduceLT, Nat.reduceAdd]
  · have e : ∀ x, ptF 4 x = x := fun x => rfl
    rw [show wvF 4 v = hdF (FP.ddiv (FP.i2d (Int32.ofInt v)) 4643211215818981376) from rfl, show wsF 4 v = 0 from rfl, Int.add_zero, wA_self]
    simp (disch := first | omega | (simp only [DT, DS, ne_eq, Nat.reduceEqDiff, not_false_eq_true]; done)) only [RX0_putWhole, t, e0, g1, c_held, hK.p hk _ g2, e, BW, wr_id, OM, OE, PL, ↓reduceIte, TGs, bi_T, bi_F, bi_ff, Nat.reduceLeDiff, Nat.reduceLT, Nat.reduceAdd]
theorem c_gainAt (hC : cS M N) (hm : 0 ≤ m ∧ m < N) (hk : 0 ≤ k ∧ k ≤ 15) (en : mA M aBlok 7 = n) (hn : 1 ≤ n ∧ n ≤ 16) (Q : Option xv → xm → Prop) : Wp qX0_gainAt 0 [vR aBlok, vR (uA m.toNat), vI k, vX, vX, vX] [] M Q ↔ Q (some (vD (gnF (mA M (nowA m.toNat) 6) (mA M amKn (3 * m).toNat) k n))) M := by
  have hu := hC.2.2.2.1 m hm.1 hm.2
  have k0 := hu.2.2.2.2.1 0 (by omega) (by omega)
  rw [show 3 * m + 0 = 3 * m by omega, show (0 : Int).toNat = 0 from rfl] at k0
  have h0 := hu.1
  obtain ⟨g1, g2, g3, g5⟩ := gn_parts (mA M (nowA m.toNat) 6) (mA M amKn (3 * m).toNat) k n hn
  unfold gnF at g3 ⊢
  simp (disch := first | omega | (simp only [DT, DS, ne_eq, Nat.reduceEqDiff, not_false_eq_true]; done)) only [RX0_gainAt, TGf, h0.2.1, h0.2.2.1, Int.reduceToNat, k0, en, g1, g2, g3, BW, wr_id, OM, OE, PL, ↓reduceIte, TGs, bi_T, bi_F, bi_ff, Nat.reduceLeDiff, Nat.reduceLT, Nat.reduceAdd]
/-- what SHAPE, FILTER, SLOW, LATE make of a sample: kept, old, what comes out -/
theorem c_shaped1 (hC : cS M N) (hm : 0 ≤ m ∧ m < N) (hk : 0 ≤ k ∧ k ≤ 15) (en : mA M aBlok 7 = n) (hn : 1 ≤ n ∧ n ≤ 16) (x : UInt64) (hx : mg 1043 x) (hk1 : mA M amKd m.toNat = 1) (Q : Option xv → xm → Prop) : Wp qX0_shapedSample 0 [vR aBlok, vR (uA m.toNat), vI k, vD x, vX, vX, vX, vX, vX, vX, vX, vX] [] M Q ↔ Q (some (vD (hdF (FP.dmul (gnF (mA M (nowA m.toNat) 6) (mA M amKn (3 * m).toNat) k n) x)))) M := by
  have hu := hC.2.2.2.1 m hm.1 hm.2
  have h0 := hu.1
  have hkd := hu.2.2.2.1.2.1
  obtain ⟨g1, g2, g3, g5⟩ := gn_parts (mA M (nowA m.toNat) 6) (mA M amKn (3 * m).toNat) k n hn
  have g4 := mul_nn (g5.le (by decide)) (hx.le (by decide))
  simp (disch := first | omega | (simp only [DT, DS, ne_eq, Nat.reduceEqDiff, not_false_eq_true]; done)) only [RX0_shapedSample, TGf, h0.2.1, h0.2.2.1, c_gainAt hC hm hk en hn, g4, c_held, hkd, hk1, BW, wr_id, OM, OE, PL, ↓reduceIte, TGs, bi_T, bi_F, bi_ff, Nat.reduceLeDiff, Nat.reduceLT, Nat.reduceAdd]
theorem c_shaped2 (hC : cS M N) (hm : 0 ≤ m ∧ m < N) (hk : 0 ≤ k ∧ k ≤ 15) (en : mA M aBlok 7 = n) (hn : 1 ≤ n ∧ n ≤ 16) (x : UInt64) (hx : mg 1043 x) (hkp : mg 1043 (mB M (nowA m.toNat) 2)) (hk1 : mA M amKd m.toNat = 2 ∨ mA M amKd m.toNat = 3) (Q : Option xv → xm → Prop) : Wp qX0_shapedSample 0 [vR aBlok, vR (uA m.toNat), vI k, vD x, vX, vX, vX, vX, vX, vX, vX, vX] [] M Q ↔ Q (some (vD (hdF (FP.dadd (hdF (FP.dmul (gnF (mA M (nowA m.toNat) 6) (mA M amKn (3 * m).toNat) k n) x)) (FP.dmul (mB M (nowA m.toNat) 2) (FP.ddiv (FP.i2d (Int32.ofInt (mA M amKn (3 * m + 1).toNat))) 4620693217682128896)))))) (wB M (nowA m.toNat) 2 (hdF (FP.dadd (hdF (FP.dmul (gnF (mA M (nowA m.toNat) 6) (mA M amKn (3 * m).toNat) k n) x)) (FP.dmul (mB M (nowA m.toNat) 2) (FP.ddiv (FP.i2d (Int32.ofInt (mA M amKn (3 * m + 1).toNat))) 4620693217682128896))))) := by
  have hu := hC.2.2.2.1 m hm.1 hm.2
  have h0 := hu.1
  have hkd := hu.2.2.2.1.2.1
  have k1 := hu.2.2.2.2.1 1 (by omega) (by omega)
  rw [show (1 : Int).toNat = 1 from rfl] at k1
  obtain ⟨g1, g2, g3, g5⟩ := gn_parts (mA M (nowA m.toNat) 6) (mA M amKn (3 * m).toNat) k n hn
  have g4 := mul_nn (g5.le (by decide)) (hx.le (by decide))
  have ym := shp_mg (o0 := mA M (nowA m.toNat) 6) (k0 := mA M amKn (3 * m).toNat) (k := k) hn hx
  obtain ⟨d1, d2⟩ := kn_mg (mA M amKn (3 * m + 1).toNat)
  have d3 := mul_nn (hkp.le (by decide)) (d2.le (by decide))
  have d4 := add_nn (ym.le (by decide)) d3
  simp (disch := first | omega | (simp only [DT, DS, ne_eq, Nat.reduceEqDiff, not_false_eq_true]; done)) only [RX0_shapedSample, TGf, h0.2.1, h0.2.2.1, c_gainAt hC hm hk en hn, g4, c_held, hkd, Int.reduceToNat, k1, d1, d3, d4, MM, BW, wr_id, OM, OE, PL, ↓reduceIte, TGs, bi_T, bi_F, bi_ff, Nat.reduceLeDiff, Nat.reduceLT, Nat.reduceAdd]
theorem c_shaped4 (hC : cS M N) (hm : 0 ≤ m ∧ m < N) (hk : 0 ≤ k ∧ k ≤ 15) (en : mA M aBlok 7 = n) (hn : 1 ≤ n ∧ n ≤ 16) (x : UInt64) (hx : mg 1043 x) (hkp : mg 1043 (mB M (nowA m.toNat) 2)) (hol : mg 1043 (mB M (nowA m.toNat) 3)) (hk1 : mA M amKd m.toNat = 4) (Q : Option xv → xm → Prop) {y z : UInt64} (ey : hdF (FP.dmul (gnF (mA M (nowA m.toNat) 6) (mA M amKn (3 * m).toNat) k n) x) = y) (ez : hdF (FP.dadd y (FP.dmul (mB M (nowA m.toNat) 2) (FP.ddiv (FP.i2d (Int32.ofInt (mA M amKn (3 * m + 1).toNat))) 4620693217682128896))) = z) : Wp qX0_shapedSample 0 [vR aBlok, vR (uA m.toNat), vI k, vD x, vX, vX, vX, vX, vX, vX, vX, vX] [] M Q ↔ Q (some (vD (hdF (FP.dadd z (mB M (nowA m.toNat) 3))))) (wB (wB M (nowA m.toNat) 2 z) (nowA m.toNat) 3 (hdF (FP.dmul z (FP.ddiv (FP.i2d (Int32.ofInt (mA M amKn (3 * m + 2).toNat))) 4620693217682128896)))) := by
  have hu := hC.2.2.2.1 m hm.1 hm.2
  have h0 := hu.1
  have hkd := hu.2.2.2.1.2.1
  have k1 := hu.2.2.2.2.1 1 (by omega) (by omega)
  have k2 := hu.2.2.2.2.1 2 (by omega) (by omega)
  rw [show (1 : Int).toNat = 1 from rfl] at k1
  rw [show (2 : Int).toNat = 2 from rfl] at k2
  obtain ⟨g1, g2, g3, g5⟩ := gn_parts (mA M (nowA m.toNat) 6) (mA M amKn (3 * m).toNat) k n hn
  have g4 := mul_nn (g5.le (by decide)) (hx.le (by decide))
  have ym := shp_mg (o0 := mA M (nowA m.toNat) 6) (k0 := mA M amKn (3 * m).toNat) (k := k) hn hx
  rw [ey] at ym
  obtain ⟨d1, d2⟩ := kn_mg (mA M amKn (3 * m + 1).toNat)
  have d3 := mul_nn (hkp.le (by decide)) (d2.le (by decide))
  have d4 := add_nn (ym.le (by decide)) d3
  have zm := fil_mg (k1 := mA M amKn (3 * m + 1).toNat) ym hkp
  rw [ez] at zm
  obtain ⟨b1, b2⟩ := kn_mg (mA M amKn (3 * m + 2).toNat)
  have b3 := mul_nn (zm.le (by decide)) (b2.le (by decide))
  have b4 := add_nn (zm.le (by decide)) (hol.nn (by decide))
  simp (disch := first | omega | (simp only [DT, DS, ne_eq, Nat.reduceEqDiff, not_false_eq_true]; done)) only [RX0_shapedSample, TGf, h0.2.1, h0.2.2.1, c_gainAt hC hm hk en hn, g4, c_held, ey, hkd, hk1, Int.reduceToNat, k1, k2, d1, d3, d4, ez, b1, b3, b4, MM, Nat.reduceEqDiff, BW, wr_id, OM, OE, PL, ↓reduceIte, TGs, bi_T, bi_F, bi_ff, Nat.reduceLeDiff, Nat.reduceLT, Nat.reduceAdd]
theorem c_upAfter (hC : cS M N) (hm : 0 ≤ m ∧ m < N) (x : UInt64) (Q : Option xv → xm → Prop) : Wp qX0_upAfter 0 [vR aBlok, vR (uA m.toNat), vD x, vX] [] M Q ↔ Q (some (vI (upF (mA M amKn (3 * m).toNat) (mA M amKn (3 * m + 1).toNat) (mA M (nowA m.toNat) 4) x))) M := by
  have hu := hC.2.2.2.1 m hm.1 hm.2
  have h0 := hu.1
  have k0 := hu.2.2.2.2.1 0 (by omega) (by omega)
  rw [show 3 * m + 0 = 3 * m by omega, show (0 : Int).toNat = 0 from rfl] at k0
  have k1 := hu.2.2.2.2.1 1 (by omega) (by omega)
  rw [show (1 : Int).toNat = 1 from rfl] at k1
  have d1 := (kn_mg (mA M amKn (3 * m).toNat)).1
  have d2 := (kn_mg (mA M amKn (3 * m + 1).toNat)).1
  unfold upF
  simp (disch := first | omega | (simp only [DT, DS, ne_eq, Nat.reduceEqDiff, not_false_eq_true]; done)) only [RX0_upAfter, TGf, h0.2.1, h0.2.2.1, Int.reduceToNat, k0, k1, d1, d2, cmp_l, cmp_g, BW, wr_id, OM, OE, PL, ↓reduceIte, TGs, bi_T, bi_F, bi_ff, Nat.reduceLeDiff, Nat.reduceLT, Nat.reduceAdd]
  by_cases c1 : FP.dcmp x (FP.ddiv (FP.i2d (Int32.ofInt (mA M amKn (3 * m).toNat))) 4620693217682128896) = some .lt ∨ FP.dcmp x (FP.ddiv (FP.i2d (Int32.ofInt (mA M amKn (3 * m).toNat))) 4620693217682128896) = none
  · rw [if_pos c1, if_pos c1]
    by_cases c2 : FP.dcmp x (FP.ddiv (FP.i2d (Int32.ofInt (mA M amKn (3 * m + 1).toNat))) 4620693217682128896) = some .gt ∨ FP.dcmp x (FP.ddiv (FP.i2d (Int32.ofInt (mA M amKn (3 * m + 1).toNat))) 4620693217682128896) = none
    · rw [if_pos c2, if_pos c2]
    · rw [if_neg c2, if_neg c2]
  · rw [if_neg c1, if_neg c1]
end CP
