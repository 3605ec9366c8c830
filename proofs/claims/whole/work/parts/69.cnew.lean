/-! 69.cnew: the developers' own: a new row; what stays as it is while a module acts -/
theorem c_putFromTable {M : xm} {N : Int} {L V : Nat} {kd n m k a : Int} (hC : cS M N) (hm : 0 ≤ m ∧ m < N) (hK : mkd M L V kd n) (hk : 0 ≤ k ∧ k < n) (e3 : mA M L 3 = a) (ha : 0 ≤ a ∧ a < 2 ^ k.toNat) (v : Int) (hv : -2147483648 ≤ v ∧ v ≤ 2147483647) (hsa : 0 ≤ mA M (nowA m.toNat) 5 ∧ mA M (nowA m.toNat) 5 ≤ 1000000000) (Q : Option xv → xm → Prop) : Wp qX0_putFromTable 0 [vR aBlok, vR (uA m.toNat), vR L, vI k, vI v] [] M Q ↔ if 3 ≤ kd ∧ v = -2147483648 then Q none (wA M L 3 (a + 2 ^ k.toNat)) else Q none (wB (wA M (nowA m.toNat) 5 (mA M (nowA m.toNat) 5 + wsF kd v)) V k.toNat (wvF kd v)) := by
  obtain ⟨⟨t, _⟩, ⟨e0, e1⟩, _, hkd, hn⟩ := id hK
  have q := c_isFloating t e0 hkd
  by_cases c1 : 3 ≤ kd
  · simp only [bi_t c1] at q
    by_cases c2 : v = -2147483648
    · rw [if_pos ⟨c1, c2⟩]
      simp (disch := first | omega | (simp only [DT, DS, ne_eq, Nat.reduceEqDiff, not_false_eq_true]; done)) only [RX0_putFromTable, t, q, c_putNo t e1 e3 (by omega) k hk ha, BW, wr_id, OM, OE, PL, ↓reduceIte, TGs, bi_T, bi_F, bi_ff, Nat.reduceLeDiff, Nat.reduceLT, Nat.reduceAdd]
    · rw [if_neg (fun z => c2 z.2)]
      simp (disch := first | omega | (simp only [DT, DS, ne_eq, Nat.reduceEqDiff, not_false_eq_true]; done)) only [RX0_putFromTable, t, q, c2, TGf, c_putWhole hC hm hK hk v hv hsa, BW, wr_id, OM, OE, PL, ↓reduceIte, TGs, bi_T, bi_F, bi_ff, Nat.reduceLeDiff, Nat.reduceLT, Nat.reduceAdd]
  · simp only [bi_f c1] at q
    rw [if_neg (fun z => c1 z.1)]
    simp (disch := first | omega | (simp only [DT, DS, ne_eq, Nat.reduceEqDiff, not_false_eq_true]; done)) only [RX0_putFromTable, t, q, TGf, c_putWhole hC hm hK hk v hv hsa, BW, wr_id, OM, OE, PL, ↓reduceIte, TGs, bi_T, bi_F, bi_ff, Nat.reduceLeDiff, Nat.reduceLT, Nat.reduceAdd]
theorem fv_0 {kd : Int} (h : 0 ≤ kd ∧ kd < 3) : fsF kd 0 = 0 ∧ fvF kd 0 = 0 := by
  rcases (show kd = 0 ∨ kd = 1 ∨ kd = 2 by omega) with rfl | rfl | rfl <;> decide +kernel
theorem c_putFloating {M : xm} {N : Int} {L V G : Nat} {kd n m k a : Int} {r : Rw} (hC : cS M N) (hm : 0 ≤ m ∧ m < N) (hK : mkd M L V kd n) (hk : 0 ≤ k ∧ k < n) (e3 : mA M L 3 = a) (ha : 0 ≤ a ∧ a < 2 ^ k.toNat) (hg : cRw M G (some r)) (ho : okR r) (h3 : 3 ≤ rwK r) (hkr : k < rwL r) (hsa : 0 ≤ mA M (nowA m.toNat) 5 ∧ mA M (nowA m.toNat) 5 ≤ 1000000000) (Q : Option xv → xm → Prop) : Wp qX0_putFloating 0 [vR aBlok, vR (uA m.toNat), vR L, vI k, vR G, vX, vX] [] M Q ↔ if 3 ≤ kd ∧ bt (rwN r) k = true then Q none (wA M L 3 (a + 2 ^ k.toNat)) else Q none (wB (wA M (nowA m.toNat) 5 (mA M (nowA m.toNat) 5 + fsF kd (rwV r k))) V k.toNat (fvF kd (rwV r k))) := by
  obtain ⟨⟨t, _⟩, ⟨e0, e1⟩, _, hkd, hn⟩ := id hK
  have tG := hg.1.2
  have q := c_isFloating t e0 hkd
  have qv := c_valueAt hg ho k (by omega)
  have ql := c_lacks hg ho k (by omega)
  have ev : smV (some r) k = rwV r k := by
    unfold smV
    dsimp only
    rw [if_pos (by omega)]
  have en : noB (some r) k = bt (rwN r) k := by
    show (decide (0 ≤ k ∧ k ≤ rwL r - 1) && bt (rwN r) k) = bt (rwN r) k
    rw [decide_eq_true (show 0 ≤ k ∧ k ≤ rwL r - 1 by omega)]
    rfl
  simp only [ev] at qv
  simp only [en] at ql
  have hsv := ho.2.2.2.2.1 k hk.1 (by omega)
  have hnn := sv_nn hsv
  have n0 : isNaN64 FP.dconst0 = false := by decide
  have n1 : isNaN64 FP.dconst1 = false := by decide
  by_cases c1 : 3 ≤ kd
  · simp only [bi_t c1] at q
    have e1' : fsF kd (rwV r k) = 0 := by
      unfold fsF
      rw [if_neg (by omega), if_neg (by omega)]
    have e2' : ptF kd (rwV r k) = fvF kd (rwV r k) := by
      unfold ptF fvF
      rw [if_neg (show ¬ kd = 0 by omega), if_neg (show ¬ kd = 1 by omega), if_neg (show ¬ kd = 2 by omega)]
    cases cb : bt (rwN r) k
    · simp only [cb, bi_ff] at ql
      rw [if_neg (fun z => absurd z.2 (by decide)), e1', Int.add_zero, wA_self]
      simp (disch := first | omega | (simp only [DT, DS, ne_eq, Nat.reduceEqDiff, not_false_eq_true]; done)) only [RX0_putFloating, t, tG, qv, q, ql, hK.p hk _ hnn, e2', BW, wr_id, OM, OE, PL, ↓reduceIte, TGs, bi_T, bi_F, bi_ff, Nat.reduceLeDiff, Nat.reduceLT, Nat.reduceAdd]
    · simp only [cb, bi_T] at ql
      rw [if_pos ⟨c1, rfl⟩]
      simp (disch := first | omega | (simp only [DT, DS, ne_eq, Nat.reduceEqDiff, not_false_eq_true]; done)) only [RX0_putFloating, t, tG, qv, q, ql, c_putNo t e1 e3 (by omega) k hk ha, BW, wr_id, OM, OE, PL, ↓reduceIte, TGs, bi_T, bi_F, bi_ff, Nat.reduceLeDiff, Nat.reduceLT, Nat.reduceAdd]
  · simp only [bi_f c1] at q
    rw [if_neg (fun z => c1 z.1)]
    have mm := mg_mul (sv_mg hsv h3) (show mg 1032 4643211215818981376 by unfold mg; decide) (by decide) (by decide)
    have mnn := mm.nn (by decide)
    obtain ⟨i1, i2, i3⟩ := d2_il mm
    rcases (show kd = 0 ∨ kd = 1 ∨ kd = 2 by omega) with rfl | rfl | rfl
    · have e : ∀ x, ptF 0 x = x := fun x => rfl
      rw [show fsF 0 (rwV r k) = 0 from rfl, Int.add_zero, wA_self]
      unfold fvF
      rw [if_pos rfl]
      by_cases cg : FP.dcmp (rwV r k) FP.dconst0 = some .gt
      · rw [if_pos cg]
        simp (disch := first | omega | (simp only [DT, DS, ne_eq, Nat.reduceEqDiff, not_false_eq_true]; done)) only [RX0_putFloating, t, tG, qv, q, e0, cmp_l, cg, hK.p hk _ n1, e, BW, wr_id, OM, OE, PL, ↓reduceIte, TGs, bi_T, bi_F, bi_ff, Nat.reduceLeDiff, Nat.reduceLT, Nat.reduceAdd]
      · rw [if_neg cg]
        simp (disch := first | omega | (simp only [DT, DS, ne_eq, Nat.reduceEqDiff, not_false_eq_true]; done)) only [RX0_putFloating, t, tG, qv, q, e0, cmp_l, cg, hK.p hk _ n0, e, BW, wr_id, OM, OE, PL, ↓reduceIte, TGs, bi_T, bi_F, bi_ff, Nat.reduceLeDiff, Nat.reduceLT, Nat.reduceAdd]
    · have g := c_putWhole hC hm hK hk (FP.d2i (FP.dmul (rwV r k) 4643211215818981376)).toInt (by omega) hsa
      rw [i1] at g
      rw [show fsF 1 (rwV r k) = wsF 1 (FP.d2l (FP.dmul (rwV r k) 4643211215818981376)).toInt from rfl, show fvF 1 (rwV r k) = wvF 1 (FP.d2l (FP.dmul (rwV r k) 4643211215818981376)).toInt from rfl]
      simp (disch := first | omega | (simp only [DT, DS, ne_eq, Nat.reduceEqDiff, not_false_eq_true]; done)) only [RX0_putFloating, t, tG, qv, q, e0, mnn, TGf, i1, g, BW, wr_id, OM, OE, PL, ↓reduceIte, TGs, bi_T, bi_F, bi_ff, Nat.reduceLeDiff, Nat.reduceLT, Nat.reduceAdd]
    · have g := c_putWhole hC hm hK hk (FP.d2i (FP.dmul (rwV r k) 4643211215818981376)).toInt (by omega) hsa
      rw [i1] at g
      have s := si_in (h := 2147483647) (v := (FP.d2l (FP.dmul (rwV r k) 4643211215818981376)).toInt) (by omega) (by omega)
      rw [show fsF 2 (rwV r k) = si 2147483647 (FP.d2l (FP.dmul (rwV r k) 4643211215818981376)).toInt from rfl, show fvF 2 (rwV r k) = FP.i2d (Int32.ofInt (cz 2147483647 (FP.d2l (FP.dmul (rwV r k) 4643211215818981376)).toInt)) from rfl, s.1, s.2]
      simp (disch := first | omega | (simp only [DT, DS, ne_eq, Nat.reduceEqDiff, not_false_eq_true]; done)) only [RX0_putFloating, t, tG, qv, q, e0, mnn, TGf, i1, g, BW, wr_id, OM, OE, PL, ↓reduceIte, TGs, bi_T, bi_F, bi_ff, Nat.reduceLeDiff, Nat.reduceLT, Nat.reduceAdd]
      rfl
/-- a new row -/
def mkR (M : xm) (kd n : Int) (c : Nat) : xm := wR (nw (wA (wA (nw M 5 0 c 4) (na M 5 0 c) 0 kd) (na M 5 0 c) 1 n) 33 n.toNat 25616 n.toNat) (na M 5 0 c) 2 (na (nw M 5 0 c 4) 33 n.toNat 25616)
theorem c_init4 {M : xm} {L : Nat} (t : tg L = 5) {kd n : Int} (hk : 0 ≤ kd ∧ kd ≤ 4) (hn : 1 ≤ n ∧ n ≤ 16) (Q : Option xv → xm → Prop) : Wp qX4_init 0 [vR L, vI kd, vI n] [] M Q ↔ Q none (wR (nw (wA (wA M L 0 kd) L 1 n) 33 n.toNat 25616 n.toNat) L 2 (na M 33 n.toNat 25616)) := by
  have hz := tg_ne t (by decide)
  have e : na (wA (wA M L 0 kd) L 1 n) 33 n.toNat 25616 = na M 33 n.toNat 25616 := rfl
  simp (disch := first | omega | (simp only [DT, DS, ne_eq, Nat.reduceEqDiff, not_false_eq_true]; done)) only [RX4_init, t, hz, e, BW, wr_id, OM, OE, PL, ↓reduceIte, TGs, bi_T, bi_F, bi_ff, Nat.reduceLeDiff, Nat.reduceLT, Nat.reduceAdd]
theorem na_tg (M : xm) {c : Nat} (hc : c < 131072) : tg (na M 5 0 c) = 5 := by
  unfold na ad ky tg
  omega
theorem mkR_V (M : xm) {c n : Nat} (hc : c < 131072) (hn : n ≤ 16) : na (nw M 5 0 c 4) 33 n 25616 = na M 33 n 25616 := by
  unfold na
  rw [MM.2.2.2.2.2.2.2.2.2.2.2.2.2.2.2.2.2.2.2, if_neg (by unfold ky; omega)]
/-- what a new row leaves alone -/
def nwG (M0 M : xm) (L V : Nat) : Prop := (∀ l j, ¬ l = L → ¬ l = V → mA M l j = mA M0 l j ∧ mB M l j = mB M0 l j ∧ mR M l j = mR M0 l j) ∧ (∀ k, mC M0 k ≤ mC M k ∧ (¬ k % 64 = 5 → ¬ k % 64 = 33 → mC M k = mC M0 k)) ∧ (mK M ≤ mK M0 + 2 ∧ mK M0 ≤ mK M ∧ mS M ≤ mS M0 + 20 ∧ mS M0 ≤ mS M) ∧ inR M
theorem mk_ok {M : xm} {kd n : Int} {c : Nat} (hR : inR M) (hc : c < 131072) (hk : 0 ≤ kd ∧ kd ≤ 4) (hn : 1 ≤ n ∧ n ≤ 16) : mkd (mkR M kd n c) (na M 5 0 c) (na M 33 n.toNat 25616) kd n ∧ ¬ alv M (na M 5 0 c) ∧ ¬ alv M (na M 33 n.toNat 25616) ∧ nwG M (mkR M kd n c) (na M 5 0 c) (na M 33 n.toNat 25616) ∧ mA (mkR M kd n c) (na M 5 0 c) 3 = 0 ∧ (∀ j, mB (mkR M kd n c) (na M 33 n.toNat 25616) j = 0) ∧ alv (mkR M kd n c) (na M 5 0 c) ∧ alv (mkR M kd n c) (na M 33 n.toNat 25616) := by
  have hv := mkR_V M hc (show n.toNat ≤ 16 by omega)
  have hne : ¬ na M 5 0 c = na M 33 n.toNat 25616 := by
    unfold na ad ky
    omega
  have hky : ¬ ky 33 n.toNat 25616 = ky 5 0 c := by unfold ky; omega
  have eA : ∀ l j, mA (mkR M kd n c) l j = if l = na M 33 n.toNat 25616 then 0 else if l = na M 5 0 c ∧ j = 1 then n else if l = na M 5 0 c ∧ j = 0 then kd else if l = na M 5 0 c then 0 else mA M l j := fun l j => by
    rw [← hv]
    rfl
  have eB : ∀ l j, mB (mkR M kd n c) l j = if l = na M 33 n.toNat 25616 then 0 else if l = na M 5 0 c then 0 else mB M l j := fun l j => by
    rw [← hv]
    rfl
  have eR : ∀ l j, mR (mkR M kd n c) l j = if l = na M 5 0 c ∧ j = 2 then na M 33 n.toNat 25616 else if l = na M 33 n.toNat 25616 then 0 else if l = na M 5 0 c then 0 else mR M l j := fun l j => by
    rw [← hv]
    rfl
  have eC : ∀ k, mC (mkR M kd n c) k = if k = ky 33 n.toNat 25616 then (if k = ky 5 0 c then mC M k + 1 else mC M k) + 1 else if k = ky 5 0 c then mC M k + 1 else mC M k := fun k => rfl
  refine ⟨⟨⟨na_tg M hc, ?_⟩, ⟨?_, ?_⟩, ?_, hk, hn⟩, ?_, ?_, ⟨fun l j h1 h2 => ⟨?_, ?_, ?_⟩, fun k => ?_, ⟨?_, ?_, ?_, ?_⟩, ?_⟩, ?_, fun j => ?_, ?_, ?_⟩
  · unfold isV na ad ky
    omega
  · rw [eA, if_neg hne, if_neg (by omega), if_pos ⟨rfl, rfl⟩]
  · rw [eA, if_neg hne, if_pos ⟨rfl, rfl⟩]
  · rw [eR, if_pos ⟨rfl, rfl⟩]
  · unfold alv na ad
    rw [show (ky 5 0 c + 274877906944 * mC M (ky 5 0 c)) % 274877906944 = ky 5 0 c by unfold ky; omega, show (ky 5 0 c + 274877906944 * mC M (ky 5 0 c)) / 274877906944 = mC M (ky 5 0 c) by generalize mC M (ky 5 0 c) = q; unfold ky; omega]
    exact Nat.lt_irrefl _
  · unfold alv na ad
    rw [show (ky 33 n.toNat 25616 + 274877906944 * mC M (ky 33 n.toNat 25616)) % 274877906944 = ky 33 n.toNat 25616 by unfold ky; omega, show (ky 33 n.toNat 25616 + 274877906944 * mC M (ky 33 n.toNat 25616)) / 274877906944 = mC M (ky 33 n.toNat 25616) by generalize mC M (ky 33 n.toNat 25616) = q; unfold ky; omega]
    exact Nat.lt_irrefl _
  · rw [eA, if_neg h2, if_neg (fun q => h1 q.1), if_neg (fun q => h1 q.1), if_neg h1]
  · rw [eB, if_neg h2, if_neg h1]
  · rw [eR, if_neg (fun q => h1 q.1), if_neg h2, if_neg h1]
  · rw [eC]
    refine ⟨?_, fun a b => ?_⟩
    · split
      · split <;> omega
      · split <;> omega
    · rw [if_neg (fun q => b (by rw [q]; unfold ky; omega)), if_neg (fun q => a (by rw [q]; unfold ky; omega))]
  · show mK M + 1 + 1 ≤ mK M + 2
    omega
  · show mK M ≤ mK M + 1 + 1
    omega
  · show mS M + 4 + n.toNat ≤ mS M + 20
    omega
  · show mS M ≤ mS M + 4 + n.toNat
    omega
  · intro l j
    rw [eA]
    split
    · rfl
    · split
      · exact wr_id (by omega) (by omega)
      · split
        · exact wr_id (by omega) (by omega)
        · split
          · rfl
          · exact hR l j
  · rw [eA, if_neg hne, if_neg (by omega), if_neg (by omega), if_pos rfl]
  · rw [eB, if_pos rfl]
  · unfold alv
    rw [show na M 5 0 c % 274877906944 = ky 5 0 c by unfold na ad ky; omega, show na M 5 0 c / 274877906944 = mC M (ky 5 0 c) by unfold na ad; generalize mC M (ky 5 0 c) = q; unfold ky; omega, eC, if_neg (fun q => hky q.symm), if_pos rfl]
    exact Nat.lt_succ_self _
  · unfold alv
    rw [show na M 33 n.toNat 25616 % 274877906944 = ky 33 n.toNat 25616 by unfold na ad ky; omega, show na M 33 n.toNat 25616 / 274877906944 = mC M (ky 33 n.toNat 25616) by unfold na ad; generalize mC M (ky 33 n.toNat 25616) = q; unfold ky; omega, eC, if_pos rfl, if_neg hky]
    exact Nat.lt_succ_self _
theorem nwG.row {M0 M : xm} {L V : Nat} (h : nwG M0 M L V) (hL : ¬ alv M0 L) (hV : ¬ alv M0 V) : rowG M0 M := ⟨fun k => (h.2.1 k).1, fun l j a _ => ⟨(h.1 l j (fun q => hL (by rw [← q]; exact a)) (fun q => hV (by rw [← q]; exact a))).1, (h.1 l j (fun q => hL (by rw [← q]; exact a)) (fun q => hV (by rw [← q]; exact a))).2.2⟩, fun v j n a _ => (h.1 v j (fun q => hL (by rw [← q]; exact a)) (fun q => hV (by rw [← q]; exact a))).2.1⟩
/-- of what the static part says nothing -/
def nonS (l : Nat) : Prop := tg l = 5 ∨ tg l = 6 ∨ tg l = 33 ∨ tg l = 1 ∨ tg l = 2 ∨ tg l = 34 ∨ l = aMarks ∨ l = aLine ∨ l = aSteps
theorem nonS_u (i : Nat) : ¬ nonS (uA i) := by
  intro h
  unfold nonS at h
  rw [TGf.1 i] at h
  have e := DS.2.1 i
  rcases h with h | h | h | h | h | h | h | h | h <;> first | omega | (rw [h] at e; exact absurd e (by decide))
theorem nonS_k (i : Nat) : ¬ nonS (knA i) := by
  intro h
  have e : knA i % 274877906944 = 83764445408 := by unfold knA; omega
  have t : tg (knA i) = 32 := by unfold tg; omega
  unfold nonS at h
  rw [t] at h
  rcases h with h | h | h | h | h | h | h | h | h <;> first | omega | (rw [h] at e; exact absurd e (by decide))
theorem nonS_i {M : xm} {m : Int} (h : cU M m) : ¬ nonS (mR M (uA m.toNat) 5) := by
  intro g
  have t := h.i.1
  have e := h.2.2.1
  unfold nonS at g
  rw [t] at g
  split at e <;> rcases g with g | g | g | g | g | g | g | g | g <;> first | omega | (rw [g] at e; exact absurd e (by decide))
theorem cS_c {M M' : xm} {N : Int} (h : cS M N) (hR : inR M') (hr : ∀ l j, ¬ tg l = 5 → ¬ tg l = 33 → ¬ (tg l = 6 ∧ j = 0) → ¬ tg l = 35 → mR M' l j = mR M l j) (ha : ∀ l j, ¬ nonS l → mA M' l j = mA M l j) : cS M' N := by
  obtain ⟨p, ⟨s1, s2, s3, s4, s5, s6, s7⟩, ⟨n1, n2, n3⟩, u, z, c⟩ := h
  have rX : ∀ j, mR M' aX j = mR M aX j := fun j => hr _ _ (by decide) (by decide) (fun q => absurd q.1 (by decide)) (by decide)
  have rM : ∀ j, mR M' aM j = mR M aM j := fun j => hr _ _ (by decide) (by decide) (fun q => absurd q.1 (by decide)) (by decide)
  have rK : ∀ j, mR M' aRack j = mR M aRack j := fun j => hr _ _ (by decide) (by decide) (fun q => absurd q.1 (by decide)) (by decide)
  have rT : ∀ j, mR M' aTabs j = mR M aTabs j := fun j => hr _ _ (by decide) (by decide) (fun q => absurd q.1 (by decide)) (by decide)
  have rP : ∀ j, mR M' aPres j = mR M aPres j := fun j => hr _ _ (by decide) (by decide) (fun q => absurd q.1 (by decide)) (by decide)
  have rA : ∀ j, mR M' aTaks j = mR M aTaks j := fun j => hr _ _ (by decide) (by decide) (fun q => absurd q.1 (by decide)) (by decide)
  have rH : ∀ j, mR M' aHist j = mR M aHist j := fun j => hr _ _ (by decide) (by decide) (fun q => absurd q.1 (by decide)) (by decide)
  have rB : ∀ j, mR M' aBlok j = mR M aBlok j := fun j => hr _ _ (by decide) (by decide) (fun q => absurd q.1 (by decide)) (by decide)
  have rU : ∀ j, mR M' aUnits j = mR M aUnits j := fun j => hr _ _ (by decide) (by decide) (fun q => absurd q.1 (by decide)) (by decide)
  have r1 : ∀ j, mR M' aPlaces j = mR M aPlaces j := fun j => hr _ _ (by decide) (by decide) (fun q => absurd q.1 (by decide)) (by decide)
  have r2 : ∀ j, mR M' aPKn j = mR M aPKn j := fun j => hr _ _ (by decide) (by decide) (fun q => absurd q.1 (by decide)) (by decide)
  have ru : ∀ i j, mR M' (uA i) j = mR M (uA i) j := fun i j => by
    refine hr _ _ ?_ ?_ ?_ ?_ <;> simp [TGf]
  have rn : ∀ i, mR M' (nowA i) 7 = mR M (nowA i) 7 := fun i => by
    refine hr _ _ ?_ ?_ ?_ ?_ <;> simp [TGf]
  have rp : ∀ i, mR M' (psA i) 7 = mR M (psA i) 7 := fun i => by
    refine hr _ _ ?_ ?_ ?_ ?_ <;> simp [TGf]
  have ra : ∀ i j, mR M' (paA i) j = mR M (paA i) j := fun i j => by
    refine hr _ _ ?_ ?_ ?_ ?_ <;> simp [TGf]
  have aCo : ∀ j, mA M' amCo j = mA M amCo j := fun j => ha _ _ (by unfold nonS; decide)
  have aKd : ∀ j, mA M' amKd j = mA M amKd j := fun j => ha _ _ (by unfold nonS; decide)
  have aRk : ∀ j, mA M' amRk j = mA M amRk j := fun j => ha _ _ (by unfold nonS; decide)
  have aKn : ∀ j, mA M' amKn j = mA M amKn j := fun j => ha _ _ (by unfold nonS; decide)
  have aTm : ∀ j, mA M' amTm j = mA M amTm j := fun j => ha _ _ (by unfold nonS; decide)
  refine ⟨?_, ⟨?_, hR, fun j => by rw [aCo]; exact s3 j, fun j => by rw [aKd]; exact s4 j, fun j => by rw [aRk]; exact s5 j, fun j => by rw [aKn]; exact s6 j, fun j => by rw [aTm]; exact s7 j⟩, ⟨?_, ?_, n3⟩, fun m m0 m1 => ?_, fun m m0 m1 k5 => ?_, fun m i m0 m1 i0 i1 => ?_⟩
  · unfold cP at p ⊢
    simp only [rX, rK, rT, rP, rA, rH, rB, r1, r2]
    exact p
  · unfold mSt at s1 ⊢
    simp only [rM]
    exact s1
  · rw [ha _ _ (by unfold nonS; decide)]; exact n1
  · rw [ha _ _ (by unfold nonS; decide)]; exact n2
  · have g := u m m0 m1
    have gi := nonS_i g
    unfold cU at g ⊢
    simp only [rU, ru, rn, rp, ra, aKd, aRk, aKn, aCo, fun j => ha _ j gi, fun j => ha _ j (nonS_u m.toNat), fun j => ha _ j (nonS_k m.toNat)]
    exact g
  · rw [aKd] at k5
    rw [aCo]
    exact z m m0 m1 k5
  · rw [aCo]
    exact c m i m0 m1 i0 i1
theorem cTb_c {M M' : xm} (h : cTb M) (ha : ∀ l j, ¬ nonS l → mA M' l j = mA M l j) : cTb M' := by
  have aTm : ∀ j, mA M' amTm j = mA M amTm j := fun j => ha _ _ (by unfold nonS; decide)
  have aTb : ∀ j, mA M' amTb j = mA M amTb j := fun j => ha _ _ (by unfold nonS; decide)
  have aLn : ∀ j, mA M' aLens j = mA M aLens j := fun j => ha _ _ (by unfold nonS; decide)
  have at' : ∀ i j, mA M' (tbA i) j = mA M (tbA i) j := fun i j => ha _ _ (by
    intro h
    have e : tbA i % 274877906944 = 70885835808 := by unfold tbA; omega
    have t : tg (tbA i) = 32 := by unfold tg; omega
    unfold nonS at h
    rw [t] at h
    rcases h with h | h | h | h | h | h | h | h | h <;> first | omega | (rw [h] at e; exact absurd e (by decide)))
  unfold cTb at h ⊢
  simp only [aTm, aTb, aLn, at']
  exact h
