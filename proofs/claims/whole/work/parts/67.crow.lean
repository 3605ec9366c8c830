/-! 67.crow: the developers' own: rows, states, tables; what the JDK reckons -/
section J9
variable {M : xm}
theorem c_min (a b : Int) (ha : -2147483648 ≤ a ∧ a ≤ 2147483647) (hb : -2147483648 ≤ b ∧ b ≤ 2147483647) (Q : Option xv → xm → Prop) : Wp qJ9_min_7cf53 0 [vI a, vI b] [] M Q ↔ Q (some (vI (if b < a then b else a))) M := by
  by_cases c : b < a
  · rw [if_pos c]
    simp (disch := first | omega | (simp only [DT, DS, ne_eq, Nat.reduceEqDiff, not_false_eq_true]; done)) only [RJ9_min_7cf53, BW, wr_id, OM, OE, PL, ↓reduceIte, TGs, bi_T, bi_F, bi_ff, Nat.reduceLeDiff, Nat.reduceLT, Nat.reduceAdd]
  · rw [if_neg c]
    simp (disch := first | omega | (simp only [DT, DS, ne_eq, Nat.reduceEqDiff, not_false_eq_true]; done)) only [RJ9_min_7cf53, BW, wr_id, OM, OE, PL, ↓reduceIte, TGs, bi_T, bi_F, bi_ff, Nat.reduceLeDiff, Nat.reduceLT, Nat.reduceAdd]
theorem c_max (a b : Int) (ha : -2147483648 ≤ a ∧ a ≤ 2147483647) (hb : -2147483648 ≤ b ∧ b ≤ 2147483647) (Q : Option xv → xm → Prop) : Wp qJ9_max_7cf53 0 [vI a, vI b] [] M Q ↔ Q (some (vI (if a < b then b else a))) M := by
  by_cases c : a < b
  · rw [if_pos c]
    simp (disch := first | omega | (simp only [DT, DS, ne_eq, Nat.reduceEqDiff, not_false_eq_true]; done)) only [RJ9_max_7cf53, BW, wr_id, OM, OE, PL, ↓reduceIte, TGs, bi_T, bi_F, bi_ff, Nat.reduceLeDiff, Nat.reduceLT, Nat.reduceAdd]
  · rw [if_neg c]
    simp (disch := first | omega | (simp only [DT, DS, ne_eq, Nat.reduceEqDiff, not_false_eq_true]; done)) only [RJ9_max_7cf53, BW, wr_id, OM, OE, PL, ↓reduceIte, TGs, bi_T, bi_F, bi_ff, Nat.reduceLeDiff, Nat.reduceLT, Nat.reduceAdd]
theorem of_msb (a : Int) (ha : -2147483648 ≤ a ∧ a ≤ 2147483647) : (Int32.ofInt a).toBitVec.msb = decide (a < 0) := by
  rw [BitVec.msb_eq_toInt]
  congr 1
  rw [show (Int32.ofInt a).toBitVec.toInt = (Int32.ofInt a).toInt from rfl, Int32.toInt_ofInt, Int.bmod_eq_of_le (by have : (Int32.size : Int) = 4294967296 := rfl; omega) (by have : (Int32.size : Int) = 4294967296 := rfl; omega)]
theorem xor_neg (a b : Int) (ha : -2147483648 ≤ a ∧ a ≤ 2147483647) (hb : 0 < b ∧ b ≤ 2147483647) : wr (xixor a b) < 0 ↔ a < 0 := by
  have h1 : (Int32.ofInt a ^^^ Int32.ofInt b).toBitVec.msb = decide (a < 0) := by
    rw [Int32.toBitVec_xor, BitVec.msb_xor, of_msb a ha, of_msb b (by omega), decide_eq_false (show ¬ b < 0 by omega), Bool.xor_false]
  rw [BitVec.msb_eq_toInt] at h1
  have h2 : (Int32.ofInt a ^^^ Int32.ofInt b).toInt < 0 ↔ a < 0 := by
    have := decide_eq_decide.mp h1
    exact this
  have h3 : -2147483648 ≤ (Int32.ofInt a ^^^ Int32.ofInt b).toInt := Int32.le_toInt _
  have h4 : (Int32.ofInt a ^^^ Int32.ofInt b).toInt < 2147483648 := Int32.toInt_lt _
  unfold xixor
  rw [wr_id h3 (by omega)]
  exact h2
theorem c_floorMod (a b : Int) (ha : -2147483648 ≤ a ∧ a ≤ 2147483647) (hb : 0 < b ∧ b ≤ 2147483647) (Q : Option xv → xm → Prop) : Wp qJ9_floorMod_7cf53 0 [vI a, vI b, vX] [] M Q ↔ Q (some (vI (a % b))) M := by
  rw [← emod_t hb.1]
  have p1 : a.tmod b < b := Int.tmod_lt_of_pos a hb.1
  have p2 : (-a).tmod b < b := Int.tmod_lt_of_pos (-a) hb.1
  have p3 : (-a).tmod b = -(a.tmod b) := Int.neg_tmod a b
  have xe := xor_neg a b ha hb
  by_cases c : a < 0
  · have p4 : 0 ≤ (-a).tmod b := Int.tmod_nonneg b (by omega)
    by_cases c2 : a.tmod b < 0
    · rw [if_pos c2]
      simp (disch := first | omega | (simp only [DT, DS, ne_eq, Nat.reduceEqDiff, not_false_eq_true]; done)) only [RJ9_floorMod_7cf53, eq_true (xe.mpr c), BW, wr_id, OM, OE, PL, ↓reduceIte, TGs, bi_T, bi_F, bi_ff, Nat.reduceLeDiff, Nat.reduceLT, Nat.reduceAdd]
    · rw [if_neg c2]
      simp (disch := first | omega | (simp only [DT, DS, ne_eq, Nat.reduceEqDiff, not_false_eq_true]; done)) only [RJ9_floorMod_7cf53, eq_true (xe.mpr c), BW, wr_id, OM, OE, PL, ↓reduceIte, TGs, bi_T, bi_F, bi_ff, Nat.reduceLeDiff, Nat.reduceLT, Nat.reduceAdd]
  · have p4 : 0 ≤ a.tmod b := Int.tmod_nonneg b (by omega)
    rw [if_neg (by omega)]
    simp (disch := first | omega | (simp only [DT, DS, ne_eq, Nat.reduceEqDiff, not_false_eq_true]; done)) only [RJ9_floorMod_7cf53, eq_false (fun q => c (xe.mp q)), BW, wr_id, OM, OE, PL, ↓reduceIte, TGs, bi_T, bi_F, bi_ff, Nat.reduceLeDiff, Nat.reduceLT, Nat.reduceAdd]
end J9
section CR
variable {M : xm}
theorem c_isFloating {G : Nat} {kd : Int} (t : tg G = 5) (e : mA M G 0 = kd) (hk : 0 ≤ kd ∧ kd ≤ 4) (Q : Option xv → xm → Prop) : Wp qX4_isFloating 0 [vR G] [] M Q ↔ Q (some (vI (bi (3 ≤ kd)))) M := by
  by_cases c : 3 ≤ kd
  · rw [bi_t c]
    simp (disch := first | omega | (simp only [DT, DS, ne_eq, Nat.reduceEqDiff, not_false_eq_true]; done)) only [RX4_isFloating, t, e, BW, wr_id, OM, OE, PL, ↓reduceIte, TGs, bi_T, bi_F, bi_ff, Nat.reduceLeDiff, Nat.reduceLT, Nat.reduceAdd]
  · rw [bi_f c]
    simp (disch := first | omega | (simp only [DT, DS, ne_eq, Nat.reduceEqDiff, not_false_eq_true]; done)) only [RX4_isFloating, t, e, BW, wr_id, OM, OE, PL, ↓reduceIte, TGs, bi_T, bi_F, bi_ff, Nat.reduceLeDiff, Nat.reduceLT, Nat.reduceAdd]
theorem c_has {G : Nat} {n : Int} (t : tg G = 5) (e : mA M G 1 = n) (hn : 0 ≤ n ∧ n ≤ 16) (i : Int) (hi : -2147483648 ≤ i ∧ i ≤ 2147483647) (Q : Option xv → xm → Prop) : Wp qX4_has 0 [vR G, vI i] [] M Q ↔ Q (some (vI (bi (0 ≤ i ∧ i < n)))) M := by
  by_cases c1 : i < 0
  · rw [bi_f (by omega)]
    simp (disch := first | omega | (simp only [DT, DS, ne_eq, Nat.reduceEqDiff, not_false_eq_true]; done)) only [RX4_has, BW, wr_id, OM, OE, PL, ↓reduceIte, TGs, bi_T, bi_F, bi_ff, Nat.reduceLeDiff, Nat.reduceLT, Nat.reduceAdd]
  · by_cases c2 : i < n
    · rw [bi_t (by omega)]
      simp (disch := first | omega | (simp only [DT, DS, ne_eq, Nat.reduceEqDiff, not_false_eq_true]; done)) only [RX4_has, t, e, BW, wr_id, OM, OE, PL, ↓reduceIte, TGs, bi_T, bi_F, bi_ff, Nat.reduceLeDiff, Nat.reduceLT, Nat.reduceAdd]
    · rw [bi_f (by omega)]
      simp (disch := first | omega | (simp only [DT, DS, ne_eq, Nat.reduceEqDiff, not_false_eq_true]; done)) only [RX4_has, t, e, BW, wr_id, OM, OE, PL, ↓reduceIte, TGs, bi_T, bi_F, bi_ff, Nat.reduceLeDiff, Nat.reduceLT, Nat.reduceAdd]
theorem c_valueAt {G : Nat} {r : Rw} (h : cRw M G (some r)) (ho : okR r) (i : Int) (hi : -2147483648 ≤ i ∧ i ≤ 2147483647) (Q : Option xv → xm → Prop) : Wp qX4_valueAt 0 [vR G, vI i] [] M Q ↔ Q (some (vD (smV (some r) i))) M := by
  obtain ⟨⟨g1, t⟩, ⟨g3, g4, g5⟩, ⟨g6, g7⟩, g8⟩ := h
  have hl := ho.2.1
  have tv := g7.t (by omega)
  have q := c_has t g4 (by omega) i hi
  unfold smV
  dsimp only
  by_cases c : 0 ≤ i ∧ i < rwL r
  · have e := g8 i c.1 c.2
    have lv : (ln (mR M G 2) : Int) = rwL r := by rw [tv.2]; omega
    simp only [bi_t c] at q
    rw [if_pos (by omega)]
    simp (disch := first | omega | (simp only [DT, DS, ne_eq, Nat.reduceEqDiff, not_false_eq_true]; done)) only [RX4_valueAt, t, q, tv.1, lv, e, BW, wr_id, OM, OE, PL, ↓reduceIte, TGs, bi_T, bi_F, bi_ff, Nat.reduceLeDiff, Nat.reduceLT, Nat.reduceAdd]
  · simp only [bi_f c] at q
    rw [if_neg (by omega), show (0 : UInt64) = FP.dconst0 from rfl]
    simp (disch := first | omega | (simp only [DT, DS, ne_eq, Nat.reduceEqDiff, not_false_eq_true]; done)) only [RX4_valueAt, t, q, BW, wr_id, OM, OE, PL, ↓reduceIte, TGs, bi_T, bi_F, bi_ff, Nat.reduceLeDiff, Nat.reduceLT, Nat.reduceAdd]
theorem bt_z {a k : Int} (ha : 0 ≤ a ∧ a ≤ 2147483647) (hk : 0 ≤ k ∧ k ≤ 15) : (wr (xiand (xishr a k) 1) = 0) = ¬ (bt a k = true) := by
  have h2 : (0 : Int) < 2 ^ k.toNat := by
    have := pow_b hk.1 hk.2
    omega
  have h3 : 0 ≤ a / 2 ^ k.toNat := Int.ediv_nonneg ha.1 (by omega)
  have h4 : a / 2 ^ k.toNat ≤ a := Int.ediv_le_self _ ha.1
  rw [bt_n ha hk, shr_n ha hk, and_n (by omega), wr_id (by omega) (by omega), decide_eq_true_eq]
  exact propext ⟨fun q => by omega, fun q => by omega⟩
theorem c_lacks {G : Nat} {r : Rw} (h : cRw M G (some r)) (ho : okR r) (i : Int) (hi : -2147483648 ≤ i ∧ i ≤ 2147483647) (Q : Option xv → xm → Prop) : Wp qX4_lacksNumberAt 0 [vR G, vI i] [] M Q ↔ Q (some (vI (bi (noB (some r) i = true)))) M := by
  obtain ⟨⟨g1, t⟩, ⟨g3, g4, g5⟩, ⟨g6, g7⟩, g8⟩ := h
  have hl := ho.2.1
  have q := c_has t g4 (by omega) i hi
  have e : noB (some r) i = (decide (0 ≤ i ∧ i ≤ rwL r - 1) && bt (rwN r) i) := rfl
  rw [e]
  by_cases c : 0 ≤ i ∧ i < rwL r
  · simp only [bi_t c] at q
    rw [decide_eq_true (show 0 ≤ i ∧ i ≤ rwL r - 1 by omega), Bool.true_and]
    have hb : rwN r < 2 ^ 16 := by
      have h1 := ho.2.2.1.2
      have h2 : (2 : Int) ^ (rwL r).toNat ≤ 2 ^ 16 := by
        have : (2 : Nat) ^ (rwL r).toNat ≤ 2 ^ 16 := Nat.pow_le_pow_right (by omega) (by omega)
        exact_mod_cast this
      omega
    have z := bt_z (a := rwN r) (k := i) ⟨ho.2.2.1.1, by omega⟩ (by omega)
    cases cb : bt (rwN r) i
    · rw [cb] at z
      have z1 : wr (xiand (xishr (rwN r) i) 1) = 0 := z.mpr (by decide)
      simp (disch := first | omega | (simp only [DT, DS, ne_eq, Nat.reduceEqDiff, not_false_eq_true]; done)) only [RX4_lacksNumberAt, t, q, g5, z1, BW, wr_id, OM, OE, PL, ↓reduceIte, TGs, bi_T, bi_F, bi_ff, Nat.reduceLeDiff, Nat.reduceLT, Nat.reduceAdd]
    · rw [cb] at z
      have z1 : ¬ wr (xiand (xishr (rwN r) i) 1) = 0 := fun y => z.mp y rfl
      simp (disch := first | omega | (simp only [DT, DS, ne_eq, Nat.reduceEqDiff, not_false_eq_true]; done)) only [RX4_lacksNumberAt, t, q, g5, z1, BW, wr_id, OM, OE, PL, ↓reduceIte, TGs, bi_T, bi_F, bi_ff, Nat.reduceLeDiff, Nat.reduceLT, Nat.reduceAdd]
  · simp only [bi_f c] at q
    rw [decide_eq_false (show ¬ (0 ≤ i ∧ i ≤ rwL r - 1) by omega), Bool.false_and]
    simp (disch := first | omega | (simp only [DT, DS, ne_eq, Nat.reduceEqDiff, not_false_eq_true]; done)) only [RX4_lacksNumberAt, t, q, BW, wr_id, OM, OE, PL, ↓reduceIte, TGs, bi_T, bi_F, bi_ff, Nat.reduceLeDiff, Nat.reduceLT, Nat.reduceAdd]
/-- what comes into a row of kind kd -/
def ptF (kd : Int) (x : UInt64) : UInt64 := if kd = 3 then flF x else x
theorem c_put {L V : Nat} {kd n : Int} (t : tg L = 5) (e0 : mA M L 0 = kd) (e1 : mA M L 1 = n) (e2 : mR M L 2 = V) (tv : tg V = 33 ∧ (ln V : Int) = n) (hk : 0 ≤ kd ∧ kd ≤ 4) (hn : 0 ≤ n ∧ n ≤ 16) (k : Int) (hk0 : 0 ≤ k ∧ k < n) (x : UInt64) (hx : isNaN64 x = false) (Q : Option xv → xm → Prop) : Wp qX4_put 0 [vR L, vI k, vD x, vX] [] M Q ↔ Q none (wB M V k.toNat (ptF kd x)) := by
  have g3 := d2f_nn hx
  have g4 := f2d_nn g3
  unfold ptF flF
  by_cases c : kd = 3
  · rw [if_pos c]
    simp (disch := first | omega | (simp only [DT, DS, ne_eq, Nat.reduceEqDiff, not_false_eq_true]; done)) only [RX4_put, t, e0, e1, e2, tv.1, tv.2, c, g3, g4, BW, wr_id, OM, OE, PL, ↓reduceIte, TGs, bi_T, bi_F, bi_ff, Nat.reduceLeDiff, Nat.reduceLT, Nat.reduceAdd]
  · rw [if_neg c]
    simp (disch := first | omega | (simp only [DT, DS, ne_eq, Nat.reduceEqDiff, not_false_eq_true]; done)) only [RX4_put, t, e0, e1, e2, tv.1, tv.2, c, BW, wr_id, OM, OE, PL, ↓reduceIte, TGs, bi_T, bi_F, bi_ff, Nat.reduceLeDiff, Nat.reduceLT, Nat.reduceAdd]
theorem or_pow {a k : Int} (hk : 0 ≤ k ∧ k ≤ 15) (ha : 0 ≤ a ∧ a < 2 ^ k.toNat) : wr (xior a (xishl 1 k)) = a + 2 ^ k.toNat := by
  obtain ⟨p1, p2, p3⟩ := pow_b hk.1 hk.2
  rw [shl_1 hk.1 hk.2]
  have e1 : xior a (2 ^ k.toNat) = a + 2 ^ k.toNat := by
    unfold xior
    have hA := u32_n (a := a) (by omega)
    have hB := u32_n (a := (2 : Int) ^ k.toNat) (by omega)
    have h1 : (Int32.ofInt a ||| Int32.ofInt (2 ^ k.toNat)).toBitVec.toNat = a.toNat + 2 ^ k.toNat := by
      rw [Int32.toBitVec_or, BitVec.toNat_or, hA, hB]
      have e2 : ((2 : Int) ^ k.toNat).toNat = 2 ^ k.toNat := by
        have : ((2 : Int) ^ k.toNat) = ((2 ^ k.toNat : Nat) : Int) := by push_cast; rfl
        rw [this, Int.toNat_natCast]
      rw [e2]
      have hlt : a.toNat < 2 ^ k.toNat := by
        have : (a.toNat : Int) < ((2 ^ k.toNat : Nat) : Int) := by push_cast; omega
        exact_mod_cast this
      have := Nat.two_pow_add_eq_or_of_lt hlt 1
      rw [Nat.mul_one] at this
      rw [Nat.or_comm, ← this, Nat.add_comm]
    have h2 : (Int32.ofInt a ||| Int32.ofInt (2 ^ k.toNat)).toInt = ((a.toNat + 2 ^ k.toNat : Nat) : Int) := by
      show (Int32.ofInt a ||| Int32.ofInt (2 ^ k.toNat)).toBitVec.toInt = _
      rw [BitVec.toInt_eq_toNat_of_lt (by rw [h1]; have : ((2 ^ k.toNat : Nat) : Int) = 2 ^ k.toNat := by push_cast; rfl
                                          omega), h1]
    rw [h2]
    push_cast
    omega
  rw [e1, wr_id (by omega) (by omega)]
theorem c_putNo {L : Nat} {n a : Int} (t : tg L = 5) (e1 : mA M L 1 = n) (e3 : mA M L 3 = a) (hn : 0 ≤ n ∧ n ≤ 16) (k : Int) (hk0 : 0 ≤ k ∧ k < n) (ha : 0 ≤ a ∧ a < 2 ^ k.toNat) (Q : Option xv → xm → Prop) : Wp qX4_putNoNumber 0 [vR L, vI k] [] M Q ↔ Q none (wA M L 3 (a + 2 ^ k.toNat)) := by
  have q := c_has t e1 hn k (by omega)
  simp only [bi_t hk0] at q
  simp (disch := first | omega | (simp only [DT, DS, ne_eq, Nat.reduceEqDiff, not_false_eq_true]; done)) only [RX4_putNoNumber, t, q, e3, or_pow (show 0 ≤ k ∧ k ≤ 15 by omega) ha, BW, wr_id, OM, OE, PL, ↓reduceIte, TGs, bi_T, bi_F, bi_ff, Nat.reduceLeDiff, Nat.reduceLT, Nat.reduceAdd]
theorem c_held16 {S : Nat} (t : tg S = 6) (v : Int) (hv : -9223372036854775808 ≤ v ∧ v ≤ 9223372036854775807) (hsa : 0 ≤ mA M S 5 ∧ mA M S 5 ≤ 1000000000) (Q : Option xv → xm → Prop) : Wp qX5_heldWithin 0 [vR S, vI (-32768), vI 32767, vJ v, vX] [] M Q ↔ Q (some (vI (cz 32767 v))) (wA M S 5 (mA M S 5 + si 32767 v)) := by
  unfold si cz
  by_cases c1 : v < -32768
  · rw [if_neg (by omega), if_pos (by omega), if_neg (by omega)]
    simp (disch := first | omega | (simp only [DT, DS, ne_eq, Nat.reduceEqDiff, not_false_eq_true]; done)) only [RX5_heldWithin, t, w64_id, xl_c, BW, wr_id, OM, OE, PL, ↓reduceIte, TGs, bi_T, bi_F, bi_ff, Nat.reduceLeDiff, Nat.reduceLT, Nat.reduceAdd]
    rfl
  · by_cases c2 : 32767 < v
    · rw [if_pos (by omega), if_neg (by omega)]
      simp (disch := first | omega | (simp only [DT, DS, ne_eq, Nat.reduceEqDiff, not_false_eq_true]; done)) only [RX5_heldWithin, t, w64_id, xl_c, BW, wr_id, OM, OE, PL, ↓reduceIte, TGs, bi_T, bi_F, bi_ff, Nat.reduceLeDiff, Nat.reduceLT, Nat.reduceAdd]
    · rw [if_neg (by omega), if_neg (by omega), if_pos rfl, Int.add_zero, wA_self]
      simp (disch := first | omega | (simp only [DT, DS, ne_eq, Nat.reduceEqDiff, not_false_eq_true]; done)) only [RX5_heldWithin, t, w64_id, xl_c, BW, wr_id, OM, OE, PL, ↓reduceIte, TGs, bi_T, bi_F, bi_ff, Nat.reduceLeDiff, Nat.reduceLT, Nat.reduceAdd]
theorem c_held32 {S : Nat} (t : tg S = 6) (v : Int) (hv : -9223372036854775808 ≤ v ∧ v ≤ 9223372036854775807) (hsa : 0 ≤ mA M S 5 ∧ mA M S 5 ≤ 1000000000) (Q : Option xv → xm → Prop) : Wp qX5_heldWithin 0 [vR S, vI (-2147483648), vI 2147483647, vJ v, vX] [] M Q ↔ Q (some (vI (cz 2147483647 v))) (wA M S 5 (mA M S 5 + si 2147483647 v)) := by
  unfold si cz
  by_cases c1 : v < -2147483648
  · rw [if_neg (by omega), if_pos (by omega), if_neg (by omega)]
    simp (disch := first | omega | (simp only [DT, DS, ne_eq, Nat.reduceEqDiff, not_false_eq_true]; done)) only [RX5_heldWithin, t, w64_id, xl_c, BW, wr_id, OM, OE, PL, ↓reduceIte, TGs, bi_T, bi_F, bi_ff, Nat.reduceLeDiff, Nat.reduceLT, Nat.reduceAdd]
    rfl
  · by_cases c2 : 2147483647 < v
    · rw [if_pos (by omega), if_neg (by omega)]
      simp (disch := first | omega | (simp only [DT, DS, ne_eq, Nat.reduceEqDiff, not_false_eq_true]; done)) only [RX5_heldWithin, t, w64_id, xl_c, BW, wr_id, OM, OE, PL, ↓reduceIte, TGs, bi_T, bi_F, bi_ff, Nat.reduceLeDiff, Nat.reduceLT, Nat.reduceAdd]
    · rw [if_neg (by omega), if_neg (by omega), if_pos rfl, Int.add_zero, wA_self]
      simp (disch := first | omega | (simp only [DT, DS, ne_eq, Nat.reduceEqDiff, not_false_eq_true]; done)) only [RX5_heldWithin, t, w64_id, xl_c, BW, wr_id, OM, OE, PL, ↓reduceIte, TGs, bi_T, bi_F, bi_ff, Nat.reduceLeDiff, Nat.reduceLT, Nat.reduceAdd]
theorem c_fedAgo {S F : Nat} (t : tg S = 6) (e7 : mR M S 7 = F) (tf : tg F = 35 ∧ ln F = 4) (k : Int) (hk : -1000 ≤ k ∧ k ≤ 1000) (Q : Option xv → xm → Prop) : Wp qX5_fedAgo 0 [vR S, vI k] [] M Q ↔ Q (some (vR (mR M F (clp k - 1).toNat))) M := by
  have e : (if 1 < (if k < 4 then k else 4) then (if k < 4 then k else 4) else 1) = clp k := by
    unfold clp
    by_cases c1 : k < 1
    · rw [if_pos (show k < 4 by omega), if_neg (by omega), if_pos c1]
    · by_cases c2 : 4 < k
      · rw [if_neg (show ¬ k < 4 by omega), if_pos (by omega), if_neg c1, if_pos c2]
      · rw [if_neg c1, if_neg c2]
        by_cases c3 : k < 4
        · rw [if_pos c3]
          by_cases c4 : 1 < k
          · rw [if_pos c4]
          · rw [if_neg c4]; omega
        · rw [if_neg c3, if_pos (by omega)]; omega
  have hc : 1 ≤ clp k ∧ clp k ≤ 4 := by
    unfold clp
    split
    · omega
    · split <;> omega
  have hb : -1000 ≤ (if k < 4 then k else 4) ∧ (if k < 4 then k else 4) ≤ 1000 := by split <;> omega
  generalize hz : (if k < 4 then k else 4) = z at e hb
  simp (disch := first | omega | (simp only [DT, DS, ne_eq, Nat.reduceEqDiff, not_false_eq_true]; done)) only [RX5_fedAgo, t, e7, c_min, hz, c_max, e, tf.1, tf.2, BW, wr_id, OM, OE, PL, ↓reduceIte, TGs, bi_T, bi_F, bi_ff, Nat.reduceLeDiff, Nat.reduceLT, Nat.reduceAdd]
end CR
section CT
variable {M : xm} {N : Int}
/-- tables: what both have -/
def cTb (M : xm) : Prop := (∀ t : Int, 0 ≤ t → t ≤ 7 → mA M aLens t.toNat = mA M amTm t.toNat - 1) ∧ ∀ t i : Int, 0 ≤ t → t ≤ 7 → 0 ≤ i → i ≤ 15 → mA M (tbA t.toNat) i.toNat = mA M amTb (16 * t + i).toNat
def tlF (M : xm) (t : Int) : Int := if 0 ≤ t ∧ t ≤ 7 then mA M amTm t.toNat - 1 else -1
theorem tlF_b {t : Int} (h : cS M N) : -1 ≤ tlF M t ∧ tlF M t ≤ 16 := by
  unfold tlF
  have := h.2.1.2.2.2.2.2.2 t.toNat
  split <;> omega
theorem c_thas (t : Int) (ht : -2147483648 ≤ t ∧ t ≤ 2147483647) (Q : Option xv → xm → Prop) : Wp qX6_has 0 [vR aTabs, vI t] [] M Q ↔ Q (some (vI (bi (0 ≤ t ∧ t ≤ 7)))) M := by
  by_cases c1 : t < 0
  · rw [bi_f (by omega)]
    simp (disch := first | omega | (simp only [DT, DS, ne_eq, Nat.reduceEqDiff, not_false_eq_true]; done)) only [RX6_has, BW, wr_id, OM, OE, PL, ↓reduceIte, TGs, bi_T, bi_F, bi_ff, Nat.reduceLeDiff, Nat.reduceLT, Nat.reduceAdd]
  · by_cases c2 : t < 8
    · rw [bi_t (by omega)]
      simp (disch := first | omega | (simp only [DT, DS, ne_eq, Nat.reduceEqDiff, not_false_eq_true]; done)) only [RX6_has, BW, wr_id, OM, OE, PL, ↓reduceIte, TGs, bi_T, bi_F, bi_ff, Nat.reduceLeDiff, Nat.reduceLT, Nat.reduceAdd]
    · rw [bi_f (by omega)]
      simp (disch := first | omega | (simp only [DT, DS, ne_eq, Nat.reduceEqDiff, not_false_eq_true]; done)) only [RX6_has, BW, wr_id, OM, OE, PL, ↓reduceIte, TGs, bi_T, bi_F, bi_ff, Nat.reduceLeDiff, Nat.reduceLT, Nat.reduceAdd]
theorem c_lengthOf (h : cS M N) (hT : cTb M) (t : Int) (ht : -2147483648 ≤ t ∧ t ≤ 2147483647) (Q : Option xv → xm → Prop) : Wp qX6_lengthOf 0 [vR aTabs, vI t] [] M Q ↔ Q (some (vI (tlF M t))) M := by
  have hR' := h.r
  have q := c_thas (M := M) t ht
  unfold tlF
  by_cases c : 0 ≤ t ∧ t ≤ 7
  · simp only [bi_t c] at q
    rw [if_pos c]
    simp (disch := first | omega | (simp only [DT, DS, ne_eq, Nat.reduceEqDiff, not_false_eq_true]; done)) only [RX6_lengthOf, cP.e h.1, q, hT.1, BW, wr_id, OM, OE, PL, ↓reduceIte, TGs, bi_T, bi_F, bi_ff, Nat.reduceLeDiff, Nat.reduceLT, Nat.reduceAdd]
  · simp only [bi_f c] at q
    rw [if_neg c]
    simp (disch := first | omega | (simp only [DT, DS, ne_eq, Nat.reduceEqDiff, not_false_eq_true]; done)) only [RX6_lengthOf, cP.e h.1, q, BW, wr_id, OM, OE, PL, ↓reduceIte, TGs, bi_T, bi_F, bi_ff, Nat.reduceLeDiff, Nat.reduceLT, Nat.reduceAdd]
theorem c_isMissing (h : cS M N) (hT : cTb M) (t : Int) (ht : -2147483648 ≤ t ∧ t ≤ 2147483647) (Q : Option xv → xm → Prop) : Wp qX6_isMissing 0 [vR aTabs, vI t] [] M Q ↔ Q (some (vI (bi (tlF M t = -1)))) M := by
  have q := c_lengthOf h hT t ht
  have hb := tlF_b (t := t) h
  by_cases c : tlF M t = -1
  · rw [bi_t c]
    simp only [c] at q
    simp (disch := first | omega | (simp only [DT, DS, ne_eq, Nat.reduceEqDiff, not_false_eq_true]; done)) only [RX6_isMissing, q, BW, wr_id, OM, OE, PL, ↓reduceIte, TGs, bi_T, bi_F, bi_ff, Nat.reduceLeDiff, Nat.reduceLT, Nat.reduceAdd]
  · rw [bi_f c]
    simp (disch := first | omega | (simp only [DT, DS, ne_eq, Nat.reduceEqDiff, not_false_eq_true]; done)) only [RX6_isMissing, q, BW, wr_id, OM, OE, PL, ↓reduceIte, TGs, bi_T, bi_F, bi_ff, Nat.reduceLeDiff, Nat.reduceLT, Nat.reduceAdd]
theorem c_hasPlace (h : cS M N) (hT : cTb M) (t i : Int) (ht : -2147483648 ≤ t ∧ t ≤ 2147483647) (hi : -2147483648 ≤ i ∧ i ≤ 2147483647) (Q : Option xv → xm → Prop) : Wp qX6_hasPlace 0 [vR aTabs, vI t, vI i] [] M Q ↔ Q (some (vI (bi (0 ≤ i ∧ i < tlF M t)))) M := by
  have q := c_lengthOf h hT t ht
  have hb := tlF_b (t := t) h
  by_cases c1 : i < 0
  · rw [bi_f (by omega)]
    simp (disch := first | omega | (simp only [DT, DS, ne_eq, Nat.reduceEqDiff, not_false_eq_true]; done)) only [RX6_hasPlace, BW, wr_id, OM, OE, PL, ↓reduceIte, TGs, bi_T, bi_F, bi_ff, Nat.reduceLeDiff, Nat.reduceLT, Nat.reduceAdd]
  · by_cases c2 : i < tlF M t
    · rw [bi_t (by omega)]
      simp (disch := first | omega | (simp only [DT, DS, ne_eq, Nat.reduceEqDiff, not_false_eq_true]; done)) only [RX6_hasPlace, q, BW, wr_id, OM, OE, PL, ↓reduceIte, TGs, bi_T, bi_F, bi_ff, Nat.reduceLeDiff, Nat.reduceLT, Nat.reduceAdd]
    · rw [bi_f (by omega)]
      simp (disch := first | omega | (simp only [DT, DS, ne_eq, Nat.reduceEqDiff, not_false_eq_true]; done)) only [RX6_hasPlace, q, BW, wr_id, OM, OE, PL, ↓reduceIte, TGs, bi_T, bi_F, bi_ff, Nat.reduceLeDiff, Nat.reduceLT, Nat.reduceAdd]
theorem tl_in {t i : Int} (h : 0 ≤ i ∧ i < tlF M t) : 0 ≤ t ∧ t ≤ 7 := by
  unfold tlF at h
  by_cases c : 0 ≤ t ∧ t ≤ 7
  · exact c
  · rw [if_neg c] at h
    omega
theorem c_tat (h : cS M N) (hT : cTb M) (t i : Int) (ht : -2147483648 ≤ t ∧ t ≤ 2147483647) (hi : 0 ≤ i ∧ i < tlF M t) (Q : Option xv → xm → Prop) : Wp qX6_at 0 [vR aTabs, vI t, vI i] [] M Q ↔ Q (some (vI (mA M amTb (16 * t + i).toNat))) M := by
  have hR' := h.r
  have hb := tlF_b (t := t) h
  have q := c_hasPlace h hT t i ht (by omega)
  simp only [bi_t hi] at q
  have c := tl_in hi
  have e := hT.2 t i c.1 c.2 hi.1 (by omega)
  simp (disch := first | omega | (simp only [DT, DS, ne_eq, Nat.reduceEqDiff, not_false_eq_true]; done)) only [RX6_at, cP.e h.1, q, TGf, e, BW, wr_id, OM, OE, PL, ↓reduceIte, TGs, bi_T, bi_F, bi_ff, Nat.reduceLeDiff, Nat.reduceLT, Nat.reduceAdd]
end CT
