/-! 81.cqry: the developers' own: what rows answer -/
theorem i32_of {v : Int32} {n : Nat} (h : v.toBitVec.toNat = n) (hn : n < 2147483648) : v.toInt = (n : Int) := by
  show v.toBitVec.toInt = _
  rw [BitVec.toInt_eq_toNat_of_lt (by rw [h]; omega), h]
theorem and_N {a b : Nat} (ha : a < 2147483648) (hb : b < 2147483648) : xiand (a : Int) (b : Int) = ((a &&& b : Nat) : Int) := by
  unfold xiand
  refine i32_of ?_ (Nat.lt_of_le_of_lt Nat.and_le_left ha)
  rw [Int32.toBitVec_and, BitVec.toNat_and, u32_n (by omega), u32_n (by omega), Int.toNat_natCast, Int.toNat_natCast]
theorem ush_N {a k : Nat} (ha : a < 2147483648) (hk : k = 1 ∨ k = 2 ∨ k = 4 ∨ k = 8 ∨ k = 16) : xiushr (a : Int) (k : Int) = ((a >>> k : Nat) : Int) := by
  unfold xiushr
  have e : ((Int32.ofInt (k : Int)).toUInt32 &&& Int32.toUInt32 31).toNat = k := by
    rcases hk with rfl | rfl | rfl | rfl | rfl <;> decide
  have hs : a >>> k ≤ a := Nat.shiftRight_le a k
  refine i32_of ?_ (by omega)
  show ((Int32.ofInt (a : Int)).toUInt32 >>> ((Int32.ofInt (k : Int)).toUInt32 &&& Int32.toUInt32 31)).toNat = a >>> k
  rw [UInt32.toNat_shiftRight, e, Nat.mod_eq_of_lt (by omega)]
  have e2 : (Int32.ofInt (a : Int)).toUInt32.toNat = a := by
    have := u32_n (a := (a : Int)) (by omega)
    rw [Int.toNat_natCast] at this
    exact this
  rw [e2]
theorem c_bitCount {x : Nat} (h : x < 65536) (M : xm) (Q : Option xv → xm → Prop) : Wp qJ6_bitCount_0f7a4 0 [vI (x : Int)] [] M Q ↔ Q (some (vI ((nn16 x : Nat) : Int))) M := by
  rw [← bc_nn h]
  have s1 : x >>> 1 ≤ x := Nat.shiftRight_le x 1
  have a1 : (x >>> 1) &&& 1431655765 ≤ x >>> 1 := Nat.and_le_left
  have u1 := ush_N (a := x) (k := 1) (by omega) (by omega)
  have n1 := and_N (a := x >>> 1) (b := 1431655765) (by omega) (by omega)
  have b1 : (x : Int) - (((x >>> 1) &&& 1431655765 : Nat) : Int) = ((x - ((x >>> 1) &&& 1431655765) : Nat) : Int) := by omega
  generalize ha : x - ((x >>> 1) &&& 1431655765) = a at *
  have ha' : a < 65536 := by omega
  have u2 := ush_N (a := a) (k := 2) (by omega) (by omega)
  have s2 : a >>> 2 ≤ a := Nat.shiftRight_le a 2
  have n2 := and_N (a := a) (b := 858993459) (by omega) (by omega)
  have n3 := and_N (a := a >>> 2) (b := 858993459) (by omega) (by omega)
  have a2 : a &&& 858993459 ≤ a := Nat.and_le_left
  have a3 : (a >>> 2) &&& 858993459 ≤ a >>> 2 := Nat.and_le_left
  have b2 : ((a &&& 858993459 : Nat) : Int) + (((a >>> 2) &&& 858993459 : Nat) : Int) = (((a &&& 858993459) + ((a >>> 2) &&& 858993459) : Nat) : Int) := by omega
  generalize hb : (a &&& 858993459) + ((a >>> 2) &&& 858993459) = b at *
  have hb' : b < 131072 := by omega
  have u4 := ush_N (a := b) (k := 4) (by omega) (by omega)
  have s4 : b >>> 4 ≤ b := Nat.shiftRight_le b 4
  have b3 : (b : Int) + ((b >>> 4 : Nat) : Int) = ((b + b >>> 4 : Nat) : Int) := by omega
  have n4 := and_N (a := b + b >>> 4) (b := 252645135) (by omega) (by omega)
  have a4 : (b + b >>> 4) &&& 252645135 ≤ b + b >>> 4 := Nat.and_le_left
  generalize hc : (b + b >>> 4) &&& 252645135 = c at *
  have hc' : c < 262144 := by omega
  have u8 := ush_N (a := c) (k := 8) (by omega) (by omega)
  have s8 : c >>> 8 ≤ c := Nat.shiftRight_le c 8
  have b4 : (c : Int) + ((c >>> 8 : Nat) : Int) = ((c + c >>> 8 : Nat) : Int) := by omega
  generalize hd : c + c >>> 8 = d at *
  have hd' : d < 524288 := by omega
  have u16 := ush_N (a := d) (k := 16) (by omega) (by omega)
  have s16 : d >>> 16 ≤ d := Nat.shiftRight_le d 16
  have b5 : (d : Int) + ((d >>> 16 : Nat) : Int) = ((d + d >>> 16 : Nat) : Int) := by omega
  have n5 := and_N (a := d + d >>> 16) (b := 63) (by omega) (by omega)
  have eb : bcN x = (d + d >>> 16) &&& 63 := by
    unfold bcN
    dsimp only
    rw [ha, hb, hc, hd]
  rw [eb]
  have k1 : ((1 : Nat) : Int) = 1 := rfl
  have k2 : ((2 : Nat) : Int) = 2 := rfl
  have k4 : ((4 : Nat) : Int) = 4 := rfl
  have k8 : ((8 : Nat) : Int) = 8 := rfl
  have k16 : ((16 : Nat) : Int) = 16 := rfl
  have k63 : ((63 : Nat) : Int) = 63 := rfl
  have c1 : ((1431655765 : Nat) : Int) = 1431655765 := rfl
  have c2 : ((858993459 : Nat) : Int) = 858993459 := rfl
  have c3 : ((252645135 : Nat) : Int) = 252645135 := rfl
  rw [k1] at u1
  rw [k2] at u2
  rw [k4] at u4
  rw [k8] at u8
  rw [k16] at u16
  rw [c1] at n1
  rw [c2] at n2 n3
  rw [c3] at n4
  rw [k63] at n5
  simp only [RJ6_bitCount_0f7a4, BW, u1, n1, b1, u2, n2, n3, b2, u4, b3, n4, u8, b4, u16, b5, n5]
theorem bt_v {a k : Int} (ha : 0 ≤ a ∧ a ≤ 2147483647) (hk : 0 ≤ k ∧ k ≤ 15) : (if bt a k = true then (1 : Int) else 0) = a / 2 ^ k.toNat % 2 := by
  rw [bt_n ha hk]
  have := Int.emod_two_eq (a / 2 ^ k.toNat)
  rcases this with e | e
  · rw [e, if_neg (by decide)]
  · rw [e, if_pos (by decide)]
theorem cst (x : Nat) : ((x % 2 : Nat) : Int) = (x : Int) % 2 ∧ ((x / 2 % 2 : Nat) : Int) = (x : Int) / 2 % 2 ∧ ((x / 4 % 2 : Nat) : Int) = (x : Int) / 4 % 2 ∧ ((x / 8 % 2 : Nat) : Int) = (x : Int) / 8 % 2 ∧ ((x / 16 % 2 : Nat) : Int) = (x : Int) / 16 % 2 ∧ ((x / 32 % 2 : Nat) : Int) = (x : Int) / 32 % 2 ∧ ((x / 64 % 2 : Nat) : Int) = (x : Int) / 64 % 2 ∧ ((x / 128 % 2 : Nat) : Int) = (x : Int) / 128 % 2 ∧ ((x / 256 % 2 : Nat) : Int) = (x : Int) / 256 % 2 ∧ ((x / 512 % 2 : Nat) : Int) = (x : Int) / 512 % 2 ∧ ((x / 1024 % 2 : Nat) : Int) = (x : Int) / 1024 % 2 ∧ ((x / 2048 % 2 : Nat) : Int) = (x : Int) / 2048 % 2 ∧ ((x / 4096 % 2 : Nat) : Int) = (x : Int) / 4096 % 2 ∧ ((x / 8192 % 2 : Nat) : Int) = (x : Int) / 8192 % 2 ∧ ((x / 16384 % 2 : Nat) : Int) = (x : Int) / 16384 % 2 ∧ ((x / 32768 % 2 : Nat) : Int) = (x : Int) / 32768 % 2 := ⟨by omega, by omega, by omega, by omega, by omega, by omega, by omega, by omega, by omega, by omega, by omega, by omega, by omega, by omega, by omega, by omega⟩
theorem nn_16 {x : Nat} (h : x < 65536) : nnF (x : Int) 16 = ((nn16 x : Nat) : Int) := by
  have st : ∀ k : Nat, k ≤ 15 → nnF (x : Int) (k + 1) = nnF (x : Int) k + (x : Int) / 2 ^ k % 2 := fun k hk => by
    have b := bt_v (a := (x : Int)) (k := (k : Int)) (by omega) (by omega)
    rw [Int.toNat_natCast] at b
    rw [nnF, b]
  have e0 : nnF (x : Int) 0 = 0 := rfl
  have e1 : nnF (x : Int) 1 = nnF (x : Int) 0 + (x : Int) / 1 % 2 := (st 0 (by omega)).trans (by rw [show (2 : Int) ^ 0 = 1 from rfl])
  have e2 : nnF (x : Int) 2 = nnF (x : Int) 1 + (x : Int) / 2 % 2 := (st 1 (by omega)).trans (by rw [show (2 : Int) ^ 1 = 2 from rfl])
  have e3 : nnF (x : Int) 3 = nnF (x : Int) 2 + (x : Int) / 4 % 2 := (st 2 (by omega)).trans (by rw [show (2 : Int) ^ 2 = 4 from rfl])
  have e4 : nnF (x : Int) 4 = nnF (x : Int) 3 + (x : Int) / 8 % 2 := (st 3 (by omega)).trans (by rw [show (2 : Int) ^ 3 = 8 from rfl])
  have e5 : nnF (x : Int) 5 = nnF (x : Int) 4 + (x : Int) / 16 % 2 := (st 4 (by omega)).trans (by rw [show (2 : Int) ^ 4 = 16 from rfl])
  have e6 : nnF (x : Int) 6 = nnF (x : Int) 5 + (x : Int) / 32 % 2 := (st 5 (by omega)).trans (by rw [show (2 : Int) ^ 5 = 32 from rfl])
  have e7 : nnF (x : Int) 7 = nnF (x : Int) 6 + (x : Int) / 64 % 2 := (st 6 (by omega)).trans (by rw [show (2 : Int) ^ 6 = 64 from rfl])
  have e8 : nnF (x : Int) 8 = nnF (x : Int) 7 + (x : Int) / 128 % 2 := (st 7 (by omega)).trans (by rw [show (2 : Int) ^ 7 = 128 from rfl])
  have e9 : nnF (x : Int) 9 = nnF (x : Int) 8 + (x : Int) / 256 % 2 := (st 8 (by omega)).trans (by rw [show (2 : Int) ^ 8 = 256 from rfl])
  have e10 : nnF (x : Int) 10 = nnF (x : Int) 9 + (x : Int) / 512 % 2 := (st 9 (by omega)).trans (by rw [show (2 : Int) ^ 9 = 512 from rfl])
  have e11 : nnF (x : Int) 11 = nnF (x : Int) 10 + (x : Int) / 1024 % 2 := (st 10 (by omega)).trans (by rw [show (2 : Int) ^ 10 = 1024 from rfl])
  have e12 : nnF (x : Int) 12 = nnF (x : Int) 11 + (x : Int) / 2048 % 2 := (st 11 (by omega)).trans (by rw [show (2 : Int) ^ 11 = 2048 from rfl])
  have e13 : nnF (x : Int) 13 = nnF (x : Int) 12 + (x : Int) / 4096 % 2 := (st 12 (by omega)).trans (by rw [show (2 : Int) ^ 12 = 4096 from rfl])
  have e14 : nnF (x : Int) 14 = nnF (x : Int) 13 + (x : Int) / 8192 % 2 := (st 13 (by omega)).trans (by rw [show (2 : Int) ^ 13 = 8192 from rfl])
  have e15 : nnF (x : Int) 15 = nnF (x : Int) 14 + (x : Int) / 16384 % 2 := (st 14 (by omega)).trans (by rw [show (2 : Int) ^ 14 = 16384 from rfl])
  have e16 : nnF (x : Int) 16 = nnF (x : Int) 15 + (x : Int) / 32768 % 2 := (st 15 (by omega)).trans (by rw [show (2 : Int) ^ 15 = 32768 from rfl])
  rw [e16, e15, e14, e13, e12, e11, e10, e9, e8, e7, e6, e5, e4, e3, e2, e1, e0, Int.zero_add, Int.ediv_one]
  unfold nn16
  simp only [Int.natCast_add, cst x]
theorem nn_le {mk : Int} {n : Nat} (hn : n ≤ 16) (h : 0 ≤ mk ∧ mk < 2 ^ n) : ∀ d, n + d ≤ 16 → nnF mk (n + d) = nnF mk n
  | 0, _ => rfl
  | d + 1, hd => by
    have ih := nn_le hn h d (by omega)
    show nnF mk (n + d) + (if bt mk ((n + d : Nat) : Int) = true then 1 else 0) = nnF mk n
    have e : bt mk ((n + d : Nat) : Int) = false := by
      have := bt_hi (a := mk) (k := (n : Int)) (i := ((n + d : Nat) : Int)) (by omega) (by rw [Int.toNat_natCast]; exact h) (by omega)
      exact this
    rw [ih, e, if_neg (by decide), Int.add_zero]
theorem mk_16 {r : Rw} (ho : okR r) : 0 ≤ rwN r ∧ rwN r < 65536 := by
  have hl := ho.2.1
  have h1 := ho.2.2.1
  have h2 : (2 : Int) ^ (rwL r).toNat ≤ 2 ^ 16 := by
    have : (2 : Nat) ^ (rwL r).toNat ≤ 2 ^ 16 := Nat.pow_le_pow_right (by omega) (by omega)
    exact_mod_cast this
  omega
theorem c_noneCount {M : xm} {G : Nat} {r : Rw} (h : cRw M G (some r)) (ho : okR r) (Q : Option xv → xm → Prop) : Wp qX4_noneCount 0 [vR G] [] M Q ↔ Q (some (vI (nnF (rwN r) (rwL r).toNat))) M := by
  have hm := mk_16 ho
  have hl := ho.2.1
  have e : (((rwN r).toNat : Nat) : Int) = rwN r := by omega
  have q := c_bitCount (x := (rwN r).toNat) (by omega) M
  rw [e, ← nn_16 (by omega), e] at q
  have g := nn_le (mk := rwN r) (n := (rwL r).toNat) (by omega) ho.2.2.1 (16 - (rwL r).toNat) (by omega)
  rw [show (rwL r).toNat + (16 - (rwL r).toNat) = 16 by omega] at g
  rw [g] at q
  have t := h.1.2
  have g5 := h.2.1.2.2
  simp (disch := first | omega | (simp only [DT, DS, ne_eq, Nat.reduceEqDiff, not_false_eq_true]; done)) only [RX4_noneCount, t, g5, q, BW, wr_id, OM, OE, PL, ↓reduceIte, TGs, bi_T, bi_F, bi_ff, Nat.reduceLeDiff, Nat.reduceLT, Nat.reduceAdd]
theorem all_z {mk : Int} : ∀ n : Nat, n ≤ 16 → 0 ≤ mk ∧ mk < 2 ^ n → (∀ i : Nat, i < n → bt mk (i : Int) = false) → mk = 0
  | 0, _, h, _ => by
    have := h.2
    rw [show (2 : Int) ^ 0 = 1 from rfl] at this
    omega
  | n + 1, hn, h, hb => by
    have p := pow_b (k := (n : Int)) (by omega) (by omega)
    rw [show ((n : Int) + 1).toNat = n + 1 by omega, Int.toNat_natCast] at p
    have e := hb n (by omega)
    have hb2 : mk ≤ 2147483647 := by
      have h2 : (2 : Int) ^ (n + 1) ≤ 2 ^ 16 := by
        have : (2 : Nat) ^ (n + 1) ≤ 2 ^ 16 := Nat.pow_le_pow_right (by omega) (by omega)
        exact_mod_cast this
      omega
    rw [bt_n ⟨h.1, hb2⟩ (by omega), Int.toNat_natCast] at e
    have e' := of_decide_eq_false e
    refine all_z n (by omega) ⟨h.1, ?_⟩ (fun i hi => hb i (by omega))
    generalize hP : (2 : Int) ^ n = P at *
    have hlt : mk < 2 * P := by omega
    have hP0 : 0 < P := by omega
    have q1 : mk / P < 2 := Int.ediv_lt_of_lt_mul hP0 hlt
    have q2 : 0 ≤ mk / P := Int.ediv_nonneg h.1 (by omega)
    have q3 : mk / P = 0 := by omega
    have q4 := Int.emod_add_mul_ediv mk P
    rw [q3, Int.mul_zero, Int.add_zero] at q4
    have q5 := Int.emod_lt_of_pos mk hP0
    omega
theorem sl_f {mk : Int} {v : Int → UInt64} : ∀ n : Nat, slF mk v n = true → ∀ i : Nat, i < n → bt mk (i : Int) = false
  | 0, _, i, hi => absurd hi (Nat.not_lt_zero i)
  | n + 1, h, i, hi => by
    have g := Bool.and_eq_true_iff.mp h
    have g2 := Bool.and_eq_true_iff.mp g.1
    by_cases e : i = n
    · rw [e]
      cases z : bt mk (n : Int)
      · rfl
      · rw [z] at g2
        exact absurd g2.2 (by decide)
    · exact sl_f n g2.1 i (by omega)
theorem l_silent {M : xm} {G : Nat} {r : Rw} (h : cRw M G (some r)) (ho : okR r) (hz : rwN r = 0) (Q : Option xv → xm → Prop) : ∀ (d : Nat) (k : Int), k + d = rwL r → 0 ≤ k → slF (rwN r) (rwV r) k.toNat = true → (Wp qX4_isSilent 11 [vR G, vI k] [] M Q ↔ Q (some (vI (bi (slF (rwN r) (rwV r) (rwL r).toNat = true)))) M)
  | 0, k, hd, h0, hs => by
    have hl := ho.2.1
    have t := h.1.2
    have e1 := h.2.1.2.1
    obtain rfl : k = rwL r := by omega
    rw [HX4_isSilent_11, bi_t hs]
    simp (disch := first | omega | (simp only [DT, DS, ne_eq, Nat.reduceEqDiff, not_false_eq_true]; done)) only [RX4_isSilent, t, e1, BW, wr_id, OM, OE, PL, ↓reduceIte, TGs, bi_T, bi_F, bi_ff, Nat.reduceLeDiff, Nat.reduceLT, Nat.reduceAdd]
  | d + 1, k, hd, h0, hs => by
    obtain ⟨⟨g1, t⟩, ⟨g3, g4, g5⟩, ⟨g6, g7⟩, g8⟩ := id h
    have hl := ho.2.1
    have tv := g7.t (by omega)
    have lv : (ln (mR M G 2) : Int) = rwL r := by rw [tv.2]; omega
    have e := g8 k h0 (by omega)
    have ih := l_silent h ho hz Q d (k + 1) (by omega) (by omega)
    rw [show (k + 1).toNat = k.toNat + 1 by omega, slF, hs, show ((k.toNat : Nat) : Int) = k by omega, hz, bt_0 k (by omega)] at ih
    rw [HX4_isSilent_11]
    by_cases c : FP.dcmp (rwV r k) FP.dconst0 = some .eq
    · rw [hz]
      have g := ih (by rw [decide_eq_true c]; rfl)
      simp (disch := first | omega | (simp only [DT, DS, ne_eq, Nat.reduceEqDiff, not_false_eq_true]; done)) only [RX4_isSilent, t, g4, tv.1, lv, e, cmp_l, c, BW, wr_id, OM, OE, PL, ↓reduceIte, TGs, bi_T, bi_F, bi_ff, Nat.reduceLeDiff, Nat.reduceLT, Nat.reduceAdd]
      exact g
    · have f : ∀ j, slF (rwN r) (rwV r) (k.toNat + 1 + j) = false := fun j => by
        induction j with
        | zero =>
          show (slF (rwN r) (rwV r) k.toNat && !bt (rwN r) ((k.toNat : Nat) : Int) && decide (FP.dcmp (rwV r ((k.toNat : Nat) : Int)) FP.dconst0 = some .eq)) = false
          rw [show ((k.toNat : Nat) : Int) = k by omega, decide_eq_false c, Bool.and_false]
        | succ j ihj =>
          show (slF (rwN r) (rwV r) (k.toNat + 1 + j) && !bt (rwN r) _ && _) = false
          rw [ihj]
          rfl
      have f2 := f d
      rw [show k.toNat + 1 + d = (rwL r).toNat by omega] at f2
      rw [f2]
      simp (disch := first | omega | (simp only [DT, DS, ne_eq, Nat.reduceEqDiff, not_false_eq_true]; done)) only [RX4_isSilent, t, g4, tv.1, lv, e, cmp_l, c, BW, wr_id, OM, OE, PL, ↓reduceIte, TGs, bi_T, bi_F, bi_ff, Nat.reduceLeDiff, Nat.reduceLT, Nat.reduceAdd]
theorem c_isSilent {M : xm} {G : Nat} {r : Rw} (h : cRw M G (some r)) (ho : okR r) (Q : Option xv → xm → Prop) : Wp qX4_isSilent 0 [vR G, vX] [] M Q ↔ Q (some (vI (bi (slF (rwN r) (rwV r) (rwL r).toNat = true)))) M := by
  have hm := mk_16 ho
  have hl := ho.2.1
  have t := h.1.2
  have g5 := h.2.1.2.2
  by_cases c : rwN r = 0
  · have g := l_silent h ho c Q (rwL r).toNat 0 (by omega) (by omega) rfl
    simp (disch := first | omega | (simp only [DT, DS, ne_eq, Nat.reduceEqDiff, not_false_eq_true]; done)) only [RX4_isSilent, t, g5, c, BW, wr_id, OM, OE, PL, ↓reduceIte, TGs, bi_T, bi_F, bi_ff, Nat.reduceLeDiff, Nat.reduceLT, Nat.reduceAdd] at g ⊢
    exact g
  · have f : ¬ slF (rwN r) (rwV r) (rwL r).toNat = true := fun q => c (all_z (rwL r).toNat (by omega) ho.2.2.1 (sl_f _ q))
    rw [bi_f f]
    simp (disch := first | omega | (simp only [DT, DS, ne_eq, Nat.reduceEqDiff, not_false_eq_true]; done)) only [RX4_isSilent, t, g5, BW, wr_id, OM, OE, PL, ↓reduceIte, TGs, bi_T, bi_F, bi_ff, Nat.reduceLeDiff, Nat.reduceLT, Nat.reduceAdd]
theorem c_same (a b : UInt64) (ha : isNaN64 a = false) (hb : isNaN64 b = false) (M : xm) (Q : Option xv → xm → Prop) : Wp qX4_haveSameBits 0 [vD a, vX, vD b, vX] [] M Q ↔ Q (some (vI (bi (a = b)))) M := by
  by_cases c1 : FP.dcmp a b = some .eq
  · by_cases c2 : FP.dcmp a FP.dconst0 = some .eq
    · have cb : FP.dcmp b FP.dconst0 = some .eq := by
        have n := Jvm.FP.Core.dcmp_some c1
        have n0 : Jvm.FP.Core.val64 FP.dconst0 ≠ .nan := (nan_d _).mp (by decide)
        have k1 := (Jvm.FP.Core.dcmp_eq_key n.1 n.2).mp c1
        have k2 := (Jvm.FP.Core.dcmp_eq_key n.1 n0).mp c2
        exact (Jvm.FP.Core.dcmp_eq_key n.2 n0).mpr (k1.symm.trans k2)
      have na : isNaN64 (FP.ddiv FP.dconst1 a) = false := by
        rcases zbits c2 with e | e <;> rw [e]
        · exact one_nn.1
        · exact one_nn.2.1
      have nb : isNaN64 (FP.ddiv FP.dconst1 b) = false := by
        rcases zbits cb with e | e <;> rw [e]
        · exact one_nn.1
        · exact one_nn.2.1
      have key : (FP.dcmp (FP.ddiv FP.dconst1 a) (FP.ddiv FP.dconst1 b) = some .eq) ↔ a = b := by
        rcases zbits c2 with e | e <;> rcases zbits cb with e' | e' <;> rw [e, e'] <;> decide +kernel
      by_cases c3 : a = b
      · have k3 := key.mpr c3
        rw [bi_t c3]
        simp (disch := first | omega | (simp only [DT, DS, ne_eq, Nat.reduceEqDiff, not_false_eq_true]; done)) only [RX4_haveSameBits, cmp_l, c1, c2, na, nb, k3, BW, wr_id, OM, OE, PL, ↓reduceIte, TGs, bi_T, bi_F, bi_ff, Nat.reduceLeDiff, Nat.reduceLT, Nat.reduceAdd]
      · have k3 : ¬ FP.dcmp (FP.ddiv FP.dconst1 a) (FP.ddiv FP.dconst1 b) = some .eq := fun q => c3 (key.mp q)
        rw [bi_f c3]
        simp (disch := first | omega | (simp only [DT, DS, ne_eq, Nat.reduceEqDiff, not_false_eq_true]; done)) only [RX4_haveSameBits, cmp_l, c1, c2, na, nb, k3, BW, wr_id, OM, OE, PL, ↓reduceIte, TGs, bi_T, bi_F, bi_ff, Nat.reduceLeDiff, Nat.reduceLT, Nat.reduceAdd]
    · have c3 : a = b := by
        refine Jvm.FP.Core.eq_bits (fun z => c2 ?_) c1
        have cb : FP.dcmp b FP.dconst0 = some .eq := Jvm.FP.Core.zero_iff.mpr z
        have n := Jvm.FP.Core.dcmp_some c1
        have n0 : Jvm.FP.Core.val64 FP.dconst0 ≠ .nan := (nan_d _).mp (by decide)
        have k1 := (Jvm.FP.Core.dcmp_eq_key n.1 n.2).mp c1
        have k2 := (Jvm.FP.Core.dcmp_eq_key n.2 n0).mp cb
        exact (Jvm.FP.Core.dcmp_eq_key n.1 n0).mpr (k1.trans k2)
      rw [bi_t c3]
      simp (disch := first | omega | (simp only [DT, DS, ne_eq, Nat.reduceEqDiff, not_false_eq_true]; done)) only [RX4_haveSameBits, cmp_l, c1, c2, BW, wr_id, OM, OE, PL, ↓reduceIte, TGs, bi_T, bi_F, bi_ff, Nat.reduceLeDiff, Nat.reduceLT, Nat.reduceAdd]
  · have c3 : ¬ a = b := fun q => c1 (by rw [q]; exact Jvm.FP.Core.dcmp_self ((nan_d _).mp hb))
    rw [bi_f c3]
    simp (disch := first | omega | (simp only [DT, DS, ne_eq, Nat.reduceEqDiff, not_false_eq_true]; done)) only [RX4_haveSameBits, cmp_l, c1, BW, wr_id, OM, OE, PL, ↓reduceIte, TGs, bi_T, bi_F, bi_ff, Nat.reduceLeDiff, Nat.reduceLT, Nat.reduceAdd]
theorem l_sameAs {M : xm} {G K : Nat} {r v : Rw} (hg : cRw M G (some r)) (hk : cRw M K (some v)) (ho : okR r) (hv : okR v) (e : rwK r = rwK v ∧ rwL r = rwL v ∧ rwN r = rwN v) (Q : Option xv → xm → Prop) : ∀ (d : Nat) (k : Int), k + d = rwL r → 0 ≤ k → alB (fun i => decide (rwV r i = rwV v i)) k.toNat = true → (Wp qX4_isSameAs 37 [vR G, vR K, vI k] [] M Q ↔ Q (some (vI (bi (eqB r v = true)))) M)
  | 0, k, hd, h0, hs => by
    have hl := ho.2.1
    have t := hg.1.2
    have e1 := hg.2.1.2.1
    obtain rfl : k = rwL r := by omega
    have eb : eqB r v = true := by
      unfold eqB
      rw [hs, decide_eq_true e]
      rfl
    rw [HX4_isSameAs_37, bi_t eb]
    simp (disch := first | omega | (simp only [DT, DS, ne_eq, Nat.reduceEqDiff, not_false_eq_true]; done)) only [RX4_isSameAs, t, e1, BW, wr_id, OM, OE, PL, ↓reduceIte, TGs, bi_T, bi_F, bi_ff, Nat.reduceLeDiff, Nat.reduceLT, Nat.reduceAdd]
  | d + 1, k, hd, h0, hs => by
    obtain ⟨⟨g1, t⟩, ⟨g3, g4, g5⟩, ⟨g6, g7⟩, g8⟩ := id hg
    have hl := ho.2.1
    have tv := g7.t (by omega)
    have lv : (ln (mR M G 2) : Int) = rwL r := by rw [tv.2]; omega
    have ev := g8 k h0 (by omega)
    have tk := hk.1.2
    have qv := c_valueAt hk hv k (by omega)
    have es : smV (some v) k = rwV v k := by
      unfold smV
      dsimp only
      rw [if_pos (by omega)]
    simp only [es] at qv
    have na := sv_nn (ho.2.2.2.2.1 k h0 (by omega))
    have nb := sv_nn (hv.2.2.2.2.1 k h0 (by omega))
    have qs := c_same (rwV r k) (rwV v k) na nb M
    have ih := l_sameAs hg hk ho hv e Q d (k + 1) (by omega) (by omega)
    rw [show (k + 1).toNat = k.toNat + 1 by omega, alB, hs, show ((k.toNat : Nat) : Int) = k by omega] at ih
    rw [HX4_isSameAs_37]
    by_cases c : rwV r k = rwV v k
    · simp only [bi_t c] at qs
      have g := ih (by rw [decide_eq_true c]; rfl)
      simp (disch := first | omega | (simp only [DT, DS, ne_eq, Nat.reduceEqDiff, not_false_eq_true]; done)) only [RX4_isSameAs, t, g4, tv.1, lv, ev, tk, qv, qs, BW, wr_id, OM, OE, PL, ↓reduceIte, TGs, bi_T, bi_F, bi_ff, Nat.reduceLeDiff, Nat.reduceLT, Nat.reduceAdd]
      exact g
    · simp only [bi_f c] at qs
      have f : alB (fun i => decide (rwV r i = rwV v i)) (k.toNat + 1) = false := by
        rw [alB, show ((k.toNat : Nat) : Int) = k by omega, decide_eq_false c, Bool.and_false]
      have f2 := alB_f f d
      rw [show k.toNat + 1 + d = (rwL r).toNat by omega] at f2
      have eb : ¬ eqB r v = true := by
        unfold eqB
        rw [f2, Bool.and_false]
        decide
      rw [bi_f eb]
      simp (disch := first | omega | (simp only [DT, DS, ne_eq, Nat.reduceEqDiff, not_false_eq_true]; done)) only [RX4_isSameAs, t, g4, tv.1, lv, ev, tk, qv, qs, BW, wr_id, OM, OE, PL, ↓reduceIte, TGs, bi_T, bi_F, bi_ff, Nat.reduceLeDiff, Nat.reduceLT, Nat.reduceAdd]
theorem c_isSameAs {M : xm} {G K : Nat} {r v : Rw} (hg : cRw M G (some r)) (hk : cRw M K (some v)) (ho : okR r) (hv : okR v) (Q : Option xv → xm → Prop) : Wp qX4_isSameAs 0 [vR G, vR K, vX] [] M Q ↔ Q (some (vI (bi (eqB r v = true)))) M := by
  have o1 := ho.1
  have o2 := ho.2.1
  have o3 := mk_16 ho
  have v1 := hv.1
  have v2 := hv.2.1
  have v3 := mk_16 hv
  have t := hg.1.2
  have tk := hk.1.2
  have a := hg.2.1
  have b := hk.2.1
  have ne : ¬ (rwK r = rwK v ∧ rwL r = rwL v ∧ rwN r = rwN v) → ¬ eqB r v = true := fun q => by
    unfold eqB
    rw [decide_eq_false q]
    simp
  by_cases c1 : rwK r = rwK v
  · by_cases c2 : rwL r = rwL v
    · by_cases c3 : rwN r = rwN v
      · have g := l_sameAs hg hk ho hv ⟨c1, c2, c3⟩ Q (rwL r).toNat 0 (by omega) (by omega) rfl
        simp (disch := first | omega | (simp only [DT, DS, ne_eq, Nat.reduceEqDiff, not_false_eq_true]; done)) only [RX4_isSameAs, t, tk, a.1, a.2.1, a.2.2, b.1, b.2.1, b.2.2, BW, wr_id, OM, OE, PL, ↓reduceIte, TGs, bi_T, bi_F, bi_ff, Nat.reduceLeDiff, Nat.reduceLT, Nat.reduceAdd]
        exact g
      · rw [bi_f (ne (fun q => c3 q.2.2))]
        simp (disch := first | omega | (simp only [DT, DS, ne_eq, Nat.reduceEqDiff, not_false_eq_true]; done)) only [RX4_isSameAs, t, tk, a.1, a.2.1, a.2.2, b.1, b.2.1, b.2.2, BW, wr_id, OM, OE, PL, ↓reduceIte, TGs, bi_T, bi_F, bi_ff, Nat.reduceLeDiff, Nat.reduceLT, Nat.reduceAdd]
    · rw [bi_f (ne (fun q => c2 q.2.1))]
      simp (disch := first | omega | (simp only [DT, DS, ne_eq, Nat.reduceEqDiff, not_false_eq_true]; done)) only [RX4_isSameAs, t, tk, a.1, a.2.1, b.1, b.2.1, BW, wr_id, OM, OE, PL, ↓reduceIte, TGs, bi_T, bi_F, bi_ff, Nat.reduceLeDiff, Nat.reduceLT, Nat.reduceAdd]
  · rw [bi_f (ne (fun q => c1 q.1))]
    simp (disch := first | omega | (simp only [DT, DS, ne_eq, Nat.reduceEqDiff, not_false_eq_true]; done)) only [RX4_isSameAs, t, tk, a.1, b.1, BW, wr_id, OM, OE, PL, ↓reduceIte, TGs, bi_T, bi_F, bi_ff, Nat.reduceLeDiff, Nat.reduceLT, Nat.reduceAdd]
