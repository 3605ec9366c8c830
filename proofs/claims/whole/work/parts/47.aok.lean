/-! 47.aok: what a module does leaves states as they may be -/
theorem zOk_w {kd N0 k p u s : Int} {z : ZT} {a b x : UInt64} (h : zOk kd N0 k z) (hk : 0 ≤ k ∧ k ≤ 15) (hp : 0 ≤ p) (ha : mg 1043 a) (hb : mg 1043 b) (hu : 0 ≤ u ∧ u ≤ 1) (hx : svK kd x) : zOk kd N0 (k + 1) (p, a, b, u, zN z, zM z, upV (zV z) k.toNat x, s) := by
  have g := zOk_v (c := 0) (s := s) h hk hp ha hb hu (by omega) hx
  rwa [Int.add_zero] at g
theorem sv_0 (kd : Int) : svK kd 0 := ⟨fun _ => ⟨0, by omega, by decide⟩, fun _ => by decide⟩
theorem sv_c {kd h v : Int} (hk : kd < 3) (h0 : 0 ≤ h ∧ h ≤ 2147483647) : svK kd (FP.i2d (Int32.ofInt (cz h v))) := sv_i hk (by have := cz_b (h := h) (v := v) h0.1; omega)
theorem wv_sv {k v : Int} (hk : 0 ≤ k ∧ k ≤ 4) (hv : -2147483648 ≤ v ∧ v ≤ 2147483647) : svK k (wvF k v) := by
  unfold wvF
  by_cases c0 : k = 0
  · rw [if_pos c0]
    exact sv_01 (by omega) _
  · rw [if_neg c0]
    by_cases c1 : k = 1
    · rw [if_pos c1]
      exact sv_c (by omega) (by omega)
    · rw [if_neg c1]
      by_cases c2 : k = 2
      · rw [if_pos c2]
        exact sv_i (by omega) hv
      · rw [if_neg c2]
        by_cases c3 : k = 3
        · rw [if_pos c3]
          exact ⟨fun q => absurd q (by omega), fun _ => fl_le (hd_le (by256 v))⟩
        · rw [if_neg c3]
          exact sv_h (by omega) (by256 v)
theorem fv_sv {k : Int} {x : UInt64} (hk : 0 ≤ k ∧ k ≤ 4) (hx : x.toNat % 2 ^ 63 ≤ 4696837146684686336) : svK k (fvF k x) := by
  unfold fvF
  by_cases c0 : k = 0
  · rw [if_pos c0]
    exact sv_01 (by omega) _
  · rw [if_neg c0]
    by_cases c1 : k = 1
    · rw [if_pos c1]
      exact sv_c (by omega) (by omega)
    · rw [if_neg c1]
      by_cases c2 : k = 2
      · rw [if_pos c2]
        exact sv_c (by omega) (by omega)
      · rw [if_neg c2]
        by_cases c3 : k = 3
        · rw [if_pos c3]
          exact ⟨fun q => absurd q (by omega), fun _ => fl_le hx⟩
        · rw [if_neg c3]
          exact ⟨fun q => absurd q (by omega), fun _ => hx⟩
theorem srcS_ok {tl kn rk N0 k : Int} {tb : Nat → Int} {z w : ZT} (h : zOk rk N0 k z) (hk : 0 ≤ k ∧ k ≤ 15) (ht : 0 ≤ tl) (hr : 0 ≤ rk ∧ rk ≤ 4) (hb : ∀ j, -2147483648 ≤ tb j ∧ tb j ≤ 2147483647) (e : srcS tl kn rk tb k z = .inr w) : zOk rk N0 (k + 1) w := by
  unfold srcS at e
  by_cases c0 : tl = 0
  · rw [if_pos c0] at e
    exact absurd e (by simp)
  · rw [if_neg c0] at e
    by_cases c1 : tl ≤ zP z
    · rw [if_pos c1] at e
      exact absurd e (by simp)
    · rw [if_neg c1] at e
      have hp := Int.emod_nonneg (zP z + kn) (show tl ≠ 0 by omega)
      by_cases c2 : 3 ≤ rk ∧ tb (zP z).toNat = -2147483648
      · rw [if_pos c2] at e
        obtain rfl := Sum.inr.inj e
        exact zOk_n h hk hp c2.1
      · rw [if_neg c2] at e
        obtain rfl := Sum.inr.inj e
        exact zOk_v h hk hp h.2.1.1 h.2.1.2 h.2.2.1 (ws_b _ _) (wv_sv hr (hb _))
theorem gatS_ok {k0 k1 len mk N0 k : Int} {vs : Int → UInt64} {z w : ZT} (h : zOk 0 N0 k z) (hk : 0 ≤ k ∧ k ≤ 15) (e : gatS k0 k1 len mk vs k z = .inr w) : zOk 0 N0 (k + 1) w := by
  unfold gatS at e
  by_cases c0 : len ≤ k
  · rw [if_pos c0] at e
    exact absurd e (by simp)
  · rw [if_neg c0] at e
    by_cases c1 : bt mk k = true
    · rw [if_pos c1] at e
      obtain rfl := Sum.inr.inj e
      have hu := h.2.2.1
      exact zOk_w h hk h.1 h.2.1.1 h.2.1.2 hu (sv_i (by omega) (by omega))
    · rw [if_neg c1] at e
      obtain rfl := Sum.inr.inj e
      have hu := upF_b (k0 := k0) (k1 := k1) (vs k) h.2.2.1
      exact zOk_w h hk h.1 h.2.1.1 h.2.1.2 hu (sv_i (by omega) (by omega))
theorem menS_ok {k0 len N0 k : Int} {vs : Int → UInt64} {z w : ZT} (h : zOk 2 N0 k z) (hk : 0 ≤ k ∧ k ≤ 15) (e : menS k0 len vs k z = .inr w) : zOk 2 N0 (k + 1) w := by
  unfold menS at e
  by_cases c0 : len ≤ k
  · rw [if_pos c0] at e
    exact absurd e (by simp)
  · rw [if_neg c0] at e
    by_cases c1 : k + k0 = 0
    · rw [if_pos c1] at e
      exact absurd e (by simp)
    · rw [if_neg c1] at e
      obtain rfl := Sum.inr.inj e
      exact zOk_v h hk h.1 h.2.1.1 h.2.1.2 h.2.2.1 (si_b _ _) (sv_c (by omega) (by omega))
theorem mixS_ok {c : Int → Bool} {l : Int → Int} {v : Int → Int → UInt64} {N0 k : Int} {z w : ZT} (h : zOk 2 N0 k z) (hk : 0 ≤ k ∧ k ≤ 15) (e : mixS c l v k z = .inr w) : zOk 2 N0 (k + 1) w := by
  unfold mixS at e
  cases c0 : mxF c l v k 3 0 0 with
  | none =>
    rw [c0] at e
    exact absurd e (by simp)
  | some s =>
    rw [c0] at e
    obtain rfl := Sum.inr.inj e
    exact zOk_v h hk h.1 h.2.1.1 h.2.1.2 h.2.2.1 (si_b _ _) (sv_c (by omega) (by omega))
theorem trnS_ok {fl : Bool} {into len mk N0 k : Int} {vs : Int → UInt64} {z w : ZT} (h : zOk into N0 k z) (hk : 0 ≤ k ∧ k ≤ 15) (hi : 0 ≤ into ∧ into ≤ 4) (hf : fl = true → (vs k).toNat % 2 ^ 63 ≤ 4696837146684686336) (hw : fl = false → -2147483648 ≤ (FP.d2l (vs k)).toInt ∧ (FP.d2l (vs k)).toInt ≤ 2147483647) (e : trnS fl into len mk vs k z = .inr w) : zOk into N0 (k + 1) w := by
  unfold trnS at e
  by_cases c0 : len ≤ k
  · rw [if_pos c0] at e
    exact absurd e (by simp)
  · rw [if_neg c0] at e
    by_cases c1 : bt mk k = true
    · rw [if_pos c1] at e
      obtain rfl := Sum.inr.inj e
      by_cases c3 : 3 ≤ into
      · rw [if_pos c3]
        exact zOk_n h hk h.1 c3
      · rw [if_neg c3, Int.add_zero]
        exact zOk_w h hk h.1 h.2.1.1 h.2.1.2 h.2.2.1 (sv_0 _)
    · rw [if_neg c1] at e
      by_cases c2 : fl = true
      · rw [if_pos c2] at e
        obtain rfl := Sum.inr.inj e
        exact zOk_v h hk h.1 h.2.1.1 h.2.1.2 h.2.2.1 (fs_b _ _) (fv_sv hi (hf c2))
      · rw [if_neg c2] at e
        obtain rfl := Sum.inr.inj e
        exact zOk_v h hk h.1 h.2.1.1 h.2.1.2 h.2.2.1 (ws_b _ _) (wv_sv hi (hw (Bool.eq_false_iff.mpr c2)))
theorem shpS_ok {kd o0 k0 k1 k2 n len mk N0 k : Int} {vs : Int → UInt64} {z w : ZT} (h : zOk 4 N0 k z) (hk : 0 ≤ k ∧ k ≤ 15) (hn : 1 ≤ n ∧ n ≤ 16) (hx : mg 1043 (vs k)) (e : shpS kd o0 k0 k1 k2 n len mk vs k z = .inr w) : zOk 4 N0 (k + 1) w := by
  unfold shpS at e
  have hy := shp_mg (o0 := o0) (k0 := k0) (k := k) hn hx
  have hyn := mul_nn ((gn_parts o0 k0 k n hn).2.2.2.le (show 1070 ≤ 2047 by decide)) (hx.le (show 1043 ≤ 2047 by decide))
  have hfn := add_nn (hy.le (show 1043 ≤ 2047 by decide)) (mul_nn (h.2.1.1.le (show 1043 ≤ 2047 by decide)) ((kn_mg k1).2.le (show 1070 ≤ 2047 by decide)))
  have hf := fil_mg (k1 := k1) hy h.2.1.1
  by_cases c0 : len ≤ k
  · rw [if_pos c0] at e
    exact absurd e (by simp)
  · rw [if_neg c0] at e
    by_cases c1 : bt mk k = true
    · rw [if_pos c1] at e
      obtain rfl := Sum.inr.inj e
      exact zOk_n h hk h.1 (by omega)
    · rw [if_neg c1] at e
      by_cases c2 : kd = 1
      · rw [if_pos c2] at e
        obtain rfl := Sum.inr.inj e
        exact zOk_w h hk h.1 h.2.1.1 h.2.1.2 h.2.2.1 (sv_h (by omega) hyn)
      · rw [if_neg c2] at e
        by_cases c3 : kd = 4
        · rw [if_pos c3] at e
          obtain rfl := Sum.inr.inj e
          exact zOk_w h hk h.1 hf (old_mg hf) h.2.2.1 (sv_h (by omega) (add_nn (hf.le (by decide)) (h.2.1.2.nn (by decide))))
        · rw [if_neg c3] at e
          obtain rfl := Sum.inr.inj e
          exact zOk_w h hk h.1 hf h.2.1.2 h.2.2.1 (sv_h (by omega) hfn)
