/-! 45.inv: what stays true of samples, one by one -/
theorem lpF_inv {step : Int → ZT → Int ⊕ ZT} (I : Int → ZT → Prop) : ∀ (d : Nat) (k : Int) (z z' : ZT), (∀ j y w, k ≤ j → j < k + d → I j y → step j y = .inr w → I (j + 1) w) → I k z → lpF step d k z = .inr z' → I (k + d) z'
  | 0, k, z, z', _, h0, h => by
    obtain rfl := Sum.inr.inj (show Sum.inr z = Sum.inr z' from h)
    rw [show k + ((0 : Nat) : Int) = k by omega]
    exact h0
  | d + 1, k, z, z', hI, h0, h => by
    cases e : step k z with
    | inl f =>
      rw [lpF_l e] at h
      exact absurd h (by simp)
    | inr w =>
      rw [lpF_r e] at h
      have g := lpF_inv I d (k + 1) w z' (fun j y x a b => hI j y x (by omega) (by omega)) (hI k z w (by omega) (by omega) h0 e) h
      rwa [show k + 1 + (d : Int) = k + ((d + 1 : Nat) : Int) by omega] at g
/-- k samples of a row of kind kd -/
def zOk (kd N0 k : Int) (z : ZT) : Prop := 0 ≤ zP z ∧ (mg 1043 (zK z) ∧ mg 1043 (zO z)) ∧ (0 ≤ zU z ∧ zU z ≤ 1) ∧ (0 ≤ zN z ∧ zN z ≤ N0 + k) ∧ (0 ≤ zM z ∧ zM z < 2 ^ k.toNat) ∧ (kd < 3 → zM z = 0) ∧ (∀ j, 0 ≤ j → j < k → svK kd (zV z j.toNat)) ∧ ∀ j, 0 ≤ j → j < k → bt (zM z) j = true → zV z j.toNat = 0
/-- one more, a number -/
theorem zOk_v {kd N0 k p u c s : Int} {z : ZT} {a b x : UInt64} (h : zOk kd N0 k z) (hk : 0 ≤ k ∧ k ≤ 15) (hp : 0 ≤ p) (ha : mg 1043 a) (hb : mg 1043 b) (hu : 0 ≤ u ∧ u ≤ 1) (hc : 0 ≤ c ∧ c ≤ 1) (hx : svK kd x) : zOk kd N0 (k + 1) (p, a, b, u, zN z + c, zM z, upV (zV z) k.toNat x, s) := by
  obtain ⟨_, _, _, h4, h5, h6, h7, h8⟩ := h
  have hpw := pow_b hk.1 hk.2
  refine ⟨hp, ⟨ha, hb⟩, hu, ⟨?_, ?_⟩, ⟨h5.1, ?_⟩, h6, fun j j0 j1 => ?_, fun j j0 j1 hj => ?_⟩
  · show 0 ≤ zN z + c
    omega
  · show zN z + c ≤ _
    omega
  · show zM z < _
    omega
  · show svK kd (if j.toNat = k.toNat then x else zV z j.toNat)
    split
    · exact hx
    · exact h7 j j0 (by omega)
  · show (if j.toNat = k.toNat then x else zV z j.toNat) = 0
    have hj' : bt (zM z) j = true := hj
    rw [if_neg (fun q => by
      rw [show j = k by omega, bt_hi hk h5 ⟨Int.le_refl _, hk.2⟩] at hj'
      exact absurd hj' (by decide))]
    by_cases e : j < k
    · exact h8 j j0 e hj'
    · rw [show j = k by omega, bt_hi hk h5 ⟨Int.le_refl _, hk.2⟩] at hj'
      exact absurd hj' (by decide)
/-- one more, no number -/
theorem zOk_n {kd N0 k p s : Int} {z : ZT} (h : zOk kd N0 k z) (hk : 0 ≤ k ∧ k ≤ 15) (hp : 0 ≤ p) (h3 : 3 ≤ kd) : zOk kd N0 (k + 1) (p, zK z, zO z, zU z, zN z, zM z + 2 ^ k.toNat, upV (zV z) k.toNat 0, s) := by
  obtain ⟨_, h2, h3', h4, h5, h6, h7, h8⟩ := h
  have hpw := pow_b hk.1 hk.2
  refine ⟨hp, h2, h3', ⟨h4.1, ?_⟩, ⟨?_, ?_⟩, fun q => absurd q (by omega), fun j j0 j1 => ?_, fun j j0 j1 hj => ?_⟩
  · show zN z ≤ _
    have := h4.2
    omega
  · show 0 ≤ zM z + _
    omega
  · show zM z + _ < _
    omega
  · show svK kd (if j.toNat = k.toNat then 0 else zV z j.toNat)
    split
    · exact ⟨fun q => absurd q (by omega), fun _ => by decide⟩
    · exact h7 j j0 (by omega)
  · show (if j.toNat = k.toNat then 0 else zV z j.toNat) = 0
    split
    · rfl
    · have hj' : bt (zM z + 2 ^ k.toNat) j = true := hj
      rw [bt_lo hk h5 ⟨j0, by omega⟩] at hj'
      exact h8 j j0 (by omega) hj'
theorem sv_i {kd v : Int} (h : kd < 3) (hv : -2147483648 ≤ v ∧ v ≤ 2147483647) : svK kd (FP.i2d (Int32.ofInt v)) := ⟨fun _ => ⟨v, hv, rfl⟩, fun q => absurd q (by omega)⟩
theorem sv_h {kd : Int} {x : UInt64} (h : 3 ≤ kd) (hx : isNaN64 x = false) : svK kd (hdF x) := ⟨fun q => absurd q (by omega), fun _ => hd_le hx⟩
theorem sv_01 {kd : Int} (h : kd < 3) (p : Prop) [Decidable p] : svK kd (if p then FP.dconst1 else FP.dconst0) := by
  split
  · exact ⟨fun _ => ⟨1, by omega, by decide⟩, fun q => absurd q (by omega)⟩
  · exact ⟨fun _ => ⟨0, by omega, by decide⟩, fun q => absurd q (by omega)⟩
/-- what a loop over samples makes of a state is a state as it may be -/
theorem new_ok {kd n t : Int} {s : SS} {z : ZT} (hs : okS t s) (hn : 1 ≤ n ∧ n ≤ 16) (hk : 0 ≤ kd ∧ kd ≤ 4) (h : zOk kd (sN s) n z) : okS (t + 1) (newS s z kd n) := by
  obtain ⟨g1, g2, g3, g4, g5, g6, g7⟩ := hs
  obtain ⟨h1, h2, h3, h4, h5, h6, h7, h8⟩ := h
  refine ⟨fun w hw => ?_, h1, h2, h3, ⟨h4.1, ?_⟩, g6, g7⟩
  · obtain rfl := Option.some.inj (show some (kd, n, zM z, fun i : Int => if i < n then zV z i.toNat else 0) = some w from hw)
    refine ⟨hk, hn, h5, h6, fun i i0 i1 => ?_, fun i i0 i1 hi => ?_⟩
    · show svK kd (if i < n then zV z i.toNat else 0)
      split
      · exact h7 i i0 (by assumption)
      · by_cases c : kd < 3
        · exact ⟨fun _ => ⟨0, by omega, by decide⟩, fun q => absurd q (by omega)⟩
        · exact ⟨fun q => absurd q c, fun _ => by decide⟩
    · show (if i < n then zV z i.toNat else 0) = 0
      by_cases c : i < n
      · rw [if_pos c]
        rcases hi with hi | hi
        · exact h8 i i0 c hi
        · exact absurd hi (by show ¬ n ≤ i; omega)
      · rw [if_neg c]
  · show zN z ≤ 16 * (t + 1)
    have := h4.2
    have := g5.2
    omega
