/-! 38.mone: the reference: what a module wants at an in; GATE, SHAPE .., MEAN, TURN from their start -/
def mCf (M : xm) (n : Int) : Prop := mSt M ∧ inR M ∧ (∀ j, 0 ≤ mA M amCo j ∧ mA M amCo j ≤ 24) ∧ (∀ j, 0 ≤ mA M amKd j ∧ mA M amKd j ≤ 10) ∧ (∀ j, 0 ≤ mA M amRk j ∧ mA M amRk j ≤ 4) ∧ (∀ j, -1000 ≤ mA M amKn j ∧ mA M amKn j ≤ 1000) ∧ (∀ j, 0 ≤ mA M amTm j ∧ mA M amTm j ≤ 17) ∧ mA M aM 19 = n ∧ (1 ≤ n ∧ n ≤ 16)
def mAs (M : xm) (t : Int) (A : Int → SS) : Prop := ∀ o, 0 ≤ o → o ≤ 23 → mS1 M o (A o) ∧ okS t (A o)
theorem mRw_n {M : xm} {q : Int} (h : mRw M q 0 none) : mA M amIn (20 * q).toNat = 0 := by
  have h' : mA M amIn (20 * q + 3 * 0).toNat = 0 := h
  rwa [show 20 * q + 3 * 0 = 20 * q by omega] at h'
theorem mRw_s {M : xm} {q : Int} {w : Rw} (h : mRw M q 0 (some w)) : mA M amIn (20 * q).toNat = rwK w + 1 ∧ rL M q = rwL w ∧ rN M q = rwN w ∧ ∀ i, 0 ≤ i → i ≤ 15 → rV M q i = rwV w i := by
  obtain ⟨h1, h2, h3, h4⟩ := h
  refine ⟨?_, ?_, ?_, fun i a b => ?_⟩
  · rwa [show 20 * q + 3 * 0 = 20 * q by omega] at h1
  · rwa [show 20 * q + 3 * 0 + 1 = 20 * q + 1 by omega] at h2
  · rwa [show 20 * q + 3 * 0 + 2 = 20 * q + 2 by omega] at h3
  · have := h4 i a b
    rwa [show 82 * q + 16 * 0 + i = 82 * q + i by omega] at this
theorem mAs.kb {M : xm} {t : Int} {A : Int → SS} (ha : mAs M t A) : ∀ o : Int, 0 ≤ o → o ≤ 23 → 0 ≤ mA M amIn (20 * o).toNat ∧ mA M amIn (20 * o).toNat ≤ 5 := fun o h1 h2 => by
  obtain ⟨⟨hr, _⟩, hk, _⟩ := ha o h1 h2
  cases e : sR (A o) with
  | none =>
    rw [e] at hr
    rw [mRw_n hr]
    omega
  | some w =>
    rw [e] at hr
    rw [(mRw_s hr).1]
    have := (hk w e).1
    omega
theorem q_want {M : xm} {n t m i k : Int} {A : Int → SS} (hc : mCf M n) (ha : mAs M t A) (hm : 0 ≤ m ∧ m ≤ 23) (hi : 0 ≤ i ∧ i ≤ 2) (hk : -1 ≤ k ∧ k ≤ 4) (Q : Option xv → xm → Prop) : Wp qX10_hasRow 0 [vR aM, vI m, vI i, vI k, vX] [] M Q ↔ match wantF A (mA M amCo (3 * m + i).toNat) k with
    | .inl f => Q (some (vI 0)) (wA (wA (wA M aM 16 f) aM 17 m) aM 18 (-1))
    | .inr _ => Q (some (vI 1)) M := by
  have hco := hc.2.2.1 (3 * m + i).toNat
  rw [s_hasRow m i k M hc.1 hc.2.1 hm hi hk hc.2.2.1 (kd_b ha.kb hco) Q]
  generalize mA M amCo (3 * m + i).toNat = c at hco
  unfold wantF
  by_cases c1 : c ≤ 0
  · rw [if_pos (by omega), if_pos c1]
  · rw [if_neg (by omega), if_neg c1]
    have hr := (ha (c - 1) (by omega) (by omega)).1.1
    have hk2 := (ha (c - 1) (by omega) (by omega)).2.1
    cases e : sR (A (c - 1)) with
    | none =>
      rw [e] at hr
      rw [mRw_n hr, if_pos (by omega)]
    | some w =>
      rw [e] at hr
      have h1 := (hk2 w e).1
      rw [(mRw_s hr).1, if_neg (by omega), show rwK w + 1 - 1 = rwK w by omega]
      dsimp only
      by_cases c2 : k < 0
      · rw [if_pos c2, if_pos (Or.inl c2)]
      · rw [if_neg c2]
        by_cases c3 : rwK w = k
        · rw [if_pos c3, if_pos (Or.inr c3)]
        · rw [if_neg c3, if_neg (by omega)]
theorem want_r {A : Int → SS} {c k : Int} {r : Rw} (h : wantF A c k = .inr r) : 1 ≤ c ∧ sR (A (c - 1)) = some r ∧ (k < 0 ∨ rwK r = k) := by
  unfold wantF at h
  by_cases c1 : c ≤ 0
  · rw [if_pos c1] at h
    exact absurd h (by simp)
  · rw [if_neg c1] at h
    cases e : sR (A (c - 1)) with
    | none =>
      rw [e] at h
      exact absurd h (by simp)
    | some w =>
      rw [e] at h
      dsimp only at h
      by_cases c2 : k < 0 ∨ rwK w = k
      · rw [if_pos c2] at h
        obtain rfl := Sum.inr.inj h
        exact ⟨by omega, rfl, c2⟩
      · rw [if_neg c2] at h
        exact absurd h (by simp)
theorem want_l {A : Int → SS} {c k f : Int} (h : wantF A c k = .inl f) : f = 1 ∨ f = 2 ∨ f = 4 := by
  unfold wantF at h
  by_cases c1 : c ≤ 0
  · rw [if_pos c1] at h
    exact Or.inl (Sum.inl.inj h).symm
  · rw [if_neg c1] at h
    cases e : sR (A (c - 1)) with
    | none =>
      rw [e] at h
      exact Or.inr (Or.inl (Sum.inl.inj h).symm)
    | some w =>
      rw [e] at h
      dsimp only at h
      by_cases c2 : k < 0 ∨ rwK w = k
      · rw [if_pos c2] at h
        exact absurd h (by simp)
      · rw [if_neg c2] at h
        exact Or.inr (Or.inr (Sum.inl.inj h).symm)
def bZ (w : Int ⊕ Rw) (f : Rw → (Int × Int) ⊕ ZT) : (Int × Int) ⊕ ZT := match w with
  | .inl x => .inl (x, -1)
  | .inr r => f r
theorem mV_0 {M : xm} {m : Int} {s : SS} (h : mS1 M m s) (h28 : mA M aM 28 = 0) : mV M m (z0 s) 0 := by
  obtain ⟨_, h2, h3, h4, h5, h6, _⟩ := h
  exact ⟨h2, h5, h6, h3, h4, h28, fun j hj => by omega⟩
theorem sv_mg {kd : Int} {x : UInt64} (h : svK kd x) (hk : 3 ≤ kd) : mg 1043 x := by
  have := h.2 hk
  unfold mg
  omega
