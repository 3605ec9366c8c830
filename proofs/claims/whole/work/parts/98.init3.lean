/-! 98.init3: both as they begin: what holds -/
def zrA (M : xm) : Prop := (∀ l j, ¬ l = aLens → ¬ l = aPSz → mA M l j = 0) ∧ (∀ l j, mB M l j = 0) ∧ inR M
theorem zrA_nw {M : xm} (h : zrA M) (t n c s : Nat) : zrA (nw M t n c s) := by
  obtain ⟨a, b, d⟩ := h
  refine ⟨fun l j x y => ?_, fun l j => ?_, d.nw _ _ _ _⟩
  · rw [MM.2.2.2.2.2.2.2.2.2.2.2.2.2.2.2.2.1]
    split
    · rfl
    · exact a l j x y
  · rw [MM.2.2.2.2.2.2.2.2.2.2.2.2.2.2.2.2.2.1]
    split
    · rfl
    · exact b l j
theorem zrA_wR {M : xm} (h : zrA M) (L f x : Nat) : zrA (wR M L f x) := h
theorem zrA_n {M : xm} (h : zrA M) (t n c s L f : Nat) : zrA (nwR M t n c s L f) := zrA_nw h t n c s
theorem zrA_ns {M : xm} (h : zrA M) (L n c : Nat) : ∀ i, zrA (nws M L n c i)
  | 0 => h
  | i + 1 => zrA_nw (zrA_ns h L n c i) 32 n c n
theorem zrA_g {M : xm} (h : zrA M) (n c L f : Nat) : zrA (grR M n c L f) := by
  unfold grR
  exact zrA_wR (zrA_ns (zrA_nw h 38 8 c 8) _ n c 8) _ _ _
theorem zrA_8 {M : xm} (h : zrA M) {L : Nat} (hL : L = aLens ∨ L = aPSz) : ∀ k, zrA (m8 M L k)
  | 0 => h
  | k + 1 => by
    obtain ⟨a, b, d⟩ := zrA_8 h hL k
    refine ⟨fun l j x y => ?_, b, d.wA _ _ (by decide)⟩
    show mA (wA (m8 M L k) L k (-1)) l j = 0
    rw [wA_o _ _ (fun q => by rcases hL with e | e <;> rw [e] at q; exact x q.1; exact y q.1)]
    exact a l j x y
theorem zrA_0 : zrA Z0 := ⟨fun _ _ _ _ => rfl, fun _ _ => rfl, fun _ _ => by show wr 0 = 0; decide⟩
theorem zrA_2 : zrA z2 := by
  unfold z2 iRack z1
  exact zrA_wR (zrA_n (zrA_n (zrA_n (zrA_n (zrA_nw (zrA_nw zrA_0 _ _ _ _) _ _ _ _) _ _ _ _ _ _) _ _ _ _ _ _) _ _ _ _ _ _) _ _ _ _ _ _) _ _ _
theorem zrA_3 : zrA z3 := by
  unfold z3
  exact zrA_wR (zrA_8 (zrA_n (zrA_g (zrA_nw zrA_2 _ _ _ _) _ _ _ _) _ _ _ _ _ _) (Or.inl rfl) 8) _ _ _
theorem zrA_4 : zrA z4 := by
  unfold z4
  exact zrA_wR (zrA_8 (zrA_n (zrA_g (zrA_nw zrA_3 _ _ _ _) _ _ _ _) _ _ _ _ _ _) (Or.inr rfl) 8) _ _ _
theorem zrA_5 : zrA z5 := by
  unfold z5
  exact zrA_wR (zrA_n (zrA_nw zrA_4 _ _ _ _) _ _ _ _ _ _) _ _ _
theorem zrA_6 : zrA z6 := by
  unfold z6
  exact zrA_wR (zrA_wR (zrA_nw zrA_5 _ _ _ _) _ _ _) _ _ _
theorem zrA_7 : zrA z7 := by
  unfold z7
  exact zrA_wR (zrA_wR (zrA_wR (zrA_n (zrA_nw zrA_6 _ _ _ _) _ _ _ _ _ _) _ _ _) _ _ _) _ _ _
theorem zrA_z8 : zrA z8 := by
  unfold z8
  exact zrA_nw zrA_7 _ _ _ _
theorem zrA_9 : zrA z9 := by
  unfold z9 iMod
  exact zrA_n (zrA_n (zrA_n (zrA_n (zrA_n (zrA_n (zrA_n (zrA_n (zrA_n (zrA_n (zrA_n (zrA_n (zrA_n (zrA_n (zrA_n (zrA_n (zrA_n (zrA_n (zrA_n zrA_z8 _ _ _ _ _ _) _ _ _ _ _ _) _ _ _ _ _ _) _ _ _ _ _ _) _ _ _ _ _ _) _ _ _ _ _ _) _ _ _ _ _ _) _ _ _ _ _ _) _ _ _ _ _ _) _ _ _ _ _ _) _ _ _ _ _ _) _ _ _ _ _ _) _ _ _ _ _ _) _ _ _ _ _ _) _ _ _ _ _ _) _ _ _ _ _ _) _ _ _ _ _ _) _ _ _ _ _ _) _ _ _ _ _ _
theorem zp_P : cP z9 := by
  unfold cP
  decide +kernel
theorem zp_M : mSt z9 := by
  unfold mSt
  decide +kernel
theorem zp_L : (∀ t : Nat, t < 8 → mA z9 aLens t = -1) ∧ ∀ t : Nat, t < 8 → mA z9 aPSz t = -1 := by decide +kernel
theorem zp_C : (mC z9 42970644489 = 0 ∧ mC z9 83764445408 = 0 ∧ mC z9 83777028102 = 0 ∧ mC z9 83804291684 = 0 ∧ mC z9 83972063238 = 0 ∧ mC z9 65510834467 = 0) ∧ mK z9 ≤ 100 ∧ mS z9 ≤ 40000 := by decide +kernel
