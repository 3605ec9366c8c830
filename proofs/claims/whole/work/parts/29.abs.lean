/-! 29.abs: what a module does with its samples, one by one: place, kept, old, up, saturations, mask of those that are no number, samples, sum -/
abbrev ZT : Type := Int × UInt64 × UInt64 × Int × Int × Int × (Nat → UInt64) × Int
def zP (z : ZT) : Int := z.1
def zK (z : ZT) : UInt64 := z.2.1
def zO (z : ZT) : UInt64 := z.2.2.1
def zU (z : ZT) : Int := z.2.2.2.1
def zN (z : ZT) : Int := z.2.2.2.2.1
def zM (z : ZT) : Int := z.2.2.2.2.2.1
def zV (z : ZT) : Nat → UInt64 := z.2.2.2.2.2.2.1
def zS (z : ZT) : Int := z.2.2.2.2.2.2.2
def upV (f : Nat → UInt64) (k : Nat) (x : UInt64) : Nat → UInt64 := fun j => if j = k then x else f j
/-- samples k, k + 1 .. (d of them): the first finding with its sample, or what comes out -/
def lpF (step : Int → ZT → Int ⊕ ZT) : Nat → Int → ZT → (Int × Int) ⊕ ZT
  | 0, _, z => .inr z
  | d + 1, k, z => match step k z with
    | .inl f => .inl (f, k)
    | .inr z' => lpF step d (k + 1) z'
/-- SOURCE -/
def srcS (tl kn rk : Int) (tb : Nat → Int) (k : Int) (z : ZT) : Int ⊕ ZT :=
  if tl = 0 then .inl 5 else if tl ≤ zP z then .inl 3
  else if 3 ≤ rk ∧ tb (zP z).toNat = -2147483648 then .inr ((zP z + kn) % tl, zK z, zO z, zU z, zN z, zM z + 2 ^ k.toNat, upV (zV z) k.toNat 0, zS z)
  else .inr ((zP z + kn) % tl, zK z, zO z, zU z, zN z + wsF rk (tb (zP z).toNat), zM z, upV (zV z) k.toNat (wvF rk (tb (zP z).toNat)), zS z)
/-- the reference: what its memory holds of module m, k samples on -/
def mV (M : xm) (m : Int) (z : ZT) (k : Int) : Prop := mA M amIn (20 * m + 15).toNat = zP z ∧ mA M amIn (20 * m + 16).toNat = zU z ∧ mA M amIn (20 * m + 17).toNat = zN z ∧ mB M amDb (82 * m + 80).toNat = zK z ∧ mB M amDb (82 * m + 81).toNat = zO z ∧ mA M aM 28 = zM z ∧ ∀ j : Nat, (j : Int) < k → mB M amFr j = zV z j
/-- and what it leaves alone meanwhile (mFo: where it failed; mF: where it didn't) -/
def mFo (M0 : xm) (m : Int) (M : xm) : Prop := (∀ l j, ¬ (l = amIn ∧ (j = (20 * m + 15).toNat ∨ j = (20 * m + 16).toNat ∨ j = (20 * m + 17).toNat)) → ¬ (l = aM ∧ (j = 16 ∨ j = 17 ∨ j = 18 ∨ j = 28)) → mA M l j = mA M0 l j) ∧
  (∀ l j, ¬ (l = amDb ∧ (j = (82 * m + 80).toNat ∨ j = (82 * m + 81).toNat)) → ¬ l = amFr → mB M l j = mB M0 l j) ∧ mR M = mR M0 ∧ mC M = mC M0 ∧ (mK M = mK M0 ∧ mS M = mS M0) ∧ inR M
def mF (M0 : xm) (m : Int) (M : xm) : Prop := (∀ l j, ¬ (l = amIn ∧ (j = (20 * m + 15).toNat ∨ j = (20 * m + 16).toNat ∨ j = (20 * m + 17).toNat)) → ¬ (l = aM ∧ (j = 16 ∨ j = 17 ∨ j = 18 ∨ j = 28)) → mA M l j = mA M0 l j) ∧
  (∀ l j, ¬ (l = amDb ∧ (j = (82 * m + 80).toNat ∨ j = (82 * m + 81).toNat)) → ¬ l = amFr → mB M l j = mB M0 l j) ∧ mR M = mR M0 ∧ mC M = mC M0 ∧ (mK M = mK M0 ∧ mS M = mS M0 ∧ mA M aM 16 = mA M0 aM 16) ∧ inR M
theorem mF.refl {M : xm} (m : Int) (h : inR M) : mF M m M := ⟨fun _ _ _ _ => rfl, fun _ _ _ _ => rfl, rfl, rfl, ⟨rfl, rfl, rfl⟩, h⟩
theorem mF.o {M0 M : xm} {m : Int} (h : mF M0 m M) : mFo M0 m M := ⟨h.1, h.2.1, h.2.2.1, h.2.2.2.1, ⟨h.2.2.2.2.1.1, h.2.2.2.2.1.2.1⟩, h.2.2.2.2.2⟩
theorem mFo.wM {M0 M : xm} {m : Int} (h : mFo M0 m M) {j0 : Nat} {x : Int} (hj : j0 = 16 ∨ j0 = 17 ∨ j0 = 18 ∨ j0 = 28) (hx : wr x = x) : mFo M0 m (wA M aM j0 x) := by
  obtain ⟨h1, h2, h3, h4, h5, h6⟩ := h
  refine ⟨fun l j a b => ?_, h2, h3, h4, h5, h6.wA _ _ hx⟩
  show lz_up M.2.1 aM j0 x l j = _
  unfold lz_up
  rw [if_neg (fun z => b ⟨z.1, by rw [z.2]; exact hj⟩)]
  exact h1 l j a b
theorem w_16 {M : xm} {L k : Nat} {x y : Int} (h : ¬ (16 = k ∧ aM = L)) (e : mA M aM 16 = y) : mA (wA M L k x) aM 16 = y := by
  show lz_up M.2.1 L k x aM 16 = y
  unfold lz_up
  rw [if_neg (fun q => h ⟨q.2, q.1⟩)]
  exact e
theorem mF.st {M0 M : xm} {m : Int} (h : mF M0 m M) (hs : mSt M0) : mSt M := by
  unfold mSt at hs ⊢
  rw [h.2.2.1]
  exact hs
theorem mF.wI {M0 M : xm} {m : Int} (h : mF M0 m M) {j0 : Nat} {x : Int} (hj : j0 = (20 * m + 15).toNat ∨ j0 = (20 * m + 16).toNat ∨ j0 = (20 * m + 17).toNat) (hx : wr x = x) : mF M0 m (wA M amIn j0 x) := by
  obtain ⟨h1, h2, h3, h4, h5, h6⟩ := h
  refine ⟨fun l j a b => ?_, h2, h3, h4, ⟨h5.1, h5.2.1, w_16 (fun q => absurd q.2 (by decide)) h5.2.2⟩, h6.wA _ _ hx⟩
  show lz_up M.2.1 amIn j0 x l j = _
  unfold lz_up
  rw [if_neg (fun z => a ⟨z.1, by rw [z.2]; exact hj⟩)]
  exact h1 l j a b
theorem mF.wM {M0 M : xm} {m : Int} (h : mF M0 m M) {j0 : Nat} {x : Int} (hj : j0 = 17 ∨ j0 = 17 ∨ j0 = 18 ∨ j0 = 28) (hx : wr x = x) : mF M0 m (wA M aM j0 x) := by
  obtain ⟨h1, h2, h3, h4, h5, h6⟩ := h
  refine ⟨fun l j a b => ?_, h2, h3, h4, ⟨h5.1, h5.2.1, w_16 (fun q => by omega) h5.2.2⟩, h6.wA _ _ hx⟩
  show lz_up M.2.1 aM j0 x l j = _
  unfold lz_up
  rw [if_neg (fun z => b ⟨z.1, by rw [z.2]; omega⟩)]
  exact h1 l j a b
theorem mF.wD {M0 M : xm} {m : Int} (h : mF M0 m M) {j0 : Nat} {x : UInt64} (hj : j0 = (82 * m + 80).toNat ∨ j0 = (82 * m + 81).toNat) : mF M0 m (wB M amDb j0 x) := by
  obtain ⟨h1, h2, h3, h4, h5, h6⟩ := h
  refine ⟨h1, fun l j a b => ?_, h3, h4, h5, h6⟩
  show lz_up M.2.2.1 amDb j0 x l j = _
  unfold lz_up
  rw [if_neg (fun z => a ⟨z.1, by rw [z.2]; exact hj⟩)]
  exact h2 l j a b
theorem mF.wFr {M0 M : xm} {m : Int} (h : mF M0 m M) (j0 : Nat) (x : UInt64) : mF M0 m (wB M amFr j0 x) := by
  obtain ⟨h1, h2, h3, h4, h5, h6⟩ := h
  refine ⟨h1, fun l j a b => ?_, h3, h4, h5, h6⟩
  show lz_up M.2.2.1 amFr j0 x l j = _
  unfold lz_up
  rw [if_neg (fun z => b z.1)]
  exact h2 l j a b
/-- what is asked of the end of a loop over samples -/
def mPost (M0 : xm) (m n : Int) (Q : Option xv → xm → Prop) : (Int × Int) ⊕ ZT → Prop
  | .inr z => ∀ M, mF M0 m M → mV M m z n → Q (some (vI 1)) M
  | .inl (f, k) => ∀ M, mFo M0 m M → mA M aM 16 = f → mA M aM 17 = m → mA M aM 18 = k → Q (some (vI 0)) M
theorem emod_t {a b : Int} (hb : 0 < b) : (if a.tmod b < 0 then a.tmod b + b else a.tmod b) = a % b := by
  have h1 := Int.emod_nonneg a (show b ≠ 0 by omega)
  have h2 := Int.emod_lt_of_pos a hb
  rcases Int.le_total 0 a with h | h
  · rw [Int.tmod_eq_emod_of_nonneg h, if_neg (by omega)]
  · have e : a.tmod b = -((-a) % b) := by
      rw [← Int.tmod_eq_emod_of_nonneg (show 0 ≤ -a by omega), Int.neg_tmod, Int.neg_neg]
    have h3 := Int.emod_nonneg (-a) (show b ≠ 0 by omega)
    have h4 := Int.emod_lt_of_pos (-a) hb
    have h5 : (-a) % b = if b ∣ a then 0 else b - a % b := by
      rw [Int.neg_emod, show (b.natAbs : Int) = b by omega]
    rw [e, h5]
    split
    · rename_i hd
      rw [Int.emod_eq_zero_of_dvd hd]
      rfl
    · rename_i hd
      rw [if_neg hd] at h5
      rw [if_pos (by omega)]
      omega
theorem lpF_l {step : Int → ZT → Int ⊕ ZT} {d : Nat} {k f : Int} {z : ZT} (h : step k z = .inl f) : lpF step (d + 1) k z = .inl (f, k) := by
  unfold lpF
  rw [h]
theorem lpF_r {step : Int → ZT → Int ⊕ ZT} {d : Nat} {k : Int} {z z' : ZT} (h : step k z = .inr z') : lpF step (d + 1) k z = lpF step d (k + 1) z' := by
  rw [lpF, h]
theorem wA_o (M : xm) {L k l j : Nat} (x : Int) (h : ¬ (l = L ∧ j = k)) : mA (wA M L k x) l j = mA M l j := if_neg h
theorem wB_o (M : xm) {L k l j : Nat} (x : UInt64) (h : ¬ (l = L ∧ j = k)) : mB (wB M L k x) l j = mB M l j := if_neg h
theorem wA_e (M : xm) (L k : Nat) (x : Int) : mA (wA M L k x) L k = x := lz_up_eq _ _ _ _
theorem wB_e (M : xm) (L k : Nat) (x : UInt64) : mB (wB M L k x) L k = x := lz_up_eq _ _ _ _
section MV
variable {M : xm} {m k : Int} {z : ZT}
theorem mV_p (h : mV M m z k) (hm : 0 ≤ m) (x : Int) : mV (wA M amIn (20 * m + 15).toNat x) m (x, zK z, zO z, zU z, zN z, zM z, zV z, zS z) k := by
  obtain ⟨h1, h2, h3, h4, h5, h6, h7⟩ := h
  exact ⟨wA_e _ _ _ _, (wA_o M x (fun q => by have := q.2; omega)).trans h2, (wA_o M x (fun q => by have := q.2; omega)).trans h3, h4, h5, (wA_o M x (fun q => absurd q.1 (by decide))).trans h6, h7⟩
theorem mV_u (h : mV M m z k) (hm : 0 ≤ m) (x : Int) : mV (wA M amIn (20 * m + 16).toNat x) m (zP z, zK z, zO z, x, zN z, zM z, zV z, zS z) k := by
  obtain ⟨h1, h2, h3, h4, h5, h6, h7⟩ := h
  exact ⟨(wA_o M x (fun q => by have := q.2; omega)).trans h1, wA_e _ _ _ _, (wA_o M x (fun q => by have := q.2; omega)).trans h3, h4, h5, (wA_o M x (fun q => absurd q.1 (by decide))).trans h6, h7⟩
theorem mV_n (h : mV M m z k) (hm : 0 ≤ m) (x : Int) : mV (wA M amIn (20 * m + 17).toNat x) m (zP z, zK z, zO z, zU z, x, zM z, zV z, zS z) k := by
  obtain ⟨h1, h2, h3, h4, h5, h6, h7⟩ := h
  exact ⟨(wA_o M x (fun q => by have := q.2; omega)).trans h1, (wA_o M x (fun q => by have := q.2; omega)).trans h2, wA_e _ _ _ _, h4, h5, (wA_o M x (fun q => absurd q.1 (by decide))).trans h6, h7⟩
theorem mV_m (h : mV M m z k) (x : Int) : mV (wA M aM 28 x) m (zP z, zK z, zO z, zU z, zN z, x, zV z, zS z) k := by
  obtain ⟨h1, h2, h3, h4, h5, h6, h7⟩ := h
  exact ⟨(wA_o M x (fun q => absurd q.1 (by decide))).trans h1, (wA_o M x (fun q => absurd q.1 (by decide))).trans h2, (wA_o M x (fun q => absurd q.1 (by decide))).trans h3, h4, h5, wA_e _ _ _ _, h7⟩
theorem mV_k (h : mV M m z k) (hm : 0 ≤ m) (x : UInt64) : mV (wB M amDb (82 * m + 80).toNat x) m (zP z, x, zO z, zU z, zN z, zM z, zV z, zS z) k := by
  obtain ⟨h1, h2, h3, h4, h5, h6, h7⟩ := h
  exact ⟨h1, h2, h3, wB_e _ _ _ _, (wB_o M x (fun q => by have := q.2; omega)).trans h5, h6, fun j hj => (wB_o M x (fun q => absurd q.1 (by decide))).trans (h7 j hj)⟩
theorem mV_o (h : mV M m z k) (hm : 0 ≤ m) (x : UInt64) : mV (wB M amDb (82 * m + 81).toNat x) m (zP z, zK z, x, zU z, zN z, zM z, zV z, zS z) k := by
  obtain ⟨h1, h2, h3, h4, h5, h6, h7⟩ := h
  exact ⟨h1, h2, h3, (wB_o M x (fun q => by have := q.2; omega)).trans h4, wB_e _ _ _ _, h6, fun j hj => (wB_o M x (fun q => absurd q.1 (by decide))).trans (h7 j hj)⟩
theorem mV_v (h : mV M m z k) (hk : 0 ≤ k) (x : UInt64) : mV (wB M amFr k.toNat x) m (zP z, zK z, zO z, zU z, zN z, zM z, upV (zV z) k.toNat x, zS z) (k + 1) := by
  obtain ⟨h1, h2, h3, h4, h5, h6, h7⟩ := h
  refine ⟨h1, h2, h3, (wB_o M x (fun q => absurd q.1 (by decide))).trans h4, (wB_o M x (fun q => absurd q.1 (by decide))).trans h5, h6, fun j hj => ?_⟩
  show mB (wB M amFr k.toNat x) amFr j = if j = k.toNat then x else zV z j
  by_cases e : j = k.toNat
  · rw [e, wB_e, if_pos rfl]
  · rw [wB_o M x (fun q => e q.2), if_neg e]
    exact h7 j (by omega)
end MV
