/-! 37.abst: what a block changes, abstractly; what a module does -/
/-- a row: kind, length, mask, samples -/
abbrev Rw : Type := Int × Int × Int × (Int → UInt64)
def rwK (r : Rw) : Int := r.1
def rwL (r : Rw) : Int := r.2.1
def rwN (r : Rw) : Int := r.2.2.1
def rwV (r : Rw) : Int → UInt64 := r.2.2.2
/-- a module: the row that it gives, place, kept, old, up, saturations, knob before, what it was fed (1 .. 4 blocks ago) -/
abbrev SS : Type := Option Rw × Int × UInt64 × UInt64 × Int × Int × Int × (Int → Option Rw)
def sR (s : SS) : Option Rw := s.1
def sP (s : SS) : Int := s.2.1
def sK (s : SS) : UInt64 := s.2.2.1
def sO (s : SS) : UInt64 := s.2.2.2.1
def sU (s : SS) : Int := s.2.2.2.2.1
def sN (s : SS) : Int := s.2.2.2.2.2.1
def sB (s : SS) : Int := s.2.2.2.2.2.2.1
def sF (s : SS) : Int → Option Rw := s.2.2.2.2.2.2.2
def z0 (s : SS) : ZT := (sP s, sK s, sO s, sU s, sN s, 0, fun _ => 0, 0)
def newS (s : SS) (z : ZT) (kd n : Int) : SS := (some (kd, n, zM z, fun i => if i < n then zV z i.toNat else 0), zP z, zK z, zO z, zU z, zN z, sB s, sF s)
def setR (s : SS) (r : Option Rw) : SS := (r, sP s, sK s, sO s, sU s, sN s, sB s, sF s)
def famF (s : SS) (kd n : Int) : (Int × Int) ⊕ ZT → (Int × Int) ⊕ SS
  | .inl f => .inl f
  | .inr z => .inr (newS s z kd n)
/-- the row at an in, by what its cord says (0: nowhere) -/
def iRw (A : Int → SS) (c : Int) : Option Rw := if c ≤ 0 then none else sR (A (c - 1))
/-- the row that is wanted at an in, or the finding -/
def wantF (A : Int → SS) (c kind : Int) : Int ⊕ Rw := if c ≤ 0 then .inl 1 else match sR (A (c - 1)) with
  | none => .inl 2
  | some r => if kind < 0 ∨ rwK r = kind then .inr r else .inl 4
def bindW (w : Int ⊕ Rw) (f : Rw → (Int × Int) ⊕ SS) : (Int × Int) ⊕ SS := match w with
  | .inl x => .inl (x, -1)
  | .inr r => f r
def oL (r : Option Rw) : Int := match r with
  | none => 0
  | some w => rwL w
def oV (r : Option Rw) : Int → UInt64 := match r with
  | none => fun _ => 0
  | some w => rwV w
def oBad (r : Option Rw) : Bool := match r with
  | none => false
  | some w => !decide (rwK w = 2)
def clp (v : Int) : Int := if v < 1 then 1 else if 4 < v then 4 else v
/-- what module m does; C: the cells of the reference that a block leaves alone -/
def actF (C : Nat → Nat → Int) (n : Int) (A : Int → SS) (m : Int) : (Int × Int) ⊕ SS :=
  let s := A m
  let kd := C amKd m.toNat
  let k0 := C amKn (3 * m).toNat
  let k1 := C amKn (3 * m + 1).toNat
  let k2 := C amKn (3 * m + 2).toNat
  let rk := C amRk m.toNat
  let c := fun i : Int => C amCo (3 * m + i).toNat
  if kd = 0 then (if ¬ (0 ≤ k0 ∧ k0 ≤ 7) then .inl (2, -1) else if C amTm k0.toNat = 0 then .inl (2, -1)
    else famF s rk n (lpF (srcS (C amTm k0.toNat - 1) k1 rk (fun j => C amTb (16 * k0 + (j : Int)).toNat)) n.toNat 0 (z0 s)))
  else if kd = 5 then (if (oBad (iRw A (c 0)) || oBad (iRw A (c 1)) || oBad (iRw A (c 2))) = true then .inl (4, -1)
    else if ((iRw A (c 0)).isSome || (iRw A (c 1)).isSome || (iRw A (c 2)).isSome) = true then famF s 2 n (lpF (mixS (fun i => (iRw A (c i)).isSome) (fun i => oL (iRw A (c i))) (fun i => oV (iRw A (c i)))) n.toNat 0 (z0 s))
    else .inr (setR s none))
  else if kd = 6 then .inr (setR s (sF s (clp k0)))
  else if kd = 7 then bindW (wantF A (c 0) 4) (fun r => famF s 0 n (lpF (gatS k0 k1 (rwL r) (rwN r) (rwV r)) n.toNat 0 (z0 s)))
  else if kd = 8 then bindW (wantF A (c 0) (-1)) (fun r => famF s rk n (lpF (trnS (decide (3 ≤ rwK r)) rk (rwL r) (rwN r) (rwV r)) n.toNat 0 (z0 s)))
  else if kd = 9 then bindW (wantF A (c 0) (-1)) (fun r => bindW (wantF A (c 1) 0) (fun g => if rwL g ≤ n - 1 then .inl (3, n - 1) else if FP.dcmp (rwV g (n - 1)) FP.dconst1 = some .eq then .inr (setR s (some r)) else .inr (setR s none)))
  else if kd = 10 then bindW (wantF A (c 0) 2) (fun r => famF s 2 n (lpF (menS k0 (rwL r) (rwV r)) n.toNat 0 (z0 s)))
  else bindW (wantF A (c 0) 4) (fun r => famF s 4 n (lpF (shpS kd (sB s) k0 k1 k2 n (rwL r) (rwN r) (rwV r)) n.toNat 0 (z0 s)))
/-- a sample of a row of this kind -/
def svK (kd : Int) (x : UInt64) : Prop := (kd < 3 → ∃ v : Int, (-2147483648 ≤ v ∧ v ≤ 2147483647) ∧ x = FP.i2d (Int32.ofInt v)) ∧ (3 ≤ kd → x.toNat % 2 ^ 63 ≤ 4696837146684686336)
/-- a row as it may be -/
def okR (r : Rw) : Prop := (0 ≤ rwK r ∧ rwK r ≤ 4) ∧ (1 ≤ rwL r ∧ rwL r ≤ 16) ∧ (0 ≤ rwN r ∧ rwN r < 2 ^ (rwL r).toNat) ∧ (rwK r < 3 → rwN r = 0) ∧ (∀ i, 0 ≤ i → i ≤ 15 → svK (rwK r) (rwV r i)) ∧ ∀ i, 0 ≤ i → i ≤ 15 → (bt (rwN r) i = true ∨ rwL r ≤ i) → rwV r i = 0
def okO (r : Option Rw) : Prop := ∀ w, r = some w → okR w
/-- a module's state as it may be, after t blocks at most -/
def okS (t : Int) (s : SS) : Prop := okO (sR s) ∧ 0 ≤ sP s ∧ (mg 1043 (sK s) ∧ mg 1043 (sO s)) ∧ (0 ≤ sU s ∧ sU s ≤ 1) ∧ (0 ≤ sN s ∧ sN s ≤ 16 * t) ∧ (-1000 ≤ sB s ∧ sB s ≤ 1000) ∧ ∀ j, 1 ≤ j → j ≤ 4 → okO (sF s j)
/-- the reference keeps row r of module q (of all slots) so -/
def mRw (M : xm) (q r : Int) : Option Rw → Prop
  | none => mA M amIn (20 * q + 3 * r).toNat = 0
  | some w => mA M amIn (20 * q + 3 * r).toNat = rwK w + 1 ∧ mA M amIn (20 * q + 3 * r + 1).toNat = rwL w ∧ mA M amIn (20 * q + 3 * r + 2).toNat = rwN w ∧ ∀ i, 0 ≤ i → i ≤ 15 → mB M amDb (82 * q + 16 * r + i).toNat = rwV w i
/-- and its state -/
def mS1 (M : xm) (q : Int) (s : SS) : Prop := mRw M q 0 (sR s) ∧ mA M amIn (20 * q + 15).toNat = sP s ∧ mB M amDb (82 * q + 80).toNat = sK s ∧ mB M amDb (82 * q + 81).toNat = sO s ∧ mA M amIn (20 * q + 16).toNat = sU s ∧ mA M amIn (20 * q + 17).toNat = sN s ∧ mA M amIn (20 * q + 18).toNat = sB s ∧ ∀ j, 1 ≤ j → j ≤ 4 → mRw M q j (sF s j)
/-- what stays as it is while module m acts, and fails -/
def mGo (M0 : xm) (m : Int) (M : xm) : Prop := (∀ l j, ¬ (l = amIn ∧ (20 * m).toNat ≤ j ∧ j < (20 * m + 3).toNat) → ¬ (l = amIn ∧ (20 * m + 15).toNat ≤ j ∧ j < (20 * m + 18).toNat) → ¬ (l = aM ∧ (j = 16 ∨ j = 17 ∨ j = 18 ∨ j = 28)) → mA M l j = mA M0 l j) ∧
  (∀ l j, ¬ (l = amDb ∧ (82 * m).toNat ≤ j ∧ j < (82 * m + 16).toNat) → ¬ (l = amDb ∧ (82 * m + 80).toNat ≤ j ∧ j < (82 * m + 82).toNat) → ¬ l = amFr → mB M l j = mB M0 l j) ∧ mR M = mR M0 ∧ mC M = mC M0 ∧ (mK M = mK M0 ∧ mS M = mS M0) ∧ inR M
/-- what stays as it is while module m acts -/
def mG (M0 : xm) (m : Int) (M : xm) : Prop := (∀ l j, ¬ (l = amIn ∧ (20 * m).toNat ≤ j ∧ j < (20 * m + 3).toNat) → ¬ (l = amIn ∧ (20 * m + 15).toNat ≤ j ∧ j < (20 * m + 18).toNat) → ¬ (l = aM ∧ (j = 16 ∨ j = 17 ∨ j = 18 ∨ j = 28)) → mA M l j = mA M0 l j) ∧
  (∀ l j, ¬ (l = amDb ∧ (82 * m).toNat ≤ j ∧ j < (82 * m + 16).toNat) → ¬ (l = amDb ∧ (82 * m + 80).toNat ≤ j ∧ j < (82 * m + 82).toNat) → ¬ l = amFr → mB M l j = mB M0 l j) ∧ mR M = mR M0 ∧ mC M = mC M0 ∧ (mK M = mK M0 ∧ mS M = mS M0 ∧ mA M aM 16 = mA M0 aM 16) ∧ inR M
theorem mG.o {M0 M : xm} {m : Int} (h : mG M0 m M) : mGo M0 m M := ⟨h.1, h.2.1, h.2.2.1, h.2.2.2.1, ⟨h.2.2.2.2.1.1, h.2.2.2.2.1.2.1⟩, h.2.2.2.2.2⟩
theorem lpF_c {step step' : Int → ZT → Int ⊕ ZT} : ∀ (d : Nat) (k : Int) (z : ZT), (∀ j z, k ≤ j → j < k + d → step j z = step' j z) → lpF step d k z = lpF step' d k z
  | 0, _, _, _ => rfl
  | d + 1, k, z, h => by
    rw [lpF, lpF, h k z (by omega) (by omega)]
    cases step' k z with
    | inl f => rfl
    | inr z' => exact lpF_c d (k + 1) z' (fun j z a b => h j z (by omega) (by omega))
theorem bt_0 (k : Int) (h : 0 ≤ k ∧ k ≤ 15) : bt 0 k = false := by
  have e : ∀ j : Nat, j < 16 → bt 0 (j : Int) = false := by decide
  have := e k.toNat (by omega)
  rwa [show ((k.toNat : Nat) : Int) = k by omega] at this
