/-! 04.mem: A MEMORY BY LOGICAL ADDRESSES. T: what stands at a logical address ((0,_) nothing; (1+ci,_) an object of class ci; (32+t,n) an array of kind t, n long); A, B, R: its ints, doubles, references (logical). 'ad' leads to the machine's addresses, and is hidden in lz_Z. -/
def lz_kd : FieldType → Nat
  | .int => 0
  | .double => 1
  | _ => 2
def lz_ty (ci : Nat) : Nat → FieldType := match ci with
  | 0 => tyX0
  | 1 => tyX1
  | 2 => tyX2
  | 3 => tyX3
  | 4 => tyX4
  | 5 => tyX5
  | 6 => tyX6
  | 7 => tyX7
  | 8 => tyX8
  | 9 => tyX9
  | _ => tyX10
def lz_nF (ci : Nat) : Nat := match ci with
  | 0 => 8
  | 1 => 4
  | 2 => 2
  | 3 => 5
  | 4 => 4
  | 5 => 8
  | 6 => 2
  | 7 => 2
  | 8 => 7
  | 9 => 6
  | _ => 31
abbrev lz_T : Type := Nat → Nat × Nat
abbrev lz_A : Type := Nat → Nat → Int32
abbrev lz_B : Type := Nat → Nat → UInt64
abbrev lz_R : Type := Nat → Nat → Option Nat
def lz_iv (ad : Nat → Nat) (v : Value) : Value := match v with
  | .ref L => .ref (ad L)
  | w => w
theorem lz_iv_int (ad : Nat → Nat) (x : Int32) : lz_iv ad (.int x) = .int x := rfl
theorem lz_iv_rf (ad : Nat → Nat) (q : Option Nat) : lz_iv ad (va_rf q) = va_rf (q.map ad) := by cases q <;> rfl
theorem lz_iv_cat (ad : Nat → Nat) (v : Value) : (lz_iv ad v).category = v.category := by cases v <;> rfl
def lz_up {α : Type} (f : Nat → Nat → α) (L k : Nat) (x : α) : Nat → Nat → α := fun l j => if l = L ∧ j = k then x else f l j
theorem lz_up_eq {α : Type} (f : Nat → Nat → α) (L k : Nat) (x : α) : lz_up f L k x L k = x := if_pos ⟨rfl, rfl⟩
theorem lz_up_ne {α : Type} (f : Nat → Nat → α) {L k l j : Nat} (x : α) (h : ¬ (l = L ∧ j = k)) : lz_up f L k x l j = f l j := if_neg h
theorem lz_up_row {α : Type} (f : Nat → Nat → α) {L k l : Nat} (x : α) (h : l ≠ L) : lz_up f L k x l = f l := funext fun j => if_neg fun q => h q.1
theorem lz_up_at {α : Type} (f : Nat → Nat → α) (L k : Nat) (x : α) : lz_up f L k x L = va_up (f L) k x := by
  funext j
  simp [lz_up, va_up]
def lz_fv (ad : Nat → Nat) (A : lz_A) (B : lz_B) (R : lz_R) (L k kd : Nat) : Value := match kd with
  | 0 => .int (A L k)
  | 1 => .double (B L k)
  | _ => va_rf ((R L k).map ad)
def lz_ar (ad : Nat → Nat) (A : lz_A) (B : lz_B) (R : lz_R) (L t n : Nat) : vp_A := match t with
  | 0 => (n, .inl (A L))
  | 1 => (n, .inr (.inr (.inr (.inl (B L)))))
  | 2 => (n, .inl (A L))
  | _ => (n, .inr (.inr (.inr (.inr (fun k => (R L k).map ad)))))
def lz_fs (ad : Nat → Nat) (A : lz_A) (B : lz_B) (R : lz_R) (L ci : Nat) : List Value := (List.range (lz_nF ci)).map (fun k => lz_fv ad A B R L k (lz_kd (lz_ty ci k)))
def lz_cell (dA : Nat → ClassId) (ad : Nat → Nat) (T : lz_T) (A : lz_A) (B : lz_B) (R : lz_R) (L : Nat) : va_E :=
  if (T L).1 < 32 then .inr ((T L).1 - 1, lz_fs ad A B R L ((T L).1 - 1)) else .inl (dA ((T L).1 - 32), lz_ar ad A B R L ((T L).1 - 32) (T L).2)
theorem lz_cell_o {dA : Nat → ClassId} {ad : Nat → Nat} {T : lz_T} {A : lz_A} {B : lz_B} {R : lz_R} {L ci z : Nat} (h : T L = (1 + ci, z)) (hc : ci < 31) : lz_cell dA ad T A B R L = .inr (ci, lz_fs ad A B R L ci) := by
  unfold lz_cell
  rw [h]
  simp only []
  rw [if_pos (by omega), Nat.add_sub_cancel_left]
theorem lz_cell_a {dA : Nat → ClassId} {ad : Nat → Nat} {T : lz_T} {A : lz_A} {B : lz_B} {R : lz_R} {L t n : Nat} (h : T L = (32 + t, n)) : lz_cell dA ad T A B R L = .inl (dA t, lz_ar ad A B R L t n) := by
  unfold lz_cell
  rw [h]
  simp only []
  rw [if_neg (by omega), Nat.add_sub_cancel_left]
def lz_ws (dA : Nat → ClassId) (ad : Nat → Nat) (T : lz_T) (A : lz_A) (B : lz_B) (R : lz_R) (Ls : List Nat) : va_W := Ls.map (fun L => (ad L, lz_cell dA ad T A B R L))
def lz_H (D : va_G) (dA : Nat → ClassId) (b : Nat) (ad : Nat → Nat) (T : lz_T) (A : lz_A) (B : lz_B) (R : lz_R) (H : Heap) : Prop :=
  ∃ Ls : List Nat, (∀ L, L ∈ Ls ↔ (T L).1 ≠ 0) ∧ va_P D vwCl (lz_ws dA ad T A B R Ls) H ∧ va_D (fun q => b ≤ q) (lz_ws dA ad T A B R Ls) ∧ (∀ L k q, R L k = some q → (T q).1 ≠ 0) ∧ ∀ L, (T L).1 = 0 → A L = (fun _ => 0) ∧ B L = (fun _ => 0) ∧ R L = fun _ => none
theorem lz_ws_at {dA : Nat → ClassId} {ad : Nat → Nat} {T : lz_T} {A : lz_A} {B : lz_B} {R : lz_R} {Ls : List Nat} {L k : Nat} (h : Ls[k]? = some L) : (lz_ws dA ad T A B R Ls)[k]? = some (ad L, lz_cell dA ad T A B R L) := by
  unfold lz_ws
  rw [List.getElem?_map, h]
  rfl
theorem lz_ws_uniq {dA : Nat → ClassId} {ad : Nat → Nat} {T : lz_T} {A : lz_A} {B : lz_B} {R : lz_R} {Ls : List Nat} {P : Nat → Prop} (hD : va_D P (lz_ws dA ad T A B R Ls)) {i j L L' : Nat} (hi : Ls[i]? = some L) (hj : Ls[j]? = some L') (h : ad L = ad L') : i = j :=
  hD.1 i j _ _ (lz_ws_at hi) (lz_ws_at hj) h
/-- one cell has changed: the list of cells -/
theorem lz_ws_set {dA : Nat → ClassId} {ad : Nat → Nat} {T : lz_T} {A A' : lz_A} {B B' : lz_B} {R R' : lz_R} {Ls : List Nat} {P : Nat → Prop} (hD : va_D P (lz_ws dA ad T A B R Ls)) {k L : Nat} (hk : Ls[k]? = some L)
    (h : ∀ l, l ≠ L → lz_cell dA ad T A' B' R' l = lz_cell dA ad T A B R l) : (lz_ws dA ad T A B R Ls).set k (ad L, lz_cell dA ad T A' B' R' L) = lz_ws dA ad T A' B' R' Ls := by
  have hl := (List.getElem?_eq_some_iff.mp hk).1
  apply List.ext_getElem?
  intro i
  by_cases hi : k = i
  · subst hi
    rw [List.getElem?_set_self (by unfold lz_ws; rw [List.length_map]; exact hl), lz_ws_at hk]
  · rw [List.getElem?_set_ne hi]
    cases hq : Ls[i]? with
    | none =>
      unfold lz_ws
      rw [List.getElem?_map, List.getElem?_map, hq]
      rfl
    | some l =>
      rw [lz_ws_at hq, lz_ws_at hq]
      have hne : l ≠ L := fun z => hi (lz_ws_uniq hD hk hq (by rw [z]))
      rw [h l hne]
theorem lz_fs_get (ad : Nat → Nat) (A : lz_A) (B : lz_B) (R : lz_R) (L : Nat) {ci k : Nat} (hk : k < lz_nF ci) : (lz_fs ad A B R L ci)[k]? = some (lz_fv ad A B R L k (lz_kd (lz_ty ci k))) := by
  unfold lz_fs
  rw [List.getElem?_map, List.getElem?_range hk]
  rfl
theorem lz_fs_len (ad : Nat → Nat) (A : lz_A) (B : lz_B) (R : lz_R) (L ci : Nat) : (lz_fs ad A B R L ci).length = lz_nF ci := by
  unfold lz_fs
  rw [List.length_map, List.length_range]
theorem lz_fs_set {ad : Nat → Nat} {A A' : lz_A} {B B' : lz_B} {R R' : lz_R} {L ci k : Nat} (hk : k < lz_nF ci) {v : Value} (hv : lz_fv ad A' B' R' L k (lz_kd (lz_ty ci k)) = v)
    (h : ∀ j, j ≠ k → ∀ kd, lz_fv ad A' B' R' L j kd = lz_fv ad A B R L j kd) : (lz_fs ad A B R L ci).set k v = lz_fs ad A' B' R' L ci := by
  apply List.ext_getElem?
  intro i
  by_cases hi : k = i
  · subst hi
    rw [List.getElem?_set_self (by rw [lz_fs_len]; exact hk), lz_fs_get _ _ _ _ _ hk, hv]
  · rw [List.getElem?_set_ne hi]
    unfold lz_fs
    rw [List.getElem?_map, List.getElem?_map]
    cases hq : (List.range (lz_nF ci))[i]? with
    | none => rfl
    | some j =>
      have hj : j = i := by
        rw [List.getElem?_range (by
          have := (List.getElem?_eq_some_iff.mp hq).1
          rwa [List.length_range] at this)] at hq
        exact (Option.some.inj hq).symm
      subst hj
      exact congrArg some (h j (Ne.symm hi) _).symm
/-- the cell of another address doesn't see a change at L -/
theorem lz_cell_row {dA : Nat → ClassId} {ad : Nat → Nat} {T : lz_T} {A A' : lz_A} {B B' : lz_B} {R R' : lz_R} {l : Nat} (hA : A' l = A l) (hB : B' l = B l) (hR : R' l = R l) : lz_cell dA ad T A' B' R' l = lz_cell dA ad T A B R l := by
  unfold lz_cell lz_fs lz_ar lz_fv
  rw [hA, hB, hR]
/-- and with another 'ad' that agrees on what is there -/
theorem lz_cell_ad {dA : Nat → ClassId} {ad ad' : Nat → Nat} {T T' : lz_T} {A : lz_A} {B : lz_B} {R : lz_R} {l : Nat} (hT : T' l = T l) (h : ∀ k q, R l k = some q → ad' q = ad q) : lz_cell dA ad' T' A B R l = lz_cell dA ad T A B R l := by
  have hm : ∀ k, (R l k).map ad' = (R l k).map ad := fun k => by
    cases hq : R l k with
    | none => rfl
    | some q => simp only [Option.map_some]; rw [h k q hq]
  unfold lz_cell
  rw [hT]
  split
  · congr 2
    unfold lz_fs
    congr 1
    funext k
    unfold lz_fv
    rw [hm]
  · congr 2
    unfold lz_ar
    split <;> first | rfl | (congr 1; simp only [hm])
