/-! 08.calls: new cells, calls, over lz_Z -/
def lz_upT (T : lz_T) (L : Nat) (x : Nat × Nat) : lz_T := fun l => if l = L then x else T l
theorem lz_upT_eq (T : lz_T) (L : Nat) (x : Nat × Nat) : lz_upT T L x L = x := if_pos rfl
theorem lz_upT_ne (T : lz_T) {L l : Nat} (x : Nat × Nat) (h : l ≠ L) : lz_upT T L x l = T l := if_neg h
theorem lz_E_new {T : lz_T} {ad : Nat → Nat} {L q : Nat} {x : Nat × Nat} (hL : (T L).1 = 0) : lz_E T ad (lz_upT T L x) (va_up ad L q) := fun l hl => by
  have hne : l ≠ L := fun z => hl (by rw [z]; exact hL)
  exact ⟨lz_upT_ne T x hne, by simp [va_up, hne]⟩
theorem lz_st_E {T T' : lz_T} {ad ad' : Nat → Nat} (hE : lz_E T ad T' ad') {st : List Value} (h : lz_oks T st) : st.map (lz_iv ad') = st.map (lz_iv ad) := List.map_congr_left fun v hv => lz_ok_iv hE (h v hv)
theorem lz_lv_E {T T' : lz_T} {ad ad' : Nat → Nat} (hE : lz_E T ad T' ad') {lv : List (Nat × Value)} (h : lz_okl T lv) : lz_lv ad' lv = lz_lv ad lv := List.map_congr_left fun q hq => by rw [lz_ok_iv hE (h q hq)]
theorem lz_oks_E {T T' : lz_T} {ad ad' : Nat → Nat} (hE : lz_E T ad T' ad') {st : List Value} (h : lz_oks T st) : lz_oks T' st := fun v hv => lz_ok_E hE (h v hv)
theorem lz_okl_E {T T' : lz_T} {ad ad' : Nat → Nat} (hE : lz_E T ad T' ad') {lv : List (Nat × Value)} (h : lz_okl T lv) : lz_okl T' lv := fun q hq => lz_ok_E hE (h q hq)
/-- a new cell: the heap -/
theorem lz_H_push {D : va_G} {dA : Nat → ClassId} {b : Nat} {ad : Nat → Nat} {T : lz_T} {A : lz_A} {B : lz_B} {R : lz_R} {Ls : List Nat} {H1 : Heap} {L q : Nat} {x : Nat × Nat} (hmem : ∀ L, L ∈ Ls ↔ (T L).1 ≠ 0) (hcl : ∀ L k q, R L k = some q → (T q).1 ≠ 0) (hz : ∀ L, (T L).1 = 0 → A L = (fun _ => 0) ∧ B L = (fun _ => 0) ∧ R L = fun _ => none) (hL : (T L).1 = 0) (hx : x.1 ≠ 0) {en : va_E} (hen : lz_cell dA (va_up ad L q) (lz_upT T L x) A B R L = en)
    (hP1 : va_P D vwCl (lz_ws dA ad T A B R Ls ++ [(q, en)]) H1) (hD1 : va_D (fun q => b ≤ q) (lz_ws dA ad T A B R Ls ++ [(q, en)])) : lz_H D dA b (va_up ad L q) (lz_upT T L x) A B R H1 := by
  have hw : lz_ws dA ad T A B R Ls ++ [(q, en)] = lz_ws dA (va_up ad L q) (lz_upT T L x) A B R (Ls ++ [L]) := by
    unfold lz_ws
    rw [List.map_append]
    congr 1
    · apply List.map_congr_left
      intro l hl
      have hne : l ≠ L := fun z => (hmem l).mp hl (by rw [z]; exact hL)
      have hc : lz_cell dA (va_up ad L q) (lz_upT T L x) A B R l = lz_cell dA ad T A B R l := lz_cell_ad (lz_upT_ne T x hne) (fun k q' hq' => by
        have h1 : q' ≠ L := fun z => hcl l k q' hq' (by rw [z]; exact hL)
        simp [va_up, h1])
      rw [hc]
      simp [va_up, hne]
    · show [(q, en)] = [(va_up ad L q L, _)]
      rw [hen]
      simp [va_up]
  rw [hw] at hP1 hD1
  refine ⟨Ls ++ [L], fun l => ?_, hP1, hD1, fun l k q' hq' => ?_, fun l hl => ?_⟩
  · by_cases hl : l = L
    · subst hl
      rw [lz_upT_eq]
      simp [hx]
    · rw [lz_upT_ne T x hl, List.mem_append, List.mem_singleton, hmem]
      simp [hl]
  · have h1 : q' ≠ L := fun z => hcl l k q' hq' (by rw [z]; exact hL)
    rw [lz_upT_ne T x h1]
    exact hcl l k q' hq'
  · by_cases h1 : l = L
    · subst h1
      rw [lz_upT_eq] at hl
      exact absurd hl hx
    · rw [lz_upT_ne T x h1] at hl
      exact hz l hl
/-- the tables' words for 'new' of class ci by 'index' -/
def lz_N (own : String) (index ci : Nat) : Prop := ci < 11 ∧ ∃ q : vw_C, vwCl[ci]? = some q ∧ lz_nF ci = q.2.2 ∧ (∀ w ∈ u_ws q.1 q.2.1 q.2.2, w ∈ lw_tb2) ∧ (∀ j, j < q.2.2 → parseFieldDescriptor (q.2.1 j).2.2.1 = some (lz_ty ci j)) ∧ Cond.classLink own index q.1 ∈ lw_tb2 ∧ Cond.instantiable q.1 q.2.2 ∈ lw_tb2 ∧ Cond.initialized q.1 ∈ lw_tb2 ∧
  ∀ j, j < q.2.2 → lz_fv id (fun _ _ => 0) (fun _ _ => 0) (fun _ _ => none) 0 j (lz_kd (lz_ty ci j)) = defaultValue (lz_ty ci j)
section ZC
variable {p : Program} {l : Launch} {e : Env} {Rm : Room} {s : State} {m : MethodId} {args : Array Value} {below : List Frame} {meth : Method} {c : Code} {D : va_G} {dA : Nat → ClassId} {b nL : Nat} {T0 : lz_T} {ad0 : Nat → Nat} {Q : State → Prop} {kc ks : Nat} {T : lz_T} {A : lz_A} {B : lz_B} {R : lz_R} {y : MethodName} {cc : ByteArray} {ret : Option FieldType} {pc : Nat} {lv : List (Nat × Value)} {rest : List Value}
/-- behind a new cell -/
theorem lz_fresh {pc' L q cells slots n' : Nat} {x : Nat × Nat} {ad : Nat → Nat} {H1 : Heap} {locs : List Loc} {la : Array Slot} (hL : (T L).1 = 0) (hx : x.1 ≠ 0) (h1 : cells ≤ kc) (h2 : slots ≤ ks) (h4 : lz_E T0 ad0 T ad) (h6 : lv_has la nL (lz_lv ad lv)) (h7 : lz_okl T lv) (h8 : lz_oks T rest) (hH : lz_H D dA b (va_up ad L q) (lz_upT T L x) A B R H1) (hS : va_S (fun q => b ≤ q) s.heap H1 locs)
    (kk : lz_Z p l e Rm s m args below meth c D dA b nL T0 ad0 Q (kc + 1) (ks + n') (lz_upT T L x) A B R pc' lv (.ref L :: rest)) : W p l e Rm s m args below meth c H1 locs (cells + 1) (slots + n') Q (F0 m pc' la (.ref q :: rest.map (lz_iv ad))) := by
  have hE : lz_E T ad (lz_upT T L x) (va_up ad L q) := lz_E_new hL
  have go := kk H1 locs la (cells + 1) (slots + n') (va_up ad L q) (by omega) (by omega) hH (h4.trans hE) hS (by rw [lz_lv_E hE h7]; exact h6) (lz_okl_E hE h7) (lz_oks_cons.mpr ⟨lz_ok_ref (by rw [lz_upT_eq]; exact hx), lz_oks_E hE h8⟩)
  rw [List.map_cons, lz_st_E hE h8] at go
  have hv : lz_iv (va_up ad L q) (.ref L) = .ref q := by simp [lz_iv, va_up]
  rw [hv] at go
  exact go
theorem z_new (C : lz_C p s m args meth c D dA b y cc nL ret) {ci index : Nat} (L : Nat) (F : lz_N y.cls index ci) (hL : (T L).1 = 0) (hc : kc + 1 ≤ Rm.cells) (hs : ks + lz_nF ci ≤ Rm.slots) (hdg : decode cc pc = .ok (.new index, 3))
    (kk : lz_Z p l e Rm s m args below meth c D dA b nL T0 ad0 Q (kc + 1) (ks + lz_nF ci) (lz_upT T L (1 + ci, 0)) A B R (pc + 3) lv (.ref L :: rest)) : lz_Z p l e Rm s m args below meth c D dA b nL T0 ad0 Q kc ks T A B R pc lv rest := by
  intro H locs la cells slots ad h1 h2 h3 h4 h5 h6 h7 h8
  obtain ⟨Ls, hmem, hP, hD, hcl, hz⟩ := id h3
  obtain ⟨hci, q, hq, hnF, hin, hty, hlk, hinst, hini, hdef⟩ := F
  obtain ⟨z1, z2, z3⟩ := hz L hL
  refine va_new (C := q.1) (T := q.2.1) (N := q.2.2) (fs := lz_fs ad A B R L ci) C.1 C.2.1 C.2.2.2.2.1 hin (lz_ty ci) hty C.2.2.2.1 (C.2.2.2.2.1 _ hlk) (C.2.2.2.2.1 _ hinst) (C.2.2.2.2.1 _ hini) C.2.2.2.2.2.1.1 hP hD h5 (fun q h => Nat.le_trans C.2.2.2.2.2.2.2.2.1 h) hq (fun j hj => ?_) (by omega) (by rw [hnF] at hs; omega) hdg (fun q0 H1 hP1 hD1 hS1 => ?_)
  · unfold vp_V
    rw [List.getD_eq_getElem?_getD, lz_fs_get _ _ _ _ _ (by rw [hnF]; exact hj), Option.getD_some, ← hdef j hj]
    unfold lz_fv
    rw [z1, z2, z3]
    split <;> rfl
  · have hen : lz_cell dA (va_up ad L q0) (lz_upT T L (1 + ci, 0)) A B R L = .inr (ci, lz_fs ad A B R L ci) := by
      rw [lz_cell_o (lz_upT_eq T L (1 + ci, 0)) (by omega)]
      unfold lz_fs lz_fv
      rw [z3]
      rfl
    rw [hnF] at kk
    exact lz_fresh hL (by show 1 + ci ≠ 0; omega) h1 h2 h4 h6 h7 h8 (lz_H_push hmem hcl hz hL (by show 1 + ci ≠ 0; omega) hen hP1 hD1) hS1 kk
/-- the class of an array of primitives, of objects -/
theorem lz_dA0 (C : lz_C p s m args meth c D dA b y cc nL ret) {t : Nat} {ty : FieldType} {cA : ClassId} (ht : (lz_tys dA)[t]? = some (dA t, ty)) (hn : s.vm.findClass ("[" ++ ty.toString) = some cA) : cA = dA t := by
  have h := (C.2.2.2.2.2.1.1.2 t _ ht).2
  cases ty with
  | object C0 =>
    obtain ⟨kA, comp, -, -, -, h4⟩ := h
    exact Option.some.inj (hn.symm.trans h4)
  | _ => exact Option.some.inj (hn.symm.trans h)
theorem z_newa (C : lz_C p s m args meth c D dA b y cc nL ret) {at0 : ArrayType} {ty : FieldType} {t N : Nat} {n : Int32} (L : Nat) (hw : Cond.arrayClass ty ∈ lw_tb2) (hty : newarray.typeOf at0 = ty) (ht : ∀ dA : Nat → ClassId, (lz_tys dA)[t]? = some (dA t, ty)) (hdef : ∀ (ad : Nat → Nat) (cA : ClassId), vp_cell cA (lz_ar ad (fun _ _ => 0) (fun _ _ => 0) (fun _ _ => none) L t N) = arrV cA N (fun _ => defaultValue ty)) (hn : n = nI N) (hN : N * componentBytes ty ≤ 536870912) (hN2 : N < 2 ^ 31) (hL : (T L).1 = 0) (hc : kc + 1 ≤ Rm.cells) (hs : ks + N ≤ Rm.slots) (hdg : decode cc pc = .ok (.newarray at0, 2))
    (kk : lz_Z p l e Rm s m args below meth c D dA b nL T0 ad0 Q (kc + 1) (ks + N) (lz_upT T L (32 + t, N)) A B R (pc + 2) lv (.ref L :: rest)) : lz_Z p l e Rm s m args below meth c D dA b nL T0 ad0 Q kc ks T A B R pc lv (.int n :: rest) := by
  intro H locs la cells slots ad h1 h2 h3 h4 h5 h6 h7 h8
  obtain ⟨Ls, hmem, hP, hD, hcl, hz⟩ := id h3
  obtain ⟨z1, z2, z3⟩ := hz L hL
  have har : ∀ ad' : Nat → Nat, lz_ar ad' A B R L t N = lz_ar ad' (fun _ _ => 0) (fun _ _ => 0) (fun _ _ => none) L t N := fun ad' => by
    unfold lz_ar
    rw [z1, z2, z3]
  refine va_newa (a0 := lz_ar ad A B R L t N) (N' := N) C.1 C.2.1 (by rw [hty]; exact C.2.2.2.2.1 _ hw) hty C.2.2.2.2.2.1.1 hP hD h5 (fun q h => Nat.le_trans C.2.2.2.2.2.2.2.2.1 h) (fun cA => by rw [har]; exact hdef ad cA) (by rw [hn]; exact nI_pos hN2) (by rw [hn]; exact nI_clamp hN2) hN (by omega) (by omega) hdg (fun q0 cA H1 hK1 hP1 hD1 hS1 => ?_)
  have hcA : cA = dA t := by
    have h := (hK1.2 7 (cA, ty) rfl).2
    exact lz_dA0 C (ht dA) (by
      cases ty with
      | object C0 =>
        obtain ⟨kA, comp, -, -, -, h4⟩ := h
        exact h4
      | _ => exact h)
  subst hcA
  have hen : lz_cell dA (va_up ad L q0) (lz_upT T L (32 + t, N)) A B R L = .inl (dA t, lz_ar ad A B R L t N) := by
    rw [lz_cell_a (lz_upT_eq T L (32 + t, N))]
    congr 2
    unfold lz_ar
    rw [z3]
    rfl
  exact lz_fresh hL (by show 32 + t ≠ 0; omega) h1 h2 h4 h6 h7 (lz_oks_cons.mp h8).2 (lz_H_push hmem hcl hz hL (by show 32 + t ≠ 0; omega) hen hP1 hD1) hS1 kk
theorem z_newq (C : lz_C p s m args meth c D dA b y cc nL ret) {cn : String} {index t N : Nat} {n : Int32} (L : Nat) (hao : ∀ U, lz_K D dA U → va_AO cn U) (hw : Cond.classLink y.cls index cn ∈ lw_tb2) (ht : ∀ dA : Nat → ClassId, (lz_tys dA)[t]? = some (dA t, .object cn)) (ht3 : 3 ≤ t) (hn : n = nI N) (hN : N * 4 ≤ 536870912) (hN2 : N < 2 ^ 31) (hL : (T L).1 = 0) (hc : kc + 1 ≤ Rm.cells) (hs : ks + N ≤ Rm.slots) (hdg : decode cc pc = .ok (.anewarray index, 3))
    (kk : lz_Z p l e Rm s m args below meth c D dA b nL T0 ad0 Q (kc + 1) (ks + N) (lz_upT T L (32 + t, N)) A B R (pc + 3) lv (.ref L :: rest)) : lz_Z p l e Rm s m args below meth c D dA b nL T0 ad0 Q kc ks T A B R pc lv (.int n :: rest) := by
  intro H locs la cells slots ad h1 h2 h3 h4 h5 h6 h7 h8
  obtain ⟨Ls, hmem, hP, hD, hcl, hz⟩ := id h3
  obtain ⟨z1, z2, z3⟩ := hz L hL
  refine va_newq (N' := N) C.1 C.2.1 C.2.2.2.1 (C.2.2.2.2.1 _ hw) (hao s C.2.2.2.2.2.1) C.2.2.2.2.2.1.1 hP hD h5 (fun q h => Nat.le_trans C.2.2.2.2.2.2.2.2.1 h) (by rw [hn]; exact nI_pos hN2) (by rw [hn]; exact nI_clamp hN2) hN (by omega) (by omega) hdg (fun q0 cA H1 hK1 hP1 hD1 hS1 => ?_)
  have hcA : cA = dA t := by
    obtain ⟨kA, comp, -, -, -, h⟩ := (hK1.2 7 (cA, .object cn) rfl).2
    exact lz_dA0 C (ht dA) h
  subst hcA
  have hen : lz_cell dA (va_up ad L q0) (lz_upT T L (32 + t, N)) A B R L = .inl (dA t, N, .inr (.inr (.inr (.inr (fun _ => none))))) := by
    rw [lz_cell_a (lz_upT_eq T L (32 + t, N)), lz_ar_q _ _ _ _ _ _ ht3, z3]
    rfl
  exact lz_fresh hL (by show 32 + t ≠ 0; omega) h1 h2 h4 h6 h7 (lz_oks_cons.mp h8).2 (lz_H_push hmem hcl hz hL (by show 32 + t ≠ 0; omega) hen hP1 hD1) hS1 kk
end ZC
