/-! 07.heap: fields, arrays, new, over lz_Z -/
/-- the tables' words for field k (of kind kd) of class ci, as method class 'own' names it by 'index' -/
def lz_F (own : String) (index ci k kd : Nat) : Prop := ci < 11 ∧ ∃ q : vw_C, vwCl[ci]? = some q ∧ lz_nF ci = q.2.2 ∧ k < q.2.2 ∧ (∀ w ∈ u_ws q.1 q.2.1 q.2.2, w ∈ lw_tb2) ∧ Cond.fieldLink own index (q.2.1 k).1 (q.2.1 k).2.1 (q.2.1 k).2.2.1 ∈ lw_tb2 ∧ lz_kd (lz_ty ci k) = kd
/-- the same, of a field that method y may write -/
def lz_G (y : MethodName) (index ci k kd : Nat) : Prop := ci < 11 ∧ ∃ q : vw_C, vwCl[ci]? = some q ∧ lz_nF ci = q.2.2 ∧ k < q.2.2 ∧ (∀ w ∈ u_ws q.1 q.2.1 q.2.2, w ∈ lw_tb2) ∧ Cond.fieldLink y.cls index (q.2.1 k).1 (q.2.1 k).2.1 (q.2.1 k).2.2.1 ∈ lw_tb2 ∧ lz_kd (lz_ty ci k) = kd ∧
  (∀ j, j < q.2.2 → parseFieldDescriptor (q.2.1 j).2.2.1 = some (lz_ty ci j)) ∧ (∀ a, a < q.2.2 → ∀ b, b < q.2.2 → a ≠ b → (q.2.1 a).2.1 ≠ (q.2.1 b).2.1) ∧ ((q.2.1 k).2.2.2 = false ∨ ((q.2.1 k).2.2.2 = true ∧ y.name = "<init>" ∧ (q.2.1 k).1 = y.cls)) ∧
  (∀ x : Int32, kd = 0 → narrow (lz_ty ci k) (.int x) = .int x ∧ fits (lz_ty ci k) (.int x) = true) ∧ (∀ x : UInt64, kd = 1 → narrow (lz_ty ci k) (.double x) = .double x ∧ fits (lz_ty ci k) (.double x) = true) ∧ (∀ x : Option Nat, kd = 2 → narrow (lz_ty ci k) (va_rf x) = va_rf x ∧ fits (lz_ty ci k) (va_rf x) = true)
theorem lz_pos {T : lz_T} {Ls : List Nat} (h : ∀ L, L ∈ Ls ↔ (T L).1 ≠ 0) {L : Nat} (hT : (T L).1 ≠ 0) : ∃ k : Nat, Ls[k]? = some L := List.getElem?_of_mem ((h L).mpr hT)
theorem lz_tag_o {T : lz_T} {L ci z : Nat} (h : T L = (1 + ci, z)) : (T L).1 ≠ 0 := by rw [h]; simp only []; omega
theorem lz_tag_a {T : lz_T} {L t n : Nat} (h : T L = (32 + t, n)) : (T L).1 ≠ 0 := by rw [h]; simp only []; omega
theorem lz_in {i : Nat} {n : Nat} {x : Int32} (hx : x = nI i) (hi : i < n) (hn : n < 2 ^ 31) : vp_in x n := by rw [hx]; exact vp_in_nI hi hn
section ZH
variable {p : Program} {l : Launch} {e : Env} {Rm : Room} {s : State} {m : MethodId} {args : Array Value} {below : List Frame} {meth : Method} {c : Code} {D : va_G} {dA : Nat → ClassId} {b nL : Nat} {T0 : lz_T} {ad0 : Nat → Nat} {Q : State → Prop} {kc ks : Nat} {T : lz_T} {A : lz_A} {B : lz_B} {R : lz_R} {y : MethodName} {cc : ByteArray} {ret : Option FieldType} {pc : Nat} {lv : List (Nat × Value)} {rest : List Value}
theorem z_getv (C : lz_C p s m args meth c D dA b y cc nL ret) {L ci k z index kd : Nat} {v : Value} (F : lz_F y.cls index ci k kd) (hT : T L = (1 + ci, z)) (hdg : decode cc pc = .ok (.getfield index, 3)) (hv : ∀ ad, lz_fv ad A B R L k kd = lz_iv ad v) (hok : (∀ L k q, R L k = some q → (T q).1 ≠ 0) → lz_ok T v)
    (kk : lz_Z p l e Rm s m args below meth c D dA b nL T0 ad0 Q kc ks T A B R (pc + 3) lv (v :: rest)) : lz_Z p l e Rm s m args below meth c D dA b nL T0 ad0 Q kc ks T A B R pc lv (.ref L :: rest) := by
  intro H locs la cells slots ad h1 h2 h3 h4 h5 h6 h7 h8
  obtain ⟨Ls, hmem, hP, hD, hcl, hz⟩ := id h3
  obtain ⟨k0, hk0⟩ := lz_pos hmem (lz_tag_o hT)
  obtain ⟨hci, q, hq, hnF, hk, hin, hlk, hkd⟩ := F
  have he := lz_ws_at (dA := dA) (ad := ad) (T := T) (A := A) (B := B) (R := R) hk0
  rw [lz_cell_o hT (by omega)] at he
  refine va_get (C := q.1) (T := q.2.1) (N := q.2.2) C.1 C.2.1 C.2.2.2.2.1 hin C.2.2.2.1 C.2.2.2.2.2.1.1 hP k0 he hq k hk (C.2.2.2.2.1 _ hlk) (fun _ h => h) (v := lz_iv ad v) ?_ hdg ?_
  · rw [lz_fs_get _ _ _ _ _ (by rw [hnF]; exact hk), hkd, hv]
  · exact kk H locs la cells slots ad h1 h2 h3 h4 h5 h6 h7 (lz_oks_cons.mpr ⟨hok hcl, (lz_oks_cons.mp h8).2⟩)
theorem z_geti (C : lz_C p s m args meth c D dA b y cc nL ret) {L ci k z index : Nat} {x : Int32} (F : lz_F y.cls index ci k 0) (hT : T L = (1 + ci, z)) (hv : A L k = x) (hdg : decode cc pc = .ok (.getfield index, 3))
    (kk : lz_Z p l e Rm s m args below meth c D dA b nL T0 ad0 Q kc ks T A B R (pc + 3) lv (.int x :: rest)) : lz_Z p l e Rm s m args below meth c D dA b nL T0 ad0 Q kc ks T A B R pc lv (.ref L :: rest) :=
  z_getv C F hT hdg (fun _ => by subst hv; rfl) (fun _ => lz_ok_int _ _) kk
theorem z_getd (C : lz_C p s m args meth c D dA b y cc nL ret) {L ci k z index : Nat} {x : UInt64} (F : lz_F y.cls index ci k 1) (hT : T L = (1 + ci, z)) (hv : B L k = x) (hdg : decode cc pc = .ok (.getfield index, 3))
    (kk : lz_Z p l e Rm s m args below meth c D dA b nL T0 ad0 Q kc ks T A B R (pc + 3) lv (.double x :: rest)) : lz_Z p l e Rm s m args below meth c D dA b nL T0 ad0 Q kc ks T A B R pc lv (.ref L :: rest) :=
  z_getv C F hT hdg (fun _ => by subst hv; rfl) (fun _ => lz_ok_dbl _ _) kk
theorem z_getr (C : lz_C p s m args meth c D dA b y cc nL ret) {L ci k z index x : Nat} (F : lz_F y.cls index ci k 2) (hT : T L = (1 + ci, z)) (hv : R L k = some x) (hdg : decode cc pc = .ok (.getfield index, 3))
    (kk : lz_Z p l e Rm s m args below meth c D dA b nL T0 ad0 Q kc ks T A B R (pc + 3) lv (.ref x :: rest)) : lz_Z p l e Rm s m args below meth c D dA b nL T0 ad0 Q kc ks T A B R pc lv (.ref L :: rest) :=
  z_getv C F hT hdg (fun _ => by unfold lz_fv; rw [hv]; rfl) (fun h => lz_ok_ref (h L k x hv)) kk
theorem z_getn (C : lz_C p s m args meth c D dA b y cc nL ret) {L ci k z index : Nat} (F : lz_F y.cls index ci k 2) (hT : T L = (1 + ci, z)) (hv : R L k = none) (hdg : decode cc pc = .ok (.getfield index, 3))
    (kk : lz_Z p l e Rm s m args below meth c D dA b nL T0 ad0 Q kc ks T A B R (pc + 3) lv (.null :: rest)) : lz_Z p l e Rm s m args below meth c D dA b nL T0 ad0 Q kc ks T A B R pc lv (.ref L :: rest) :=
  z_getv C F hT hdg (fun _ => by unfold lz_fv; rw [hv]; rfl) (fun _ => lz_ok_null _) kk
/-- one cell has changed: the heap -/
theorem lz_H_set {ad : Nat → Nat} {A' : lz_A} {B' : lz_B} {R' : lz_R} {Ls : List Nat} {H1 : Heap} {k0 L : Nat} (hmem : ∀ L, L ∈ Ls ↔ (T L).1 ≠ 0) (hD : va_D (fun q => b ≤ q) (lz_ws dA ad T A B R Ls)) (hz : ∀ L, (T L).1 = 0 → A L = (fun _ => 0) ∧ B L = (fun _ => 0) ∧ R L = fun _ => none) (hk0 : Ls[k0]? = some L) (hTL : (T L).1 ≠ 0)
    (ho : ∀ l, l ≠ L → A' l = A l ∧ B' l = B l ∧ R' l = R l) (hcl : ∀ L k q, R' L k = some q → (T q).1 ≠ 0) {en : va_E} (hen : lz_cell dA ad T A' B' R' L = en) (hP1 : va_P D vwCl ((lz_ws dA ad T A B R Ls).set k0 (ad L, en)) H1) (hD1 : va_D (fun q => b ≤ q) ((lz_ws dA ad T A B R Ls).set k0 (ad L, en))) : lz_H D dA b ad T A' B' R' H1 := by
  have hs := lz_ws_set (A' := A') (B' := B') (R' := R') hD hk0 (fun l hl => lz_cell_row (ho l hl).1 (ho l hl).2.1 (ho l hl).2.2)
  rw [hen] at hs
  rw [hs] at hP1 hD1
  refine ⟨Ls, hmem, hP1, hD1, hcl, fun l hl => ?_⟩
  have hne : l ≠ L := fun z => hTL (by rw [← z]; exact hl)
  rw [(ho l hne).1, (ho l hne).2.1, (ho l hne).2.2]
  exact hz l hl
theorem z_putv (C : lz_C p s m args meth c D dA b y cc nL ret) {L ci k z index kd : Nat} {v : Value} {A' : lz_A} {B' : lz_B} {R' : lz_R} (F : lz_G y index ci k kd) (hT : T L = (1 + ci, z)) (hdg : decode cc pc = .ok (.putfield index, 3)) (hv : ∀ ad, lz_fv ad A' B' R' L k kd = lz_iv ad v) (hfit : narrow (lz_ty ci k) v = v ∧ fits (lz_ty ci k) v = true) (hiv : ∀ ad, narrow (lz_ty ci k) (lz_iv ad v) = lz_iv ad v ∧ fits (lz_ty ci k) (lz_iv ad v) = true)
    (ho : ∀ l, l ≠ L → A' l = A l ∧ B' l = B l ∧ R' l = R l) (hj : ∀ j, j ≠ k → ∀ ad kd, lz_fv ad A' B' R' L j kd = lz_fv ad A B R L j kd) (hcl : (∀ L k q, R L k = some q → (T q).1 ≠ 0) → lz_ok T v → ∀ L k q, R' L k = some q → (T q).1 ≠ 0)
    (kk : lz_Z p l e Rm s m args below meth c D dA b nL T0 ad0 Q kc ks T A' B' R' (pc + 3) lv rest) : lz_Z p l e Rm s m args below meth c D dA b nL T0 ad0 Q kc ks T A B R pc lv (v :: .ref L :: rest) := by
  intro H locs la cells slots ad h1 h2 h3 h4 h5 h6 h7 h8
  obtain ⟨Ls, hmem, hP, hD, hc, hz⟩ := id h3
  obtain ⟨k0, hk0⟩ := lz_pos hmem (lz_tag_o hT)
  obtain ⟨hci, q, hq, hnF, hk, hin, hlk, hkd, hty, hnm, hfin, -⟩ := F
  have he := lz_ws_at (dA := dA) (ad := ad) (T := T) (A := A) (B := B) (R := R) hk0
  rw [lz_cell_o hT (by omega)] at he
  have hnew : (lz_fs ad A B R L ci).set k (lz_iv ad v) = lz_fs ad A' B' R' L ci := lz_fs_set (by rw [hnF]; exact hk) (by rw [hkd]; exact hv ad) (fun j hjk kd => hj j hjk ad kd)
  have go : ∀ (H1 : Heap) (locs1 : List Loc), va_P D vwCl ((lz_ws dA ad T A B R Ls).set k0 (ad L, .inr (ci, (lz_fs ad A B R L ci).set k (lz_iv ad v)))) H1 → va_D (fun q => b ≤ q) ((lz_ws dA ad T A B R Ls).set k0 (ad L, .inr (ci, (lz_fs ad A B R L ci).set k (lz_iv ad v)))) → va_S (fun q => b ≤ q) s.heap H1 locs1 → W p l e Rm s m args below meth c H1 locs1 cells slots Q (F0 m (pc + 3) la (rest.map (lz_iv ad))) := by
    intro H1 locs1 hP1 hD1 hS1
    rw [hnew] at hP1 hD1
    exact kk H1 locs1 la cells slots ad h1 h2 (lz_H_set hmem hD hz hk0 (lz_tag_o hT) ho (hcl hc (lz_oks_cons.mp h8).1) (lz_cell_o hT (by omega)) hP1 hD1) h4 hS1 h6 h7 (lz_oks_cons.mp (lz_oks_cons.mp h8).2).2
  rcases hfin with hf | ⟨hf, hini, hdecl⟩
  · exact va_put (C := q.1) (T := q.2.1) (N := q.2.2) C.1 C.2.1 C.2.2.2.2.1 hin (lz_ty ci) hty hnm C.2.2.2.1 C.2.2.2.2.2.1.1 hP hD h5 k0 he hq k hk (C.2.2.2.2.1 _ hlk) (fun _ h => h) hf (hty k hk) (hiv ad).1 (hiv ad).2 (by rw [lz_fs_len, hnF]; exact hk) hdg go
  · exact va_putF (C := q.1) (T := q.2.1) (N := q.2.2) C.1 C.2.1 C.2.2.2.2.1 hin (lz_ty ci) hty hnm C.2.2.2.1 C.2.2.2.2.2.1.1 hP hD h5 k0 he hq k hk (C.2.2.2.2.1 _ hlk) (fun _ h => h) hf (C.2.2.2.2.2.2.2.2.2.trans hini) hdecl (hty k hk) (hiv ad).1 (hiv ad).2 (by rw [lz_fs_len, hnF]; exact hk) hdg go
theorem z_puti (C : lz_C p s m args meth c D dA b y cc nL ret) {L ci k z index : Nat} {x : Int32} (F : lz_G y index ci k 0) (hT : T L = (1 + ci, z)) (hdg : decode cc pc = .ok (.putfield index, 3))
    (kk : lz_Z p l e Rm s m args below meth c D dA b nL T0 ad0 Q kc ks T (lz_up A L k x) B R (pc + 3) lv rest) : lz_Z p l e Rm s m args below meth c D dA b nL T0 ad0 Q kc ks T A B R pc lv (.int x :: .ref L :: rest) := by
  obtain ⟨-, -, -, -, -, -, -, -, -, -, -, hf, -⟩ := id F
  exact z_putv C F hT hdg (fun _ => congrArg Value.int (lz_up_eq A L k x)) (hf x rfl) (fun _ => hf x rfl) (fun l hl => ⟨lz_up_row A x hl, rfl, rfl⟩) (fun j hj ad kd => by unfold lz_fv; rw [lz_up_ne A x (fun q => hj q.2)]) (fun h _ => h) kk
theorem z_putd (C : lz_C p s m args meth c D dA b y cc nL ret) {L ci k z index : Nat} {x : UInt64} (F : lz_G y index ci k 1) (hT : T L = (1 + ci, z)) (hdg : decode cc pc = .ok (.putfield index, 3))
    (kk : lz_Z p l e Rm s m args below meth c D dA b nL T0 ad0 Q kc ks T A (lz_up B L k x) R (pc + 3) lv rest) : lz_Z p l e Rm s m args below meth c D dA b nL T0 ad0 Q kc ks T A B R pc lv (.double x :: .ref L :: rest) := by
  obtain ⟨-, -, -, -, -, -, -, -, -, -, -, -, hf, -⟩ := id F
  exact z_putv C F hT hdg (fun _ => congrArg Value.double (lz_up_eq B L k x)) (hf x rfl) (fun _ => hf x rfl) (fun l hl => ⟨rfl, lz_up_row B x hl, rfl⟩) (fun j hj ad kd => by unfold lz_fv; rw [lz_up_ne B x (fun q => hj q.2)]) (fun h _ => h) kk
theorem z_putq (C : lz_C p s m args meth c D dA b y cc nL ret) {L ci k z index : Nat} {x : Option Nat} (F : lz_G y index ci k 2) (hT : T L = (1 + ci, z)) (hdg : decode cc pc = .ok (.putfield index, 3))
    (kk : lz_Z p l e Rm s m args below meth c D dA b nL T0 ad0 Q kc ks T A B (lz_up R L k x) (pc + 3) lv rest) : lz_Z p l e Rm s m args below meth c D dA b nL T0 ad0 Q kc ks T A B R pc lv (va_rf x :: .ref L :: rest) := by
  obtain ⟨-, -, -, -, -, -, -, -, -, -, -, -, -, hf⟩ := id F
  refine z_putv (R' := lz_up R L k x) C F hT hdg (fun ad => ?_) (hf x rfl) (fun ad => by rw [lz_iv_rf]; exact hf _ rfl) (fun l hl => ⟨rfl, rfl, lz_up_row R x hl⟩) (fun j hj ad kd => by unfold lz_fv; rw [lz_up_ne R x (fun q => hj q.2)]) (fun h hv L' k' q hq => ?_) kk
  · show va_rf ((lz_up R L k x L k).map ad) = _
    rw [lz_up_eq, lz_iv_rf]
  · by_cases hc : L' = L ∧ k' = k
    · obtain ⟨rfl, rfl⟩ := hc
      rw [lz_up_eq] at hq
      subst hq
      exact hv q rfl
    · rw [lz_up_ne R x hc] at hq
      exact h L' k' q hq
theorem z_putr (C : lz_C p s m args meth c D dA b y cc nL ret) {L ci k z index x : Nat} (F : lz_G y index ci k 2) (hT : T L = (1 + ci, z)) (hdg : decode cc pc = .ok (.putfield index, 3))
    (kk : lz_Z p l e Rm s m args below meth c D dA b nL T0 ad0 Q kc ks T A B (lz_up R L k (some x)) (pc + 3) lv rest) : lz_Z p l e Rm s m args below meth c D dA b nL T0 ad0 Q kc ks T A B R pc lv (.ref x :: .ref L :: rest) := z_putq (x := some x) C F hT hdg kk
theorem z_putn (C : lz_C p s m args meth c D dA b y cc nL ret) {L ci k z index : Nat} (F : lz_G y index ci k 2) (hT : T L = (1 + ci, z)) (hdg : decode cc pc = .ok (.putfield index, 3))
    (kk : lz_Z p l e Rm s m args below meth c D dA b nL T0 ad0 Q kc ks T A B (lz_up R L k none) (pc + 3) lv rest) : lz_Z p l e Rm s m args below meth c D dA b nL T0 ad0 Q kc ks T A B R pc lv (.null :: .ref L :: rest) := z_putq (x := none) C F hT hdg kk
/-- arrays: a read -/
theorem z_iald (C : lz_C p s m args meth c D dA b y cc nL ret) {L n i : Nat} {x v : Int32} (hT : T L = (32 + 0, n)) (hx : x = nI i) (hi : i < n) (hn : n < 2 ^ 31) (hv : A L i = v) (hdg : decode cc pc = .ok (.iaload, 1))
    (kk : lz_Z p l e Rm s m args below meth c D dA b nL T0 ad0 Q kc ks T A B R (pc + 1) lv (.int v :: rest)) : lz_Z p l e Rm s m args below meth c D dA b nL T0 ad0 Q kc ks T A B R pc lv (.int x :: .ref L :: rest) := by
  intro H locs la cells slots ad h1 h2 h3 h4 h5 h6 h7 h8
  obtain ⟨Ls, hmem, hP, hD, hcl, hz⟩ := id h3
  obtain ⟨k0, hk0⟩ := lz_pos hmem (lz_tag_a hT)
  have he := lz_ws_at (dA := dA) (ad := ad) (T := T) (A := A) (B := B) (R := R) hk0
  rw [lz_cell_a hT] at he
  refine va_iald C.1 C.2.1 C.2.2.2.2.2.1.1 hP k0 0 he rfl (lz_in hx hi hn) hdg ?_
  rw [hx, nI_clamp (Nat.lt_trans hi hn), hv]
  exact kk H locs la cells slots ad h1 h2 h3 h4 h5 h6 h7 (lz_oks_cons.mpr ⟨lz_ok_int _ _, (lz_oks_cons.mp (lz_oks_cons.mp h8).2).2⟩)
theorem z_zald (C : lz_C p s m args meth c D dA b y cc nL ret) {L n i : Nat} {x v : Int32} (hT : T L = (32 + 2, n)) (hx : x = nI i) (hi : i < n) (hn : n < 2 ^ 31) (hv : A L i = v) (hdg : decode cc pc = .ok (.baload, 1))
    (kk : lz_Z p l e Rm s m args below meth c D dA b nL T0 ad0 Q kc ks T A B R (pc + 1) lv (.int v :: rest)) : lz_Z p l e Rm s m args below meth c D dA b nL T0 ad0 Q kc ks T A B R pc lv (.int x :: .ref L :: rest) := by
  intro H locs la cells slots ad h1 h2 h3 h4 h5 h6 h7 h8
  obtain ⟨Ls, hmem, hP, hD, hcl, hz⟩ := id h3
  obtain ⟨k0, hk0⟩ := lz_pos hmem (lz_tag_a hT)
  have he := lz_ws_at (dA := dA) (ad := ad) (T := T) (A := A) (B := B) (R := R) hk0
  rw [lz_cell_a hT] at he
  refine va_zald C.1 C.2.1 C.2.2.2.2.2.1.1 hP k0 2 he rfl (lz_in hx hi hn) hdg ?_
  rw [hx, nI_clamp (Nat.lt_trans hi hn), hv]
  exact kk H locs la cells slots ad h1 h2 h3 h4 h5 h6 h7 (lz_oks_cons.mpr ⟨lz_ok_int _ _, (lz_oks_cons.mp (lz_oks_cons.mp h8).2).2⟩)
theorem z_dald (C : lz_C p s m args meth c D dA b y cc nL ret) {L n i : Nat} {x : Int32} {v : UInt64} (hT : T L = (32 + 1, n)) (hx : x = nI i) (hi : i < n) (hn : n < 2 ^ 31) (hv : B L i = v) (hdg : decode cc pc = .ok (.daload, 1))
    (kk : lz_Z p l e Rm s m args below meth c D dA b nL T0 ad0 Q kc ks T A B R (pc + 1) lv (.double v :: rest)) : lz_Z p l e Rm s m args below meth c D dA b nL T0 ad0 Q kc ks T A B R pc lv (.int x :: .ref L :: rest) := by
  intro H locs la cells slots ad h1 h2 h3 h4 h5 h6 h7 h8
  obtain ⟨Ls, hmem, hP, hD, hcl, hz⟩ := id h3
  obtain ⟨k0, hk0⟩ := lz_pos hmem (lz_tag_a hT)
  have he := lz_ws_at (dA := dA) (ad := ad) (T := T) (A := A) (B := B) (R := R) hk0
  rw [lz_cell_a hT] at he
  refine va_dald C.1 C.2.1 C.2.2.2.2.2.1.1 hP k0 1 he rfl (lz_in hx hi hn) hdg ?_
  rw [hx, nI_clamp (Nat.lt_trans hi hn), hv]
  exact kk H locs la cells slots ad h1 h2 h3 h4 h5 h6 h7 (lz_oks_cons.mpr ⟨lz_ok_dbl _ _, (lz_oks_cons.mp (lz_oks_cons.mp h8).2).2⟩)
theorem lz_ar_q (ad : Nat → Nat) (A : lz_A) (B : lz_B) (R : lz_R) (L n : Nat) {t : Nat} (ht : 3 ≤ t) : lz_ar ad A B R L t n = (n, .inr (.inr (.inr (.inr (fun k => (R L k).map ad))))) := by
  unfold lz_ar
  match t, ht with
  | t + 3, _ => rfl
theorem z_aldv (C : lz_C p s m args meth c D dA b y cc nL ret) {L n i t : Nat} {x : Int32} (ht : 3 ≤ t) (ht2 : t < 7) (hT : T L = (32 + t, n)) (hx : x = nI i) (hi : i < n) (hn : n < 2 ^ 31) (hdg : decode cc pc = .ok (.aaload, 1))
    (kk : lz_Z p l e Rm s m args below meth c D dA b nL T0 ad0 Q kc ks T A B R (pc + 1) lv (va_rf (R L i) :: rest)) : lz_Z p l e Rm s m args below meth c D dA b nL T0 ad0 Q kc ks T A B R pc lv (.int x :: .ref L :: rest) := by
  intro H locs la cells slots ad h1 h2 h3 h4 h5 h6 h7 h8
  obtain ⟨Ls, hmem, hP, hD, hcl, hz⟩ := id h3
  obtain ⟨k0, hk0⟩ := lz_pos hmem (lz_tag_a hT)
  have he := lz_ws_at (dA := dA) (ad := ad) (T := T) (A := A) (B := B) (R := R) hk0
  rw [lz_cell_a hT, lz_ar_q _ _ _ _ _ _ ht] at he
  have hin := lz_in hx hi hn
  have go := kk H locs la cells slots ad h1 h2 h3 h4 h5 h6 h7 (lz_oks_cons.mpr ⟨lz_ok_rf (fun q hq => hcl L i q hq), (lz_oks_cons.mp (lz_oks_cons.mp h8).2).2⟩)
  rw [List.map_cons, lz_iv_rf] at go
  have hxi : x.toNatClampNeg = i := by rw [hx]; exact nI_clamp (Nat.lt_trans hi hn)
  have hA : ∃ ty : FieldType, ArrOfT s (dA t) ty ∧ ((∃ cn, ty = .object cn) ∨ ∃ t1, ty = .array t1) := by
    have hK := C.2.2.2.2.2.1.1.2
    rcases (show t = 3 ∨ t = 4 ∨ t = 5 ∨ t = 6 by omega) with rfl | rfl | rfl | rfl
    · exact ⟨_, (hK 3 (dA 3, .object "CordBay$Row") rfl).1, Or.inl ⟨_, rfl⟩⟩
    · exact ⟨_, (hK 4 (dA 4, .object "CordBay$State") rfl).1, Or.inl ⟨_, rfl⟩⟩
    · exact ⟨_, (hK 5 (dA 5, .object "CordBay$Unit") rfl).1, Or.inl ⟨_, rfl⟩⟩
    · exact ⟨_, (hK 6 (dA 6, .array .int) rfl).1, Or.inr ⟨_, rfl⟩⟩
  obtain ⟨ty, hty, hk⟩ := hA
  refine W.aald (v := va_rf ((R L i).map ad)) (ty := ty) C.1 C.2.1 (hP k0 _ he) (hty n (fun j => va_rf ((R L j).map ad))) (by rcases hk with ⟨_, rfl⟩ | ⟨_, rfl⟩ <;> rfl) (fun q => by cases q) (by show ¬ (x < 0 ∨ (arrV _ _ _).slots.size ≤ _); rw [arrV_size]; exact hin) (by show (arrV _ _ _).slots[_]? = _; rw [hxi, arrV_read _ _ hi]) rfl rfl hdg go
theorem z_aldr (C : lz_C p s m args meth c D dA b y cc nL ret) {L n i t q : Nat} {x : Int32} (ht : 3 ≤ t) (ht2 : t < 7) (hT : T L = (32 + t, n)) (hx : x = nI i) (hi : i < n) (hn : n < 2 ^ 31) (hv : R L i = some q) (hdg : decode cc pc = .ok (.aaload, 1))
    (kk : lz_Z p l e Rm s m args below meth c D dA b nL T0 ad0 Q kc ks T A B R (pc + 1) lv (.ref q :: rest)) : lz_Z p l e Rm s m args below meth c D dA b nL T0 ad0 Q kc ks T A B R pc lv (.int x :: .ref L :: rest) := z_aldv C ht ht2 hT hx hi hn hdg (by rw [hv]; exact kk)
theorem z_aldn (C : lz_C p s m args meth c D dA b y cc nL ret) {L n i t : Nat} {x : Int32} (ht : 3 ≤ t) (ht2 : t < 7) (hT : T L = (32 + t, n)) (hx : x = nI i) (hi : i < n) (hn : n < 2 ^ 31) (hv : R L i = none) (hdg : decode cc pc = .ok (.aaload, 1))
    (kk : lz_Z p l e Rm s m args below meth c D dA b nL T0 ad0 Q kc ks T A B R (pc + 1) lv (.null :: rest)) : lz_Z p l e Rm s m args below meth c D dA b nL T0 ad0 Q kc ks T A B R pc lv (.int x :: .ref L :: rest) := z_aldv C ht ht2 hT hx hi hn hdg (by rw [hv]; exact kk)
theorem lz_upd_at (A : lz_A) (L i : Nat) (x : Int32) : upd (A L) i x = lz_up A L i x L := by
  funext j
  simp [upd, lz_up]
theorem z_iast (C : lz_C p s m args meth c D dA b y cc nL ret) {L n i : Nat} {x v : Int32} (hT : T L = (32 + 0, n)) (hx : x = nI i) (hi : i < n) (hn : n < 2 ^ 31) (hdg : decode cc pc = .ok (.iastore, 1))
    (kk : lz_Z p l e Rm s m args below meth c D dA b nL T0 ad0 Q kc ks T (lz_up A L i v) B R (pc + 1) lv rest) : lz_Z p l e Rm s m args below meth c D dA b nL T0 ad0 Q kc ks T A B R pc lv (.int v :: .int x :: .ref L :: rest) := by
  intro H locs la cells slots ad h1 h2 h3 h4 h5 h6 h7 h8
  obtain ⟨Ls, hmem, hP, hD, hcl, hz⟩ := id h3
  obtain ⟨k0, hk0⟩ := lz_pos hmem (lz_tag_a hT)
  have he := lz_ws_at (dA := dA) (ad := ad) (T := T) (A := A) (B := B) (R := R) hk0
  rw [lz_cell_a hT] at he
  refine va_iast C.1 C.2.1 C.2.2.2.2.2.1.1 hP hD h5 k0 0 he rfl (lz_in hx hi hn) hdg ?_
  rw [hx, nI_clamp (Nat.lt_trans hi hn), lz_upd_at]
  intro H1 locs1 hP1 hD1 hS1
  exact kk H1 locs1 la cells slots ad h1 h2 (lz_H_set hmem hD hz hk0 (lz_tag_a hT) (fun l hl => ⟨lz_up_row A v hl, rfl, rfl⟩) hcl (lz_cell_a hT) hP1 hD1) h4 hS1 h6 h7 (lz_oks_cons.mp (lz_oks_cons.mp (lz_oks_cons.mp h8).2).2).2
theorem z_zast (C : lz_C p s m args meth c D dA b y cc nL ret) {L n i : Nat} {x v : Int32} (hT : T L = (32 + 2, n)) (hx : x = nI i) (hi : i < n) (hn : n < 2 ^ 31) (hb : vp_nar .boolean v = v) (hdg : decode cc pc = .ok (.bastore, 1))
    (kk : lz_Z p l e Rm s m args below meth c D dA b nL T0 ad0 Q kc ks T (lz_up A L i v) B R (pc + 1) lv rest) : lz_Z p l e Rm s m args below meth c D dA b nL T0 ad0 Q kc ks T A B R pc lv (.int v :: .int x :: .ref L :: rest) := by
  intro H locs la cells slots ad h1 h2 h3 h4 h5 h6 h7 h8
  obtain ⟨Ls, hmem, hP, hD, hcl, hz⟩ := id h3
  obtain ⟨k0, hk0⟩ := lz_pos hmem (lz_tag_a hT)
  have he := lz_ws_at (dA := dA) (ad := ad) (T := T) (A := A) (B := B) (R := R) hk0
  rw [lz_cell_a hT] at he
  refine va_zast C.1 C.2.1 C.2.2.2.2.2.1.1 hP hD h5 k0 2 he rfl (lz_in hx hi hn) hdg ?_
  rw [hx, nI_clamp (Nat.lt_trans hi hn), hb, lz_upd_at]
  intro H1 locs1 hP1 hD1 hS1
  exact kk H1 locs1 la cells slots ad h1 h2 (lz_H_set hmem hD hz hk0 (lz_tag_a hT) (fun l hl => ⟨lz_up_row A v hl, rfl, rfl⟩) hcl (lz_cell_a hT) hP1 hD1) h4 hS1 h6 h7 (lz_oks_cons.mp (lz_oks_cons.mp (lz_oks_cons.mp h8).2).2).2
theorem lz_vf_at (B : lz_B) (L i : Nat) (x : UInt64) : vf_upd (B L) i x = lz_up B L i x L := by
  funext j
  simp [vf_upd, lz_up]
theorem z_dast (C : lz_C p s m args meth c D dA b y cc nL ret) {L n i : Nat} {x : Int32} {v : UInt64} (hT : T L = (32 + 1, n)) (hx : x = nI i) (hi : i < n) (hn : n < 2 ^ 31) (hdg : decode cc pc = .ok (.dastore, 1))
    (kk : lz_Z p l e Rm s m args below meth c D dA b nL T0 ad0 Q kc ks T A (lz_up B L i v) R (pc + 1) lv rest) : lz_Z p l e Rm s m args below meth c D dA b nL T0 ad0 Q kc ks T A B R pc lv (.double v :: .int x :: .ref L :: rest) := by
  intro H locs la cells slots ad h1 h2 h3 h4 h5 h6 h7 h8
  obtain ⟨Ls, hmem, hP, hD, hcl, hz⟩ := id h3
  obtain ⟨k0, hk0⟩ := lz_pos hmem (lz_tag_a hT)
  have he := lz_ws_at (dA := dA) (ad := ad) (T := T) (A := A) (B := B) (R := R) hk0
  rw [lz_cell_a hT] at he
  refine va_dast C.1 C.2.1 C.2.2.2.2.2.1.1 hP hD h5 k0 1 he rfl (lz_in hx hi hn) hdg ?_
  rw [hx, nI_clamp (Nat.lt_trans hi hn), lz_vf_at]
  intro H1 locs1 hP1 hD1 hS1
  exact kk H1 locs1 la cells slots ad h1 h2 (lz_H_set hmem hD hz hk0 (lz_tag_a hT) (fun l hl => ⟨rfl, lz_up_row B v hl, rfl⟩) hcl (lz_cell_a hT) hP1 hD1) h4 hS1 h6 h7 (lz_oks_cons.mp (lz_oks_cons.mp (lz_oks_cons.mp h8).2).2).2
theorem lz_up_map (ad : Nat → Nat) (R : lz_R) (L i : Nat) (x : Option Nat) : va_up (fun k => (R L k).map ad) i (x.map ad) = fun k => (lz_up R L i x L k).map ad := by
  funext j
  by_cases h : j = i
  · subst h; simp [va_up, lz_up]
  · simp [va_up, lz_up, h]
/-- the class of which an array of kind t holds objects: Row 4, State 5, Unit 8 -/
theorem z_aast (C : lz_C p s m args meth c D dA b y cc nL ret) {L n i t ci q z : Nat} {x : Int32} {r : vw_C} (hr : vwCl[ci]? = some r) (hc : ci < 11) (ht : 3 ≤ t) (hty : ∀ dA : Nat → ClassId, (lz_tys dA)[t]? = some (dA t, .object r.1)) (hT : T L = (32 + t, n)) (hTq : T q = (1 + ci, z)) (hx : x = nI i) (hi : i < n) (hn : n < 2 ^ 31) (hdg : decode cc pc = .ok (.aastore, 1))
    (kk : lz_Z p l e Rm s m args below meth c D dA b nL T0 ad0 Q kc ks T A B (lz_up R L i (some q)) (pc + 1) lv rest) : lz_Z p l e Rm s m args below meth c D dA b nL T0 ad0 Q kc ks T A B R pc lv (.ref q :: .int x :: .ref L :: rest) := by
  intro H locs la cells slots ad h1 h2 h3 h4 h5 h6 h7 h8
  obtain ⟨Ls, hmem, hP, hD, hcl, hz⟩ := id h3
  obtain ⟨k0, hk0⟩ := lz_pos hmem (lz_tag_a hT)
  obtain ⟨k1, hk1⟩ := lz_pos hmem (lz_tag_o hTq)
  have he := lz_ws_at (dA := dA) (ad := ad) (T := T) (A := A) (B := B) (R := R) hk0
  rw [lz_cell_a hT, lz_ar_q _ _ _ _ _ _ ht] at he
  have he1 := lz_ws_at (dA := dA) (ad := ad) (T := T) (A := A) (B := B) (R := R) hk1
  rw [lz_cell_o hTq (by omega)] at he1
  refine va_astq C.1 C.2.1 C.2.2.2.2.2.1.1 hP hD h5 k0 t k1 ci he (hty dA) he1 hr (lz_in hx hi hn) hdg ?_
  rw [hx, nI_clamp (Nat.lt_trans hi hn)]
  have hm := lz_up_map ad R L i (some q)
  rw [Option.map_some] at hm
  rw [hm]
  intro H1 locs1 hP1 hD1 hS1
  refine kk H1 locs1 la cells slots ad h1 h2 (lz_H_set (R' := lz_up R L i (some q)) hmem hD hz hk0 (lz_tag_a hT) (fun l hl => ⟨rfl, rfl, lz_up_row R _ hl⟩) (fun L' k' q' hq' => ?_) ((lz_cell_a hT).trans (by rw [lz_ar_q _ _ _ _ _ _ ht])) hP1 hD1) h4 hS1 h6 h7 (lz_oks_cons.mp (lz_oks_cons.mp (lz_oks_cons.mp h8).2).2).2
  by_cases hc : L' = L ∧ k' = i
  · obtain ⟨rfl, rfl⟩ := hc
    rw [lz_up_eq] at hq'
    cases hq'
    exact lz_tag_o hTq
  · rw [lz_up_ne R _ hc] at hq'
    exact hcl L' k' q' hq'
theorem z_aastN (C : lz_C p s m args meth c D dA b y cc nL ret) {L n i t : Nat} {x : Int32} {cn : String} (ht : 3 ≤ t) (hty : ∀ dA : Nat → ClassId, (lz_tys dA)[t]? = some (dA t, .object cn)) (hT : T L = (32 + t, n)) (hx : x = nI i) (hi : i < n) (hn : n < 2 ^ 31) (hdg : decode cc pc = .ok (.aastore, 1))
    (kk : lz_Z p l e Rm s m args below meth c D dA b nL T0 ad0 Q kc ks T A B (lz_up R L i none) (pc + 1) lv rest) : lz_Z p l e Rm s m args below meth c D dA b nL T0 ad0 Q kc ks T A B R pc lv (.null :: .int x :: .ref L :: rest) := by
  intro H locs la cells slots ad h1 h2 h3 h4 h5 h6 h7 h8
  obtain ⟨Ls, hmem, hP, hD, hcl, hz⟩ := id h3
  obtain ⟨k0, hk0⟩ := lz_pos hmem (lz_tag_a hT)
  have he := lz_ws_at (dA := dA) (ad := ad) (T := T) (A := A) (B := B) (R := R) hk0
  rw [lz_cell_a hT, lz_ar_q _ _ _ _ _ _ ht] at he
  refine va_astqN C.1 C.2.1 C.2.2.2.2.2.1.1 hP hD h5 k0 t he (hty dA) (lz_in hx hi hn) hdg ?_
  rw [hx, nI_clamp (Nat.lt_trans hi hn)]
  have hm := lz_up_map ad R L i none
  rw [Option.map_none] at hm
  rw [hm]
  intro H1 locs1 hP1 hD1 hS1
  refine kk H1 locs1 la cells slots ad h1 h2 (lz_H_set (R' := lz_up R L i none) hmem hD hz hk0 (lz_tag_a hT) (fun l hl => ⟨rfl, rfl, lz_up_row R _ hl⟩) (fun L' k' q' hq' => ?_) ((lz_cell_a hT).trans (by rw [lz_ar_q _ _ _ _ _ _ ht])) hP1 hD1) h4 hS1 h6 h7 (lz_oks_cons.mp (lz_oks_cons.mp (lz_oks_cons.mp h8).2).2).2
  by_cases hc : L' = L ∧ k' = i
  · obtain ⟨rfl, rfl⟩ := hc
    rw [lz_up_eq] at hq'
    cases hq'
  · rw [lz_up_ne R _ hc] at hq'
    exact hcl L' k' q' hq'
theorem z_alen (C : lz_C p s m args meth c D dA b y cc nL ret) {L n t : Nat} (ht : t < 7) (hT : T L = (32 + t, n)) (hdg : decode cc pc = .ok (.arraylength, 1))
    (kk : lz_Z p l e Rm s m args below meth c D dA b nL T0 ad0 Q kc ks T A B R (pc + 1) lv (.int (nI n) :: rest)) : lz_Z p l e Rm s m args below meth c D dA b nL T0 ad0 Q kc ks T A B R pc lv (.ref L :: rest) := by
  intro H locs la cells slots ad h1 h2 h3 h4 h5 h6 h7 h8
  obtain ⟨Ls, hmem, hP, hD, hcl, hz⟩ := id h3
  obtain ⟨k0, hk0⟩ := lz_pos hmem (lz_tag_a hT)
  have he := lz_ws_at (dA := dA) (ad := ad) (T := T) (A := A) (B := B) (R := R) hk0
  rw [lz_cell_a hT] at he
  have hl : Int32.ofNat (lz_ar ad A B R L t n).1 = nI n := by
    unfold lz_ar
    split <;> rfl
  have hty : ∃ ty, (lz_tys dA)[t]? = some (dA t, ty) := by
    rcases (show t = 0 ∨ t = 1 ∨ t = 2 ∨ t = 3 ∨ t = 4 ∨ t = 5 ∨ t = 6 by omega) with rfl | rfl | rfl | rfl | rfl | rfl | rfl <;> exact ⟨_, rfl⟩
  obtain ⟨ty, hty⟩ := hty
  exact va_alen C.1 C.2.1 C.2.2.2.2.2.1.1 hP k0 t he hty hl hdg (kk H locs la cells slots ad h1 h2 h3 h4 h5 h6 h7 (lz_oks_cons.mpr ⟨lz_ok_int _ _, (lz_oks_cons.mp h8).2⟩))
end ZH
