/-! 09.call: calls, Object's constructor, arraycopy, over lz_Z -/
def lz_CB (own : String) (idx : Nat) (y1 : MethodName) (cc1 : ByteArray) (n1 : Nat) (ret1 : Option FieldType) (na : Nat) : Prop :=
  Cond.methodLink own idx y1 ∈ lw_tb2 ∧ Cond.initialized y1.cls ∈ lw_tb2 ∧ Cond.code y1 cc1 n1 ret1 ∈ lw_tb2 ∧ y1.cls ≠ "java/lang/invoke/MethodHandle" ∧ y1.cls ≠ "java/lang/invoke/VarHandle" ∧ (parseMethodDescriptor y1.desc).map (fun d => d.parameters.length) = some na
def lz_CN (own : String) (idx : Nat) (y1 : MethodName) (host : String) (cc1 : ByteArray) (n1 : Nat) (ret1 : Option FieldType) (na : Nat) : Prop :=
  (own, idx, y1, host) ∈ lz_nests ∧ Cond.initialized y1.cls ∈ lw_tb2 ∧ Cond.code y1 cc1 n1 ret1 ∈ lw_tb2 ∧ y1.cls ≠ "java/lang/invoke/MethodHandle" ∧ y1.cls ≠ "java/lang/invoke/VarHandle" ∧ (parseMethodDescriptor y1.desc).map (fun d => d.parameters.length) = some na
theorem lz_gdc {w : Cond} (h : w ∈ lw_tb2) : GoodIn lw_tb2 (w :: lw_tb2) := fun v hv => by
  rcases List.mem_cons.mp hv with e | e
  · rw [e]; exact lz_gd w h
  · exact lz_gd v e
theorem lz_blind (D : va_G) (dA : Nat → ClassId) (b : Nat) (T : lz_T) (ad : Nat → Nat) (A : lz_A) (B : lz_B) (R : lz_R) (av : List Value) : FrameBlind (lz_Pc D dA b T ad A B R av) := fun a U g mk q => by
  obtain ⟨q1, q2, q3, q4, q5⟩ := q
  exact ⟨q1, q2, q3, lz_K.same (u := U) (U := U.calling g mk a) rfl q4, q5⟩
section ZL
variable {p : Program} {l : Launch} {e : Env} {Rm : Room} {s : State} {m : MethodId} {args : Array Value} {below : List Frame} {meth : Method} {c : Code} {D : va_G} {dA : Nat → ClassId} {b nL : Nat} {T0 : lz_T} {ad0 : Nat → Nat} {Q : State → Prop} {kc ks : Nat} {T : lz_T} {A : lz_A} {B : lz_B} {R : lz_R} {y : MethodName} {cc : ByteArray} {ret : Option FieldType} {pc : Nat} {lv : List (Nat × Value)} {rest : List Value}
theorem lz_asm {st : List Value} (h : lz_oks T st → lz_Z p l e Rm s m args below meth c D dA b nL T0 ad0 Q kc ks T A B R pc lv st) : lz_Z p l e Rm s m args below meth c D dA b nL T0 ad0 Q kc ks T A B R pc lv st :=
  fun H locs la cells slots ad h1 h2 h3 h4 h5 h6 h7 h8 => h h8 H locs la cells slots ad h1 h2 h3 h4 h5 h6 h7 h8
theorem lz_oks_app {T : lz_T} {a b : List Value} : lz_oks T (a ++ b) ↔ lz_oks T a ∧ lz_oks T b := by
  unfold lz_oks
  exact List.forall_mem_append
/-- behind a call -/
theorem lz_back {rm : Room} {Post : Option Value → lz_T → lz_A → lz_B → lz_R → Prop} {ad : Nat → Nat} {H : Heap} {locs : List Loc} {la : Array Slot} {cells slots : Nat} {st0 : List Value} {aa : Array Value}
    (hr : va_Run p l e Rm s m args below meth c H locs cells slots rm.cells rm.slots (F0 m pc la st0) (rest.map (lz_iv ad)) (lz_Qc D dA b T ad Post aa) (fun q => b ≤ q))
    (h1 : cells ≤ kc) (h2 : slots ≤ ks) (h4 : lz_E T0 ad0 T ad) (h5 : va_S (fun q => b ≤ q) s.heap H locs) (h6 : lv_has la nL (lz_lv ad lv)) (h7 : lz_okl T lv) (h8 : lz_oks T rest)
    (kk : ∀ (r : Option Value) (T1 : lz_T) (A1 : lz_A) (B1 : lz_B) (R1 : lz_R), Post r T1 A1 B1 R1 → lz_Z p l e Rm s m args below meth c D dA b nL T0 ad0 Q (kc + rm.cells) (ks + rm.slots) T1 A1 B1 R1 (pc + 3) lv (r.toList ++ rest)) :
    W p l e Rm s m args below meth c H locs cells slots Q (F0 m pc la st0) := by
  intro U hU X
  obtain ⟨v, st₀, t, T', L, h0, X', hL, e1, e2, ⟨⟨r, T1, A1, B1, R1, ad1, hv, hok, hE, hp, hH⟩, hz, hk⟩, st⟩ := hr U hU X
  have hv' : v = r.map (lz_iv ad1) := by cases hv; rfl
  subst hv'
  rw [h0] at hz hk
  have hoks : lz_oks T1 (r.toList ++ rest) := by
    refine lz_oks_app.mpr ⟨?_, lz_oks_E hE h8⟩
    cases r with
    | none => exact lz_oks_nil T1
    | some v => exact lz_oks_cons.mpr ⟨hok v rfl, lz_oks_nil T1⟩
  have go := kk r T1 A1 B1 R1 hp T'.heap (locs ++ L) la (cells + rm.cells) (slots + rm.slots) ad1 (by omega) (by omega) (by rw [e1]; exact hH) (h4.trans hE)
    ⟨Nat.le_trans h5.1 (by rw [e1]; exact hz), fun q g1 g2 => by rw [e1, hk q (Nat.lt_of_lt_of_le g1 h5.1) g2]; exact h5.2.1 q g1 g2, fun q hq => by
      rcases List.mem_append.mp hq with h | h
      · exact h5.2.2 q h
      · exact hL q h⟩ (by rw [lz_lv_E hE h7]; exact h6) (lz_okl_E hE h7) hoks
  have hst : (r.toList ++ rest).map (lz_iv ad1) = (r.map (lz_iv ad1)).toList ++ rest.map (lz_iv ad) := by
    rw [List.map_append, lz_st_E hE h8]
    cases r <;> rfl
  rw [hst] at go
  obtain ⟨t2, a1, b1⟩ := go T' rfl X'
  exact ⟨t2, st t2 a1, b1⟩
theorem lz_catsum (ad : Nat → Nat) : ∀ vs : List Value, ((vs.map (lz_iv ad)).map fun v => v.category).sum = (vs.map fun v => v.category).sum
  | [] => rfl
  | v :: vs => by
    rw [List.map_cons, List.map_cons, List.map_cons, List.sum_cons, List.sum_cons, lz_catsum ad vs, lz_iv_cat]
theorem lz_at_o {ad : Nat → Nat} {H : Heap} (h3 : lz_H D dA b ad T A B R H) {L ci z : Nat} (hT : T L = (1 + ci, z)) (hci : ci < 11) : ∃ (ws : va_W) (k : Nat) (fs : List Value), va_P D vwCl ws H ∧ ws[k]? = some (ad L, .inr (ci, fs)) := by
  obtain ⟨Ls, hmem, hP, hD, hcl, hz⟩ := h3
  obtain ⟨k0, hk0⟩ := lz_pos hmem (lz_tag_o hT)
  have he := lz_ws_at (dA := dA) (ad := ad) (T := T) (A := A) (B := B) (R := R) hk0
  rw [lz_cell_o hT (by omega)] at he
  exact ⟨_, k0, _, hP, he⟩
theorem z_callV (C : lz_C p s m args meth c D dA b y cc nL ret) {y1 : MethodName} {cc1 : ByteArray} {n1 na : Nat} {ret1 : Option FieldType} {rm : Room} {ci L z idx : Nat} {As : List Value} {q1 : vw_C} {Post : Option Value → lz_T → lz_A → lz_B → lz_R → Prop} (hq1 : vwCl[ci]? = some q1) (hci : ci < 11) (hM : lz_M y1 cc1 n1 ret1 rm (.ref L :: As) T A B R Post)
    (G : lz_CB y.cls idx y1 cc1 n1 ret1 na) (G1 : Cond.instanceMethod y1 ∈ lw_tb2) (G2 : Cond.selects q1.1 y1 y1 ∈ lw_tb2) (hT : T L = (1 + ci, z)) (hna : As.length = na) (hR : rm.frames + 1 ≤ Rm.frames ∧ 8 + (n1 + 11) + rm.locals ≤ Rm.locals) (hW : (rest.map fun v => v.category).sum ≤ 8) (hc : kc + rm.cells ≤ Rm.cells) (hs : ks + rm.slots ≤ Rm.slots) (hdg : decode cc pc = .ok (.invokevirtual idx, 3))
    (kk : ∀ (r : Option Value) (T1 : lz_T) (A1 : lz_A) (B1 : lz_B) (R1 : lz_R), Post r T1 A1 B1 R1 → lz_Z p l e Rm s m args below meth c D dA b nL T0 ad0 Q (kc + rm.cells) (ks + rm.slots) T1 A1 B1 R1 (pc + 3) lv (r.toList ++ rest)) :
    lz_Z p l e Rm s m args below meth c D dA b nL T0 ad0 Q kc ks T A B R pc lv (As.reverse ++ .ref L :: rest) := by
  intro H locs la cells slots ad h1 h2 h3 h4 h5 h6 h7 h8
  obtain ⟨ws, k0, fs, hP, he⟩ := lz_at_o h3 hT hci
  have h9 := lz_oks_app.mp h8
  have h10 := lz_oks_cons.mp h9.2
  have hokA : lz_oks T (.ref L :: As) := lz_oks_cons.mpr ⟨h10.1, fun v hv => h9.1 v (List.mem_reverse.mpr hv)⟩
  refine lz_back (rm := rm) (va_runV (As := As.map (lz_iv ad)) (rest := rest.map (lz_iv ad)) (b := ad L) (C := q1.1) ⟨C.1, C.2.1, C.2.2.1, C.2.2.2.1, C.2.2.2.2.1⟩ (hM l D dA b ad)
    ⟨callB_of na C.2.2.2.2.1 (lz_gdc G.2.2.1) rfl rfl rfl (C.2.2.2.2.1 _ G.2.1) (C.2.2.2.2.1 _ G.1) G.2.2.2 hR, C.2.2.2.2.1 _ G1, C.2.2.2.2.1 _ G2⟩
    ⟨lz_blind _ _ _ _ _ _ _ _ _, va_recv C.2.2.2.2.2.1.1 hP hq1 he, fun U hU hw => ⟨rfl, hokA, by rw [hU]; exact h3, lz_K.warm hw C.2.2.2.2.2.1, by rw [hU]; exact Nat.le_trans C.2.2.2.2.2.2.2.2.1 h5.1⟩⟩ rfl (by rw [List.length_map]; exact hna) h6.1 (by show List.map (lz_iv ad) _ = _; rw [List.map_append, List.map_reverse]; rfl) (lv_room (by rw [lz_catsum]; exact hW)) hdg ⟨by omega, by omega⟩) h1 h2 h4 h5 h6 h7 h10.2 kk
theorem z_callS (C : lz_C p s m args meth c D dA b y cc nL ret) {y1 : MethodName} {cc1 : ByteArray} {n1 na : Nat} {ret1 : Option FieldType} {rm : Room} {idx : Nat} {As : List Value} {Post : Option Value → lz_T → lz_A → lz_B → lz_R → Prop} (hM : lz_M y1 cc1 n1 ret1 rm As T A B R Post)
    (G : lz_CB y.cls idx y1 cc1 n1 ret1 na) (G1 : Cond.static y1 ∈ lw_tb2) (hna : As.length = na) (hR : rm.frames + 1 ≤ Rm.frames ∧ 8 + (n1 + 11) + rm.locals ≤ Rm.locals) (hW : (rest.map fun v => v.category).sum ≤ 8) (hc : kc + rm.cells ≤ Rm.cells) (hs : ks + rm.slots ≤ Rm.slots) (hdg : decode cc pc = .ok (.invokestatic idx, 3))
    (kk : ∀ (r : Option Value) (T1 : lz_T) (A1 : lz_A) (B1 : lz_B) (R1 : lz_R), Post r T1 A1 B1 R1 → lz_Z p l e Rm s m args below meth c D dA b nL T0 ad0 Q (kc + rm.cells) (ks + rm.slots) T1 A1 B1 R1 (pc + 3) lv (r.toList ++ rest)) :
    lz_Z p l e Rm s m args below meth c D dA b nL T0 ad0 Q kc ks T A B R pc lv (As.reverse ++ rest) := by
  intro H locs la cells slots ad h1 h2 h3 h4 h5 h6 h7 h8
  have h9 := lz_oks_app.mp h8
  have hokA : lz_oks T As := fun v hv => h9.1 v (List.mem_reverse.mpr hv)
  refine lz_back (rm := rm) (va_runS (As := As.map (lz_iv ad)) (rest := rest.map (lz_iv ad)) ⟨C.1, C.2.1, C.2.2.1, C.2.2.2.1, C.2.2.2.2.1⟩ (hM l D dA b ad)
    ⟨callB_of na C.2.2.2.2.1 (lz_gdc G.2.2.1) rfl rfl rfl (C.2.2.2.2.1 _ G.2.1) (C.2.2.2.2.1 _ G.1) G.2.2.2 hR, C.2.2.2.2.1 _ G1⟩
    ⟨lz_blind _ _ _ _ _ _ _ _ _, fun U hU hw => ⟨rfl, hokA, by rw [hU]; exact h3, lz_K.warm hw C.2.2.2.2.2.1, by rw [hU]; exact Nat.le_trans C.2.2.2.2.2.2.2.2.1 h5.1⟩⟩ rfl (by rw [List.length_map]; exact hna) h6.1 (by show List.map (lz_iv ad) _ = _; rw [List.map_append, List.map_reverse]) (lv_room (by rw [lz_catsum]; exact hW)) hdg ⟨by omega, by omega⟩) h1 h2 h4 h5 h6 h7 h9.2 kk
theorem z_callI (C : lz_C p s m args meth c D dA b y cc nL ret) {y1 : MethodName} {cc1 : ByteArray} {n1 na : Nat} {rm : Room} {L idx : Nat} {As : List Value} {Post : Option Value → lz_T → lz_A → lz_B → lz_R → Prop} (hM : lz_M y1 cc1 n1 none rm (.ref L :: As) T A B R Post)
    (G : lz_CB y.cls idx y1 cc1 n1 none na) (G1 : Cond.instanceMethod y1 ∈ lw_tb2) (G2 : y1.name = "<init>") (hna : As.length = na) (hR : rm.frames + 1 ≤ Rm.frames ∧ 8 + (n1 + 11) + rm.locals ≤ Rm.locals) (hW : (rest.map fun v => v.category).sum ≤ 8) (hc : kc + rm.cells ≤ Rm.cells) (hs : ks + rm.slots ≤ Rm.slots) (hdg : decode cc pc = .ok (.invokespecial idx, 3))
    (kk : ∀ (r : Option Value) (T1 : lz_T) (A1 : lz_A) (B1 : lz_B) (R1 : lz_R), Post r T1 A1 B1 R1 → lz_Z p l e Rm s m args below meth c D dA b nL T0 ad0 Q (kc + rm.cells) (ks + rm.slots) T1 A1 B1 R1 (pc + 3) lv (r.toList ++ rest)) :
    lz_Z p l e Rm s m args below meth c D dA b nL T0 ad0 Q kc ks T A B R pc lv (As.reverse ++ .ref L :: rest) := by
  intro H locs la cells slots ad h1 h2 h3 h4 h5 h6 h7 h8
  have h9 := lz_oks_app.mp h8
  have h10 := lz_oks_cons.mp h9.2
  have hokA : lz_oks T (.ref L :: As) := lz_oks_cons.mpr ⟨h10.1, fun v hv => h9.1 v (List.mem_reverse.mpr hv)⟩
  refine lz_back (rm := rm) (va_runI (As := As.map (lz_iv ad)) (rest := rest.map (lz_iv ad)) (b := ad L) ⟨C.1, C.2.1, C.2.2.1, C.2.2.2.1, C.2.2.2.2.1⟩ (hM l D dA b ad)
    ⟨callB_of na C.2.2.2.2.1 (lz_gdc G.2.2.1) rfl rfl rfl (C.2.2.2.2.1 _ G.2.1) (C.2.2.2.2.1 _ G.1) G.2.2.2 hR, G2, C.2.2.2.2.1 _ G1⟩
    ⟨lz_blind _ _ _ _ _ _ _ _ _, fun U hU hw => ⟨rfl, hokA, by rw [hU]; exact h3, lz_K.warm hw C.2.2.2.2.2.1, by rw [hU]; exact Nat.le_trans C.2.2.2.2.2.2.2.2.1 h5.1⟩⟩ rfl (by rw [List.length_map]; exact hna) h6.1 (by show List.map (lz_iv ad) _ = _; rw [List.map_append, List.map_reverse]; rfl) (lv_room (by rw [lz_catsum]; exact hW)) hdg ⟨by omega, by omega⟩) h1 h2 h4 h5 h6 h7 h10.2 kk
theorem lz_cnB (C : lz_C p s m args meth c D dA b y cc nL ret) {y1 : MethodName} {cc1 : ByteArray} {n1 na idx : Nat} {ret1 : Option FieldType} {host : String} {rm : Room} (G : lz_CN y.cls idx y1 host cc1 n1 ret1 na) (hR : rm.frames + 1 ≤ Rm.frames ∧ 8 + (n1 + 11) + rm.locals ≤ Rm.locals) : va_CN Rm s args y.cls idx y1 host cc1 n1 ret1 (.code y1 cc1 n1 ret1 :: lw_tb2) rm rm.cells rm.slots na :=
  va_cnB na C.2.2.2.2.1 (lz_gdc G.2.2.1) rfl rfl rfl (C.2.2.2.2.2.1.2.2.2.2.2 _ G.1) (C.2.2.2.2.1 _ G.2.1) G.2.2.2 hR
theorem z_callSN (C : lz_C p s m args meth c D dA b y cc nL ret) {y1 : MethodName} {cc1 : ByteArray} {n1 na : Nat} {ret1 : Option FieldType} {host : String} {rm : Room} {idx : Nat} {As : List Value} {Post : Option Value → lz_T → lz_A → lz_B → lz_R → Prop} (hM : lz_M y1 cc1 n1 ret1 rm As T A B R Post)
    (G : lz_CN y.cls idx y1 host cc1 n1 ret1 na) (G1 : Cond.static y1 ∈ lw_tb2) (hna : As.length = na) (hR : rm.frames + 1 ≤ Rm.frames ∧ 8 + (n1 + 11) + rm.locals ≤ Rm.locals) (hW : (rest.map fun v => v.category).sum ≤ 8) (hc : kc + rm.cells ≤ Rm.cells) (hs : ks + rm.slots ≤ Rm.slots) (hdg : decode cc pc = .ok (.invokestatic idx, 3))
    (kk : ∀ (r : Option Value) (T1 : lz_T) (A1 : lz_A) (B1 : lz_B) (R1 : lz_R), Post r T1 A1 B1 R1 → lz_Z p l e Rm s m args below meth c D dA b nL T0 ad0 Q (kc + rm.cells) (ks + rm.slots) T1 A1 B1 R1 (pc + 3) lv (r.toList ++ rest)) :
    lz_Z p l e Rm s m args below meth c D dA b nL T0 ad0 Q kc ks T A B R pc lv (As.reverse ++ rest) := by
  intro H locs la cells slots ad h1 h2 h3 h4 h5 h6 h7 h8
  have h9 := lz_oks_app.mp h8
  have hokA : lz_oks T As := fun v hv => h9.1 v (List.mem_reverse.mpr hv)
  refine lz_back (rm := rm) (va_runSN (As := As.map (lz_iv ad)) (rest := rest.map (lz_iv ad)) ⟨C.1, C.2.1, C.2.2.1, C.2.2.2.1, C.2.2.2.2.1⟩ (hM l D dA b ad)
    ⟨lz_cnB C G hR, C.2.2.2.2.1 _ G1, trivial⟩
    ⟨lz_blind _ _ _ _ _ _ _ _ _, fun U hU hw => ⟨rfl, hokA, by rw [hU]; exact h3, lz_K.warm hw C.2.2.2.2.2.1, by rw [hU]; exact Nat.le_trans C.2.2.2.2.2.2.2.2.1 h5.1⟩⟩ rfl (by rw [List.length_map]; exact hna) h6.1 (by show List.map (lz_iv ad) _ = _; rw [List.map_append, List.map_reverse]) (lv_room (by rw [lz_catsum]; exact hW)) hdg ⟨by omega, by omega⟩) h1 h2 h4 h5 h6 h7 h9.2 kk
theorem z_callIN (C : lz_C p s m args meth c D dA b y cc nL ret) {y1 : MethodName} {cc1 : ByteArray} {n1 na : Nat} {host : String} {rm : Room} {L idx : Nat} {As : List Value} {Post : Option Value → lz_T → lz_A → lz_B → lz_R → Prop} (hM : lz_M y1 cc1 n1 none rm (.ref L :: As) T A B R Post)
    (G : lz_CN y.cls idx y1 host cc1 n1 none na) (G1 : Cond.instanceMethod y1 ∈ lw_tb2) (G2 : y1.name = "<init>") (hna : As.length = na) (hR : rm.frames + 1 ≤ Rm.frames ∧ 8 + (n1 + 11) + rm.locals ≤ Rm.locals) (hW : (rest.map fun v => v.category).sum ≤ 8) (hc : kc + rm.cells ≤ Rm.cells) (hs : ks + rm.slots ≤ Rm.slots) (hdg : decode cc pc = .ok (.invokespecial idx, 3))
    (kk : ∀ (r : Option Value) (T1 : lz_T) (A1 : lz_A) (B1 : lz_B) (R1 : lz_R), Post r T1 A1 B1 R1 → lz_Z p l e Rm s m args below meth c D dA b nL T0 ad0 Q (kc + rm.cells) (ks + rm.slots) T1 A1 B1 R1 (pc + 3) lv (r.toList ++ rest)) :
    lz_Z p l e Rm s m args below meth c D dA b nL T0 ad0 Q kc ks T A B R pc lv (As.reverse ++ .ref L :: rest) := by
  intro H locs la cells slots ad h1 h2 h3 h4 h5 h6 h7 h8
  have h9 := lz_oks_app.mp h8
  have h10 := lz_oks_cons.mp h9.2
  have hokA : lz_oks T (.ref L :: As) := lz_oks_cons.mpr ⟨h10.1, fun v hv => h9.1 v (List.mem_reverse.mpr hv)⟩
  refine lz_back (rm := rm) (va_runIN (As := As.map (lz_iv ad)) (rest := rest.map (lz_iv ad)) (b := ad L) ⟨C.1, C.2.1, C.2.2.1, C.2.2.2.1, C.2.2.2.2.1⟩ (hM l D dA b ad)
    ⟨lz_cnB C G hR, G2, C.2.2.2.2.1 _ G1⟩
    ⟨lz_blind _ _ _ _ _ _ _ _ _, fun U hU hw => ⟨rfl, hokA, by rw [hU]; exact h3, lz_K.warm hw C.2.2.2.2.2.1, by rw [hU]; exact Nat.le_trans C.2.2.2.2.2.2.2.2.1 h5.1⟩⟩ rfl (by rw [List.length_map]; exact hna) h6.1 (by show List.map (lz_iv ad) _ = _; rw [List.map_append, List.map_reverse]; rfl) (lv_room (by rw [lz_catsum]; exact hW)) hdg ⟨by omega, by omega⟩) h1 h2 h4 h5 h6 h7 h10.2 kk
theorem z_objInit (C : lz_C p s m args meth c D dA b y cc nL ret) {L idx : Nat} (G : Cond.methodLink y.cls idx Lib.objectInit ∈ lw_tb2) (G1 : Cond.instanceMethod Lib.objectInit ∈ lw_tb2) (G2 : Cond.code Lib.objectInit ⟨#[0xb1]⟩ 1 none ∈ lw_tb2) (hF : 1 ≤ Rm.frames) (hW : (rest.map fun v => v.category).sum + 12 ≤ Rm.locals) (hdg : decode cc pc = .ok (.invokespecial idx, 3))
    (kk : lz_Z p l e Rm s m args below meth c D dA b nL T0 ad0 Q kc ks T A B R (pc + 3) lv rest) : lz_Z p l e Rm s m args below meth c D dA b nL T0 ad0 Q kc ks T A B R pc lv (.ref L :: rest) := by
  intro H locs la cells slots ad h1 h2 h3 h4 h5 h6 h7 h8
  refine W.objInit C.1 C.2.1 C.2.2.2.1 (C.2.2.2.2.1 _ G) (C.2.2.2.2.1 _ G1) (C.2.2.2.2.1 _ G2) rfl (h6.1.trans C.2.2.1.symm) (a := ad L) (rest := rest.map (lz_iv ad)) rfl hdg hF (by show 2 * 0 + _ + 12 ≤ _; rw [lz_catsum]; omega) ?_
  exact kk H locs la cells slots ad h1 h2 h3 h4 h5 h6 h7 (lz_oks_cons.mp h8).2
theorem z_iushr (C : lz_C p s m args meth c D dA b y cc nL ret) {x y1 : Int32} (hdg : decode cc pc = .ok (.iushr, 1)) (kk : lz_Z p l e Rm s m args below meth c D dA b nL T0 ad0 Q kc ks T A B R (pc + 1) lv (.int (x.toUInt32 >>> (y1.toUInt32 &&& Int32.toUInt32 31)).toInt32 :: rest)) : lz_Z p l e Rm s m args below meth c D dA b nL T0 ad0 Q kc ks T A B R pc lv (.int y1 :: .int x :: rest) :=
  fun H locs la cells slots ad h1 h2 h3 h4 h5 h6 h7 h8 => lv_iushr C.1 C.2.1 hdg rfl (kk H locs la cells slots ad h1 h2 h3 h4 h5 h6 h7 (lz_oks_cons.mpr ⟨lz_ok_int _ _, (lz_oks_cons.mp (lz_oks_cons.mp h8).2).2⟩))
theorem z_ldcw (C : lz_C p s m args meth c D dA b y cc nL ret) {index : Nat} {v : Int32} (hdg : decode cc pc = .ok (.ldc_w index, 3)) (hw : Jvm.Cond.constant y.cls index v ∈ lw_tb2) (kk : lz_Z p l e Rm s m args below meth c D dA b nL T0 ad0 Q kc ks T A B R (pc + 3) lv (.int v :: rest)) : lz_Z p l e Rm s m args below meth c D dA b nL T0 ad0 Q kc ks T A B R pc lv (rest) :=
  fun H locs la cells slots ad h1 h2 h3 h4 h5 h6 h7 h8 => lv_ldcw C.1 C.2.1 C.2.2.2.1 (C.2.2.2.2.1 _ hw) hdg (kk H locs la cells slots ad h1 h2 h3 h4 h5 h6 h7 (lz_oks_cons.mpr ⟨lz_ok_int _ _, h8⟩))
end ZL
