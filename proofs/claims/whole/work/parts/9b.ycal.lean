/-! 9b.ycal: stores, news, calls over lz_Y (written by wip/whole/gen9b.py) -/
theorem lz_lvY_fl {sa i : Nat} {ad : Nat → Nat} {v : Value} {lv : List (Nat × Value)} {f : Nat → Nat × Value → Bool} (h0 : f i (0, Value.ref sa) = true) : (i, v) :: (lz_lvY sa ad lv).filter (f i) = (i, v) :: (0, Value.ref sa) :: (lz_lv ad lv).filter (f i) := by
  unfold lz_lvY
  rw [List.filter_cons_of_pos h0]
theorem lz_lvY_sw {sa i nL : Nat} {la : Array Slot} {ad : Nat → Nat} {v : Value} {X lv' : List (Nat × Value)} (h : lv_has la nL ((i, v) :: (0, Value.ref sa) :: X)) (e : (i, v) :: X = lz_lv ad lv') : lv_has la nL (lz_lvY sa ad lv') := by
  unfold lz_lvY
  rw [← e]
  refine ⟨h.1, h.2.1, fun q hq => h.2.2 q ?_⟩
  simp only [List.mem_cons] at hq ⊢
  rcases hq with a | a | a
  · exact Or.inr (Or.inl a)
  · exact Or.inl a
  · exact Or.inr (Or.inr a)
section YC
variable {sa : Nat}
variable {p : Program} {l : Launch} {e : Env} {Rm : Room} {s : State} {m : MethodId} {args : Array Value} {below : List Frame} {meth : Method} {c : Code} {D : va_G} {dA : Nat → ClassId} {b nL : Nat} {T0 : lz_T} {ad0 : Nat → Nat} {Q : State → Prop} {kc ks : Nat} {T : lz_T} {A : lz_A} {B : lz_B} {R : lz_R} {y : MethodName} {cc : ByteArray} {ret : Option FieldType} {pc : Nat} {lv : List (Nat × Value)} {rest : List Value}
theorem y_icmp_eq (C : lz_C p s m args meth c D dA b y cc nL ret) {x y1 : Int32} {off : Int} (tgt : Nat) (hdg : decode cc pc = .ok (.if_icmp .eq off, 3)) (ht : (pc : Int) + off = (tgt : Int)) (kt : x = y1 → lz_Y sa p l e Rm s m args below meth c D dA b nL T0 ad0 Q kc ks T A B R tgt lv (rest)) (kf : ¬ x = y1 → lz_Y sa p l e Rm s m args below meth c D dA b nL T0 ad0 Q kc ks T A B R (pc + 3) lv (rest)) : lz_Y sa p l e Rm s m args below meth c D dA b nL T0 ad0 Q kc ks T A B R pc lv (.int y1 :: .int x :: rest) :=
  fun H locs la cells slots ad h1 h2 h3 h4 h5 h6 h7 h8 => lv_icmp_eq C.1 C.2.1 hdg ht (fun q => kt q H locs la cells slots ad h1 h2 h3 h4 h5 h6 h7 (lz_oks_cons.mp (lz_oks_cons.mp h8).2).2) (fun q => kf q H locs la cells slots ad h1 h2 h3 h4 h5 h6 h7 (lz_oks_cons.mp (lz_oks_cons.mp h8).2).2)
theorem y_icmp_ne (C : lz_C p s m args meth c D dA b y cc nL ret) {x y1 : Int32} {off : Int} (tgt : Nat) (hdg : decode cc pc = .ok (.if_icmp .ne off, 3)) (ht : (pc : Int) + off = (tgt : Int)) (kt : ¬ x = y1 → lz_Y sa p l e Rm s m args below meth c D dA b nL T0 ad0 Q kc ks T A B R tgt lv (rest)) (kf : x = y1 → lz_Y sa p l e Rm s m args below meth c D dA b nL T0 ad0 Q kc ks T A B R (pc + 3) lv (rest)) : lz_Y sa p l e Rm s m args below meth c D dA b nL T0 ad0 Q kc ks T A B R pc lv (.int y1 :: .int x :: rest) :=
  fun H locs la cells slots ad h1 h2 h3 h4 h5 h6 h7 h8 => lv_icmp_ne C.1 C.2.1 hdg ht (fun q => kt q H locs la cells slots ad h1 h2 h3 h4 h5 h6 h7 (lz_oks_cons.mp (lz_oks_cons.mp h8).2).2) (fun q => kf q H locs la cells slots ad h1 h2 h3 h4 h5 h6 h7 (lz_oks_cons.mp (lz_oks_cons.mp h8).2).2)
theorem y_icmp_gt (C : lz_C p s m args meth c D dA b y cc nL ret) {x y1 : Int32} {off : Int} (tgt : Nat) (hdg : decode cc pc = .ok (.if_icmp .gt off, 3)) (ht : (pc : Int) + off = (tgt : Int)) (kt : y1 < x → lz_Y sa p l e Rm s m args below meth c D dA b nL T0 ad0 Q kc ks T A B R tgt lv (rest)) (kf : ¬ y1 < x → lz_Y sa p l e Rm s m args below meth c D dA b nL T0 ad0 Q kc ks T A B R (pc + 3) lv (rest)) : lz_Y sa p l e Rm s m args below meth c D dA b nL T0 ad0 Q kc ks T A B R pc lv (.int y1 :: .int x :: rest) :=
  fun H locs la cells slots ad h1 h2 h3 h4 h5 h6 h7 h8 => lv_icmp_gt C.1 C.2.1 hdg ht (fun q => kt q H locs la cells slots ad h1 h2 h3 h4 h5 h6 h7 (lz_oks_cons.mp (lz_oks_cons.mp h8).2).2) (fun q => kf q H locs la cells slots ad h1 h2 h3 h4 h5 h6 h7 (lz_oks_cons.mp (lz_oks_cons.mp h8).2).2)
theorem y_icmp_le (C : lz_C p s m args meth c D dA b y cc nL ret) {x y1 : Int32} {off : Int} (tgt : Nat) (hdg : decode cc pc = .ok (.if_icmp .le off, 3)) (ht : (pc : Int) + off = (tgt : Int)) (kt : x ≤ y1 → lz_Y sa p l e Rm s m args below meth c D dA b nL T0 ad0 Q kc ks T A B R tgt lv (rest)) (kf : ¬ x ≤ y1 → lz_Y sa p l e Rm s m args below meth c D dA b nL T0 ad0 Q kc ks T A B R (pc + 3) lv (rest)) : lz_Y sa p l e Rm s m args below meth c D dA b nL T0 ad0 Q kc ks T A B R pc lv (.int y1 :: .int x :: rest) :=
  fun H locs la cells slots ad h1 h2 h3 h4 h5 h6 h7 h8 => lv_icmp_le C.1 C.2.1 hdg ht (fun q => kt q H locs la cells slots ad h1 h2 h3 h4 h5 h6 h7 (lz_oks_cons.mp (lz_oks_cons.mp h8).2).2) (fun q => kf q H locs la cells slots ad h1 h2 h3 h4 h5 h6 h7 (lz_oks_cons.mp (lz_oks_cons.mp h8).2).2)
theorem y_istore_n (C : lz_C p s m args meth c D dA b y cc nL ret) {k : Fin 4} {x : Int32} {lv' : List (Nat × Value)} (hdg : decode cc pc = .ok (.istore_n k, 1)) (hn : (k : Nat) < nL) (hl : ((k : Nat), .int x) :: lv.filter (lz_p1 (k : Nat)) = lv') (hf0 : lz_p1 (k : Nat) (0, Value.ref sa) = true) (kk : lz_Y sa p l e Rm s m args below meth c D dA b nL T0 ad0 Q kc ks T A B R (pc + 1) lv' (rest)) : lz_Y sa p l e Rm s m args below meth c D dA b nL T0 ad0 Q kc ks T A B R pc lv (.int x :: rest) :=
  fun H locs la cells slots ad h1 h2 h3 h4 h5 h6 h7 h8 => lv_istore_n C.1 C.2.1 hdg rfl h6 hn (lz_lvY_fl (f := lz_p1) hf0) (fun la2 h6b => kk H locs la2 cells slots ad h1 h2 h3 h4 h5 (lz_lvY_sw h6b (lz_lv_st (f := lz_p1) (lz_p1_iv ad _) hl)) (lz_okl_st h7 (lz_oks_cons.mp h8).1 hl) (lz_oks_cons.mp h8).2)
theorem y_astore_n (C : lz_C p s m args meth c D dA b y cc nL ret) {k : Fin 4} {x : Nat} {lv' : List (Nat × Value)} (hdg : decode cc pc = .ok (.astore_n k, 1)) (hn : (k : Nat) < nL) (hl : ((k : Nat), .ref x) :: lv.filter (lz_p1 (k : Nat)) = lv') (hf0 : lz_p1 (k : Nat) (0, Value.ref sa) = true) (kk : lz_Y sa p l e Rm s m args below meth c D dA b nL T0 ad0 Q kc ks T A B R (pc + 1) lv' (rest)) : lz_Y sa p l e Rm s m args below meth c D dA b nL T0 ad0 Q kc ks T A B R pc lv (.ref x :: rest) :=
  fun H locs la cells slots ad h1 h2 h3 h4 h5 h6 h7 h8 => lv_astore_n C.1 C.2.1 hdg rfl h6 hn (lz_lvY_fl (f := lz_p1) hf0) (fun la2 h6b => kk H locs la2 cells slots ad h1 h2 h3 h4 h5 (lz_lvY_sw h6b (lz_lv_st (f := lz_p1) (lz_p1_iv ad _) hl)) (lz_okl_st h7 (lz_oks_cons.mp h8).1 hl) (lz_oks_cons.mp h8).2)
theorem y_dstore (C : lz_C p s m args meth c D dA b y cc nL ret) {i : Nat} {x : UInt64} {lv' : List (Nat × Value)} (hdg : decode cc pc = .ok (.dstore i, 2)) (hn : i + 1 < nL) (hl : (i, .double x) :: lv.filter (lz_p2 i) = lv') (hf0 : lz_p2 i (0, Value.ref sa) = true) (kk : lz_Y sa p l e Rm s m args below meth c D dA b nL T0 ad0 Q kc ks T A B R (pc + 2) lv' (rest)) : lz_Y sa p l e Rm s m args below meth c D dA b nL T0 ad0 Q kc ks T A B R pc lv (.double x :: rest) :=
  fun H locs la cells slots ad h1 h2 h3 h4 h5 h6 h7 h8 => lv_dstore C.1 C.2.1 hdg  h6 hn (lz_lvY_fl (f := lz_p2) hf0) (fun la2 h6b => kk H locs la2 cells slots ad h1 h2 h3 h4 h5 (lz_lvY_sw h6b (lz_lv_st (f := lz_p2) (lz_p2_iv ad _) hl)) (lz_okl_st h7 (lz_oks_cons.mp h8).1 hl) (lz_oks_cons.mp h8).2)
theorem y_iinc (C : lz_C p s m args meth c D dA b y cc nL ret) {i : Nat} {n : Int} {x v : Int32} {lv' : List (Nat × Value)} (j : Nat) (hdg : decode cc pc = .ok (.iinc i n, 3)) (hj : lv[j]? = some (i, .int x)) (hv : x + Int32.ofInt n = v) (hn : i < nL) (hl : (i, Value.int v) :: lv.filter (lz_p1 i) = lv') (hf0 : lz_p1 i (0, Value.ref sa) = true) (kk : lz_Y sa p l e Rm s m args below meth c D dA b nL T0 ad0 Q kc ks T A B R (pc + 3) lv' (rest)) : lz_Y sa p l e Rm s m args below meth c D dA b nL T0 ad0 Q kc ks T A B R pc lv (rest) :=
  fun H locs la cells slots ad h1 h2 h3 h4 h5 h6 h7 h8 => lv_iinc (k := j + 1) C.1 C.2.1 hdg h6 (by unfold lz_lvY lz_lv; rw [List.getElem?_cons_succ, List.getElem?_map, hj]; rfl) hv hn (lz_lvY_fl (f := lz_p1) hf0) (fun la2 h6b => kk H locs la2 cells slots ad h1 h2 h3 h4 h5 (lz_lvY_sw h6b (lz_lv_st (v := .int v) (f := lz_p1) (lz_p1_iv ad _) hl)) (lz_okl_st h7 (lz_ok_int _ _) hl) h8)
theorem lz_backY {rm : Room} {Post : Option Value → lz_T → lz_A → lz_B → lz_R → Prop} {ad : Nat → Nat} {H : Heap} {locs : List Loc} {la : Array Slot} {cells slots : Nat} {st0 : List Value} {aa : Array Value}
    (hr : va_Run p l e Rm s m args below meth c H locs cells slots rm.cells rm.slots (F0 m pc la st0) (rest.map (lz_iv ad)) (lz_Qc D dA b T ad Post aa) (fun q => b ≤ q))
    (h1 : cells ≤ kc) (h2 : slots ≤ ks) (h4 : lz_E T0 ad0 T ad) (h5 : va_S (fun q => b ≤ q) s.heap H locs) (h6 : lv_has la nL (lz_lvY sa ad lv)) (h7 : lz_okl T lv) (h8 : lz_oks T rest)
    (kk : ∀ (r : Option Value) (T1 : lz_T) (A1 : lz_A) (B1 : lz_B) (R1 : lz_R), Post r T1 A1 B1 R1 → lz_Y sa p l e Rm s m args below meth c D dA b nL T0 ad0 Q (kc + rm.cells) (ks + rm.slots) T1 A1 B1 R1 (pc + 3) lv (r.toList ++ rest)) :
    W p l e Rm s m args below meth c H locs cells slots Q (F0 m pc la st0) := by
  intro U hU X
  obtain ⟨v, st₀, t, T', L, h0, X', hL, e1, e2, ⟨⟨r, T1, A1, B1, R1, ad1, hv, hok, hE, hp, hH⟩, hz, hk⟩, st⟩ := hr U hU X
  have hv' : v = r.map (lz_iv ad1) := by cases hv; rfl
  subst hv'
  rw [h0] at hz hk
  have hoks : lz_oks T1 (r.toList ++ rest) := by
    refine lz_oks_app.mpr ⟨?_, lz_oks_E hE h8⟩
    cases r with
    | none => exact lz_oks_nil T1
    | some v => exact lz_oks_cons.mpr ⟨hok v rfl, lz_oks_nil T1⟩
  have go := kk r T1 A1 B1 R1 hp T'.heap (locs ++ L) la (cells + rm.cells) (slots + rm.slots) ad1 (by omega) (by omega) (by rw [e1]; exact hH) (h4.trans hE)
    ⟨Nat.le_trans h5.1 (by rw [e1]; exact hz), fun q g1 g2 => by rw [e1, hk q (Nat.lt_of_lt_of_le g1 h5.1) g2]; exact h5.2.1 q g1 g2, fun q hq => by
      rcases List.mem_append.mp hq with h | h
      · exact h5.2.2 q h
      · exact hL q h⟩ (by unfold lz_lvY at *; rw [lz_lv_E hE h7]; exact h6) (lz_okl_E hE h7) hoks
  have hst : (r.toList ++ rest).map (lz_iv ad1) = (r.map (lz_iv ad1)).toList ++ rest.map (lz_iv ad) := by
    rw [List.map_append, lz_st_E hE h8]
    cases r <;> rfl
  rw [hst] at go
  obtain ⟨t2, a1, b1⟩ := go T' rfl X'
  exact ⟨t2, st t2 a1, b1⟩
theorem y_callV (C : lz_C p s m args meth c D dA b y cc nL ret) {y1 : MethodName} {cc1 : ByteArray} {n1 na : Nat} {ret1 : Option FieldType} {rm : Room} {ci L z idx : Nat} {As : List Value} {q1 : vw_C} {Post : Option Value → lz_T → lz_A → lz_B → lz_R → Prop} (hq1 : vwCl[ci]? = some q1) (hci : ci < 11) (hM : lz_M y1 cc1 n1 ret1 rm (.ref L :: As) T A B R Post)
    (G : lz_CB y.cls idx y1 cc1 n1 ret1 na) (G1 : Cond.instanceMethod y1 ∈ lw_tb2) (G2 : Cond.selects q1.1 y1 y1 ∈ lw_tb2) (hT : T L = (1 + ci, z)) (hna : As.length = na) (hR : rm.frames + 1 ≤ Rm.frames ∧ 8 + (n1 + 11) + rm.locals ≤ Rm.locals) (hW : (rest.map fun v => v.category).sum ≤ 8) (hc : kc + rm.cells ≤ Rm.cells) (hs : ks + rm.slots ≤ Rm.slots) (hdg : decode cc pc = .ok (.invokevirtual idx, 3))
    (kk : ∀ (r : Option Value) (T1 : lz_T) (A1 : lz_A) (B1 : lz_B) (R1 : lz_R), Post r T1 A1 B1 R1 → lz_Y sa p l e Rm s m args below meth c D dA b nL T0 ad0 Q (kc + rm.cells) (ks + rm.slots) T1 A1 B1 R1 (pc + 3) lv (r.toList ++ rest)) :
    lz_Y sa p l e Rm s m args below meth c D dA b nL T0 ad0 Q kc ks T A B R pc lv (As.reverse ++ .ref L :: rest) := by
  intro H locs la cells slots ad h1 h2 h3 h4 h5 h6 h7 h8
  obtain ⟨ws, k0, fs, hP, he⟩ := lz_at_o h3 hT hci
  have h9 := lz_oks_app.mp h8
  have h10 := lz_oks_cons.mp h9.2
  have hokA : lz_oks T (.ref L :: As) := lz_oks_cons.mpr ⟨h10.1, fun v hv => h9.1 v (List.mem_reverse.mpr hv)⟩
  refine lz_backY (rm := rm) (va_runV (As := As.map (lz_iv ad)) (rest := rest.map (lz_iv ad)) (b := ad L) (C := q1.1) ⟨C.1, C.2.1, C.2.2.1, C.2.2.2.1, C.2.2.2.2.1⟩ (hM l D dA b ad)
    ⟨callB_of na C.2.2.2.2.1 (lz_gdc G.2.2.1) rfl rfl rfl (C.2.2.2.2.1 _ G.2.1) (C.2.2.2.2.1 _ G.1) G.2.2.2 hR, C.2.2.2.2.1 _ G1, C.2.2.2.2.1 _ G2⟩
    ⟨lz_blind _ _ _ _ _ _ _ _ _, va_recv C.2.2.2.2.2.1.1 hP hq1 he, fun U hU hw => ⟨rfl, hokA, by rw [hU]; exact h3, lz_K.warm hw C.2.2.2.2.2.1, by rw [hU]; exact Nat.le_trans C.2.2.2.2.2.2.2.2.1 h5.1⟩⟩ rfl (by rw [List.length_map]; exact hna) h6.1 (by show List.map (lz_iv ad) _ = _; rw [List.map_append, List.map_reverse]; rfl) (lv_room (by rw [lz_catsum]; exact hW)) hdg ⟨by omega, by omega⟩) h1 h2 h4 h5 h6 h7 h10.2 kk
theorem y_callI (C : lz_C p s m args meth c D dA b y cc nL ret) {y1 : MethodName} {cc1 : ByteArray} {n1 na : Nat} {rm : Room} {L idx : Nat} {As : List Value} {Post : Option Value → lz_T → lz_A → lz_B → lz_R → Prop} (hM : lz_M y1 cc1 n1 none rm (.ref L :: As) T A B R Post)
    (G : lz_CB y.cls idx y1 cc1 n1 none na) (G1 : Cond.instanceMethod y1 ∈ lw_tb2) (G2 : y1.name = "<init>") (hna : As.length = na) (hR : rm.frames + 1 ≤ Rm.frames ∧ 8 + (n1 + 11) + rm.locals ≤ Rm.locals) (hW : (rest.map fun v => v.category).sum ≤ 8) (hc : kc + rm.cells ≤ Rm.cells) (hs : ks + rm.slots ≤ Rm.slots) (hdg : decode cc pc = .ok (.invokespecial idx, 3))
    (kk : ∀ (r : Option Value) (T1 : lz_T) (A1 : lz_A) (B1 : lz_B) (R1 : lz_R), Post r T1 A1 B1 R1 → lz_Y sa p l e Rm s m args below meth c D dA b nL T0 ad0 Q (kc + rm.cells) (ks + rm.slots) T1 A1 B1 R1 (pc + 3) lv (r.toList ++ rest)) :
    lz_Y sa p l e Rm s m args below meth c D dA b nL T0 ad0 Q kc ks T A B R pc lv (As.reverse ++ .ref L :: rest) := by
  intro H locs la cells slots ad h1 h2 h3 h4 h5 h6 h7 h8
  have h9 := lz_oks_app.mp h8
  have h10 := lz_oks_cons.mp h9.2
  have hokA : lz_oks T (.ref L :: As) := lz_oks_cons.mpr ⟨h10.1, fun v hv => h9.1 v (List.mem_reverse.mpr hv)⟩
  refine lz_backY (rm := rm) (va_runI (As := As.map (lz_iv ad)) (rest := rest.map (lz_iv ad)) (b := ad L) ⟨C.1, C.2.1, C.2.2.1, C.2.2.2.1, C.2.2.2.2.1⟩ (hM l D dA b ad)
    ⟨callB_of na C.2.2.2.2.1 (lz_gdc G.2.2.1) rfl rfl rfl (C.2.2.2.2.1 _ G.2.1) (C.2.2.2.2.1 _ G.1) G.2.2.2 hR, G2, C.2.2.2.2.1 _ G1⟩
    ⟨lz_blind _ _ _ _ _ _ _ _ _, fun U hU hw => ⟨rfl, hokA, by rw [hU]; exact h3, lz_K.warm hw C.2.2.2.2.2.1, by rw [hU]; exact Nat.le_trans C.2.2.2.2.2.2.2.2.1 h5.1⟩⟩ rfl (by rw [List.length_map]; exact hna) h6.1 (by show List.map (lz_iv ad) _ = _; rw [List.map_append, List.map_reverse]; rfl) (lv_room (by rw [lz_catsum]; exact hW)) hdg ⟨by omega, by omega⟩) h1 h2 h4 h5 h6 h7 h10.2 kk
theorem lz_freshY {pc' L q cells slots n' : Nat} {x : Nat × Nat} {ad : Nat → Nat} {H1 : Heap} {locs : List Loc} {la : Array Slot} (hL : (T L).1 = 0) (hx : x.1 ≠ 0) (h1 : cells ≤ kc) (h2 : slots ≤ ks) (h4 : lz_E T0 ad0 T ad) (h6 : lv_has la nL (lz_lvY sa ad lv)) (h7 : lz_okl T lv) (h8 : lz_oks T rest) (hH : lz_H D dA b (va_up ad L q) (lz_upT T L x) A B R H1) (hS : va_S (fun q => b ≤ q) s.heap H1 locs)
    (kk : lz_Y sa p l e Rm s m args below meth c D dA b nL T0 ad0 Q (kc + 1) (ks + n') (lz_upT T L x) A B R pc' lv (.ref L :: rest)) : W p l e Rm s m args below meth c H1 locs (cells + 1) (slots + n') Q (F0 m pc' la (.ref q :: rest.map (lz_iv ad))) := by
  have hE : lz_E T ad (lz_upT T L x) (va_up ad L q) := lz_E_new hL
  have go := kk H1 locs la (cells + 1) (slots + n') (va_up ad L q) (by omega) (by omega) hH (h4.trans hE) hS (by unfold lz_lvY at *; rw [lz_lv_E hE h7]; exact h6) (lz_okl_E hE h7) (lz_oks_cons.mpr ⟨lz_ok_ref (by rw [lz_upT_eq]; exact hx), lz_oks_E hE h8⟩)
  rw [List.map_cons, lz_st_E hE h8] at go
  have hv : lz_iv (va_up ad L q) (.ref L) = .ref q := by simp [lz_iv, va_up]
  rw [hv] at go
  exact go
theorem y_new (C : lz_C p s m args meth c D dA b y cc nL ret) {ci index : Nat} (L : Nat) (F : lz_N y.cls index ci) (hL : (T L).1 = 0) (hc : kc + 1 ≤ Rm.cells) (hs : ks + lz_nF ci ≤ Rm.slots) (hdg : decode cc pc = .ok (.new index, 3))
    (kk : lz_Y sa p l e Rm s m args below meth c D dA b nL T0 ad0 Q (kc + 1) (ks + lz_nF ci) (lz_upT T L (1 + ci, 0)) A B R (pc + 3) lv (.ref L :: rest)) : lz_Y sa p l e Rm s m args below meth c D dA b nL T0 ad0 Q kc ks T A B R pc lv rest := by
  intro H locs la cells slots ad h1 h2 h3 h4 h5 h6 h7 h8
  obtain ⟨Ls, hmem, hP, hD, hcl, hz⟩ := id h3
  obtain ⟨hci, q, hq, hnF, hin, hty, hlk, hinst, hini, hdef⟩ := F
  obtain ⟨z1, z2, z3⟩ := hz L hL
  refine va_new (C := q.1) (T := q.2.1) (N := q.2.2) (fs := lz_fs ad A B R L ci) C.1 C.2.1 C.2.2.2.2.1 hin (lz_ty ci) hty C.2.2.2.1 (C.2.2.2.2.1 _ hlk) (C.2.2.2.2.1 _ hinst) (C.2.2.2.2.1 _ hini) C.2.2.2.2.2.1.1 hP hD h5 (fun q h => Nat.le_trans C.2.2.2.2.2.2.2.2.1 h) hq (fun j hj => ?_) (by omega) (by rw [hnF] at hs; omega) hdg (fun q0 H1 hP1 hD1 hS1 => ?_)
  · unfold vp_V
    rw [List.getD_eq_getElem?_getD, lz_fs_get _ _ _ _ _ (by rw [hnF]; exact hj), Option.getD_some, ← hdef j hj]
    unfold lz_fv
    rw [z1, z2, z3]
    split <;> rfl
  · have hen : lz_cell dA (va_up ad L q0) (lz_upT T L (1 + ci, 0)) A B R L = .inr (ci, lz_fs ad A B R L ci) := by
      rw [lz_cell_o (lz_upT_eq T L (1 + ci, 0)) (by omega)]
      unfold lz_fs lz_fv
      rw [z3]
      rfl
    rw [hnF] at kk
    exact lz_freshY hL (by show 1 + ci ≠ 0; omega) h1 h2 h4 h6 h7 h8 (lz_H_push hmem hcl hz hL (by show 1 + ci ≠ 0; omega) hen hP1 hD1) hS1 kk
end YC
