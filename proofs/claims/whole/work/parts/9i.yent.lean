/-! 9i.yent: the law's entry (written by wip/whole/gen9i.py) -/
theorem ar_p {s : State} {args : Array Value} {ty : FieldType} (h : (Cond.arrayClass ty).before args s = true) : ∃ cA : ClassId, ArrOfT s cA ty ∧ s.vm.findClass ("[" ++ ty.toString) = some cA := by
  obtain ⟨c, k, comp, h1, h2, h3⟩ := Cond.arrayClass_spec h
  exact ⟨c, fun n z => ⟨fun k h => (by cases h), k, h2, comp, h3⟩, h1⟩
theorem ar_q {s : State} {C : String} (h : va_AO C s) : ∃ cA : ClassId, ArrOfT s cA (.object C) ∧ va_RA s cA (.object C) := by
  obtain ⟨comp, c, k, h1, h2, h3, h4, h5⟩ := Cond.arrayOver_spec h
  exact ⟨c, fun n z => ⟨fun k h => (by cases h), k, h3, comp, h4⟩, k, comp, h3, h4, h1, h5⟩
theorem ar_a {s : State} (h : lz_AA s) : ∃ cA : ClassId, ArrOfT s cA (.array .int) ∧ va_RA s cA (.array .int) := by
  obtain ⟨comp, c, k, h1, h2, h3, h4, h5⟩ := h.spec
  exact ⟨c, fun n z => ⟨fun k h => (by cases h), k, h3, comp, h4⟩, h5⟩
theorem cl_0 {s : State} {args : Array Value} (hts : ∀ w ∈ lw_tbl, w.before args s = true) : ∃ D : va_G, ∀ (c : Nat) (q : vw_C), vwCl[c]? = some q → u_Kn s q.1 q.2.1 q.2.2 (D.1 c) (D.2 c) := by
  have h : ∀ c : Nat, ∃ r : ClassId × (Nat → Nat), ∀ q : vw_C, vwCl[c]? = some q → u_Kn s q.1 q.2.1 q.2.2 r.1 r.2 := by
    intro c
    match c with
    | 0 =>
      obtain ⟨cC, iS, h⟩ := u_known (C := RX0) (T := TX0) (N := 8) (n := 8) hts uwX0 (hts (.instantiable RX0 8) (List.mem_of_getElem? (i := 185) (by decide +kernel)))
      exact ⟨(cC, iS), fun q hq => by cases hq; exact h⟩
    | 1 =>
      obtain ⟨cC, iS, h⟩ := u_known (C := RX1) (T := TX1) (N := 4) (n := 4) hts uwX1 (hts (.instantiable RX1 4) (List.mem_of_getElem? (i := 164) (by decide +kernel)))
      exact ⟨(cC, iS), fun q hq => by cases hq; exact h⟩
    | 2 =>
      obtain ⟨cC, iS, h⟩ := u_known (C := RX2) (T := TX2) (N := 2) (n := 2) hts uwX2 (hts (.instantiable RX2 2) (List.mem_of_getElem? (i := 134) (by decide +kernel)))
      exact ⟨(cC, iS), fun q hq => by cases hq; exact h⟩
    | 3 =>
      obtain ⟨cC, iS, h⟩ := u_known (C := RX3) (T := TX3) (N := 5) (n := 5) hts uwX3 (hts (.instantiable RX3 5) (List.mem_of_getElem? (i := 89) (by decide +kernel)))
      exact ⟨(cC, iS), fun q hq => by cases hq; exact h⟩
    | 4 =>
      obtain ⟨cC, iS, h⟩ := u_known (C := RX4) (T := TX4) (N := 4) (n := 4) hts uwX4 (hts (.instantiable RX4 4) (List.mem_of_getElem? (i := 474) (by decide +kernel)))
      exact ⟨(cC, iS), fun q hq => by cases hq; exact h⟩
    | 5 =>
      obtain ⟨cC, iS, h⟩ := u_known (C := RX5) (T := TX5) (N := 8) (n := 8) hts uwX5 (hts (.instantiable RX5 8) (List.mem_of_getElem? (i := 255) (by decide +kernel)))
      exact ⟨(cC, iS), fun q hq => by cases hq; exact h⟩
    | 6 =>
      obtain ⟨cC, iS, h⟩ := u_known (C := RX6) (T := TX6) (N := 2) (n := 2) hts uwX6 (hts (.instantiable RX6 2) (List.mem_of_getElem? (i := 119) (by decide +kernel)))
      exact ⟨(cC, iS), fun q hq => by cases hq; exact h⟩
    | 7 =>
      obtain ⟨cC, iS, h⟩ := u_known (C := RX7) (T := TX7) (N := 2) (n := 2) hts uwX7 (hts (.instantiable RX7 2) (List.mem_of_getElem? (i := 148) (by decide +kernel)))
      exact ⟨(cC, iS), fun q hq => by cases hq; exact h⟩
    | 8 =>
      obtain ⟨cC, iS, h⟩ := u_known (C := RX8) (T := TX8) (N := 7) (n := 7) hts uwX8 (hts (.instantiable RX8 7) (List.mem_of_getElem? (i := 249) (by decide +kernel)))
      exact ⟨(cC, iS), fun q hq => by cases hq; exact h⟩
    | 9 =>
      obtain ⟨cC, iS, h⟩ := u_known (C := RX9) (T := TX9) (N := 6) (n := 6) hts uwX9 (hts (.instantiable RX9 6) (List.mem_of_getElem? (i := 81) (by decide +kernel)))
      exact ⟨(cC, iS), fun q hq => by cases hq; exact h⟩
    | 10 =>
      obtain ⟨cC, iS, h⟩ := u_known (C := RX10) (T := TX10) (N := 31) (n := 31) hts uwX10 (hts (.instantiable RX10 31) (List.mem_of_getElem? (i := 774) (by decide +kernel)))
      exact ⟨(cC, iS), fun q hq => by cases hq; exact h⟩
    | c + 11 => exact ⟨(0, fun _ => 0), fun q hq => by simp [vwCl] at hq⟩
  obtain ⟨f, hf⟩ := Classical.skolem.mp h
  exact ⟨(fun c => (f c).1, fun c => (f c).2), fun c q hq => hf c q hq⟩
theorem ty_0 {s : State} {args : Array Value} (hts : ∀ w ∈ lw_tbl, w.before args s = true) (h3 : va_AO "CordBay$Row" s) (h4 : va_AO "CordBay$State" s) (h5 : va_AO "CordBay$Unit" s) (h6 : lz_AA s) : ∃ dA : Nat → ClassId, ∀ (k : Nat) (q : ClassId × FieldType), (lz_tys dA)[k]? = some q → ArrOfT s q.1 q.2 ∧ va_RA s q.1 q.2 := by
  obtain ⟨a0, b0, c0⟩ := ar_p (hts (.arrayClass .int) (List.mem_of_getElem? (i := 116) (by decide +kernel)))
  obtain ⟨a1, b1, c1⟩ := ar_p (hts (.arrayClass .double) (List.mem_of_getElem? (i := 495) (by decide +kernel)))
  obtain ⟨a2, b2, c2⟩ := ar_p (hts (.arrayClass .boolean) (List.mem_of_getElem? (i := 117) (by decide +kernel)))
  obtain ⟨a3, b3⟩ := ar_q h3
  obtain ⟨a4, b4⟩ := ar_q h4
  obtain ⟨a5, b5⟩ := ar_q h5
  obtain ⟨a6, b6⟩ := ar_a h6
  refine ⟨fun k => match k with | 0 => a0 | 1 => a1 | 2 => a2 | 3 => a3 | 4 => a4 | 5 => a5 | _ => a6, fun k q hq => ?_⟩
  match k, hq with
  | 0, hq => cases hq; exact ⟨b0, c0⟩
  | 1, hq => cases hq; exact ⟨b1, c1⟩
  | 2, hq => cases hq; exact ⟨b2, c2⟩
  | 3, hq => cases hq; exact b3
  | 4, hq => cases hq; exact b4
  | 5, hq => cases hq; exact b5
  | 6, hq => cases hq; exact b6
  | k + 7, hq => simp [lz_tys] at hq
theorem K_0 {s : State} {args : Array Value} (hts : ∀ w ∈ lw_tbl, w.before args s = true) : ∃ (D : va_G) (dA : Nat → ClassId), lz_K D dA s := by
  have h3 : va_AO "CordBay$Row" s := va_AO.of (hts _ (List.mem_of_getElem? (i := 154) (by decide +kernel)))
  have h4 : va_AO "CordBay$State" s := va_AO.of (hts _ (List.mem_of_getElem? (i := 294) (by decide +kernel)))
  have h5 : va_AO "CordBay$Unit" s := va_AO.of (hts _ (List.mem_of_getElem? (i := 95) (by decide +kernel)))
  have h6 : lz_AA s := hts (.arrayOver (.array .int)) (List.mem_of_getElem? (i := 125) (by decide +kernel))
  have h7 : lz_NW s := by
    unfold lz_NW lz_nests
    exact List.forall_mem_cons.mpr ⟨va_Nw.of rfl (hts _ (List.mem_of_getElem? (i := 90) (by decide +kernel))), List.forall_mem_cons.mpr ⟨va_Nw.of rfl (hts _ (List.mem_of_getElem? (i := 149) (by decide +kernel))), List.forall_mem_cons.mpr ⟨va_Nw.of rfl (hts _ (List.mem_of_getElem? (i := 256) (by decide +kernel))), List.forall_mem_cons.mpr ⟨va_Nw.of rfl (hts _ (List.mem_of_getElem? (i := 531) (by decide +kernel))), fun _ h => absurd h List.not_mem_nil⟩⟩⟩⟩
  obtain ⟨D, hD⟩ := cl_0 hts
  obtain ⟨dA, hA⟩ := ty_0 hts h3 h4 h5 h6
  exact ⟨D, dA, ⟨hD, hA⟩, h3, h4, h5, h6, h7⟩
theorem nL_7 : lz_N RL 7 9 := ⟨by decide, (RX9, TX9, 6), rfl, rfl, fun w h => lz_tb2 (uwX9 w h) (ugX9 w h), tyX9_ok, lw_at 80 (by decide +kernel) rfl, lw_at 81 (by decide +kernel) rfl, lw_at 66 (by decide +kernel) rfl, by decide⟩
theorem nL_10 : lz_N RL 10 10 := ⟨by decide, (RX10, TX10, 31), rfl, rfl, fun w h => lz_tb2 (uwX10 w h) (ugX10 w h), tyX10_ok, lw_at 773 (by decide +kernel) rfl, lw_at 774 (by decide +kernel) rfl, lw_at 73 (by decide +kernel) rfl, by decide⟩
section YE
variable {sa L : Nat} {xs : Nat → Int32}
variable {p : Program} {l : Launch} {e : Env} {s : State} {m : MethodId} {args : Array Value} {below : List Frame} {meth : Method} {c : Code} {D : va_G} {dA : Nat → ClassId} {b : Nat} {T0 : lz_T} {ad0 : Nat → Nat} {Q : State → Prop} {kc ks : Nat} {T : lz_T} {A : lz_A} {B : lz_B} {R : lz_R} {ret : Option FieldType}
variable {Rm : Room} {nL : Nat} {y : MethodName} {cc : ByteArray} {pc : Nat} {lv : List (Nat × Value)} {rest : List Value}
theorem y_asmH (h : (∀ L, (T L).1 = 0 → A L = (fun _ => 0) ∧ B L = (fun _ => 0) ∧ R L = fun _ => none) → lz_Y sa p l e Rm s m args below meth c D dA b nL T0 ad0 Q kc ks T A B R pc lv rest) : lz_Y sa p l e Rm s m args below meth c D dA b nL T0 ad0 Q kc ks T A B R pc lv rest :=
  fun H locs la cells slots ad h1 h2 h3 h4 h5 h6 h7 h8 => h (by obtain ⟨Ls, hmem, hP, hD, hcl, hz⟩ := id h3; exact hz) H locs la cells slots ad h1 h2 h3 h4 h5 h6 h7 h8
theorem y_newW (C : lz_C p s m args meth c D dA b y cc nL ret) {M M' : xm} {ci index cl N : Nat} (F : lz_N y.cls index ci) (hcol : cl < 131072) (hM : nw M (1 + ci) 0 cl (lz_nF ci) = M') (hN : na M (1 + ci) 0 cl = N) (hc : mK M' ≤ Rm.cells) (hs : mS M' ≤ Rm.slots) (hdg : decode cc pc = .ok (.new index, 3)) (kk : lz_Y sa p l e Rm s m args below meth c D dA b nL T0 ad0 Q (mK M') (mS M') (xT M') (xA M') (mB M') (xR M') (pc + 3) lv (.ref N :: rest)) : lz_Y sa p l e Rm s m args below meth c D dA b nL T0 ad0 Q (mK M) (mS M) (xT M) (xA M) (mB M) (xR M) pc lv rest := by
  subst hM
  subst hN
  have hci : ci < 11 := F.1
  refine y_asmH (fun hz => ?_)
  obtain ⟨s1, s2, s3⟩ := xnw_same (M := M) (t := 1 + ci) (n := 0) (c := cl) (sl := lz_nF ci) (by omega) (by omega) hcol hz
  refine y_new C (na M (1 + ci) 0 cl) F (xT_na (by omega) (by omega) hcol) hc hs hdg ?_
  rw [s1, s2, s3, xT_nw (by omega) (by omega) (by omega) hcol] at kk
  exact kk
theorem z_rm : (mK z1 ≤ room_1.cells ∧ mS z1 ≤ room_1.slots) ∧ (mK z7 ≤ room_1.cells ∧ mS z7 ≤ room_1.slots) ∧ (mK z8 ≤ room_1.cells ∧ mS z8 ≤ room_1.slots) := by decide +kernel
theorem law_entry (C : lz_C p s m args meth c D dA b yL_law cL_law 8 ret) (kk : ∀ M, Rel M 0 → lz_Y sa p l e room_1 s m args below meth c D dA b 8 T0 ad0 Q (mK M) (mS M) (xT M) (xA M) (mB M) (xR M) 18 [(3, .int 0), (2, .ref aM), (1, .ref aX)] []) : lz_Y sa p l e room_1 s m args below meth c D dA b 8 T0 ad0 Q (mK Z0) (mS Z0) (xT Z0) (xA Z0) (mB Z0) (xR Z0) 0 [] [] := by
  refine y_newW (pc := 0) (M' := z1) (N := aX) (cl := 44031) C nL_7 (by decide) rfl za_1 z_rm.1.1 z_rm.1.2 dL_law_0 ?_
  refine y_dup (pc := 3) C dL_law_3 rfl ?_
  refine y_initW (pc := 4) (q := qX9_init) (M := z1) (N := aX) (idx := 9) (rest := [.ref aX]) C okX9_init rfl rfl (Nat.le_of_ble_eq_true rfl : 1 ≤ 1) t_init.1 (fun r M' hP => ⟨hP.1, by rw [hP.2]; exact z_rm.2.1.1, by rw [hP.2]; exact z_rm.2.1.2⟩) (fun rm Po e1 e2 hM h1 h2 k => y_callI (pc := 4) (As := []) (rest := [.ref aX]) C hM gL_9.1 gL_9.2 rfl rfl (by rw [e1, e2]; decide) (by decide) h1 h2 dL_law_4 k) (fun M' hP => ?_)
  rw [hP.2]
  refine y_astore_n (pc := 7) (lv' := [(1, .ref aX)]) C dL_law_7 (by decide) rfl rfl ?_
  refine y_newW (pc := 8) (M' := z8) (N := aM) (cl := 55295) C nL_10 (by decide) rfl za_8 z_rm.2.2.1 z_rm.2.2.2 dL_law_8 ?_
  refine y_dup (pc := 11) C dL_law_11 rfl ?_
  refine y_initW (pc := 12) (q := qX10_init) (M := z8) (N := aM) (idx := 12) (rest := [.ref aM]) C okX10_init rfl rfl (Nat.le_of_ble_eq_true rfl : 1 ≤ 1) t_init.2 (fun r M' hP => ⟨hP.1, rl_room hP.2 (by decide)⟩) (fun rm Po e1 e2 hM h1 h2 k => y_callI (pc := 12) (As := []) (rest := [.ref aM]) C hM gL_12.1 gL_12.2 rfl rfl (by rw [e1, e2]; decide) (by decide) h1 h2 dL_law_12 k) (fun M' hP => ?_)
  refine y_astore_n (pc := 15) (lv' := [(2, .ref aM), (1, .ref aX)]) C dL_law_15 (by decide) rfl rfl ?_
  refine y_iconst (pc := 16) (v := 0) C dL_law_16 (by decide) ?_
  refine y_istore_n (pc := 17) (lv' := [(3, .int 0), (2, .ref aM), (1, .ref aX)]) C dL_law_17 (by decide) rfl rfl ?_
  exact kk M' hP.2
end YE
