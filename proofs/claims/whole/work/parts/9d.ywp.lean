/-! 9d.ywp: a call of the law, out of a run of the small machine -/
section YW
variable {sa : Nat}
variable {p : Program} {l : Launch} {e : Env} {Rm : Room} {s : State} {m : MethodId} {args : Array Value} {below : List Frame} {meth : Method} {c : Code} {D : va_G} {dA : Nat → ClassId} {b nL : Nat} {T0 : lz_T} {ad0 : Nat → Nat} {Q : State → Prop} {kc ks : Nat} {T : lz_T} {A : lz_A} {B : lz_B} {R : lz_R} {y : MethodName} {cc : ByteArray} {ret : Option FieldType} {pc : Nat} {lv : List (Nat × Value)} {rest : List Value}
theorem y_callW (C : lz_C p s m args meth c D dA b y cc nL ret) {q : xq} {av : List xv} {M : xm} {Post : Option xv → xm → Prop} {N ci z idx na : Nat} {q1 : vw_C} (ok : xq_ok q) (hx : xval (vR N) = .ref N) (hn : (xfl (vR N :: av)).length ≤ xqn q) (hw : Wp q 0 (xloc (vR N :: av) (xqn q)) [] M Post) (hq1 : vwCl[ci]? = some q1) (hci : ci < 11)
    (G : lz_CB y.cls idx (xqy q) (xqc q) (xqn q) (xqr q) na) (G1 : Cond.instanceMethod (xqy q) ∈ lw_tb2) (G2 : Cond.selects q1.1 (xqy q) (xqy q) ∈ lw_tb2) (hT : xT M N = (1 + ci, z)) (hna : av.length = na) (hR : xqF q + 1 ≤ Rm.frames ∧ 8 + (xqn q + 11) + xqW q ≤ Rm.locals) (hW : (rest.map fun v => v.category).sum ≤ 8) (hroom : ∀ r M', Post r M' → mK M' ≤ Rm.cells ∧ mS M' ≤ Rm.slots) (hdg : decode cc pc = .ok (.invokevirtual idx, 3))
    (kk : ∀ (r : Option xv) (M' : xm), Post r M' → lz_Y sa p l e Rm s m args below meth c D dA b nL T0 ad0 Q (mK M') (mS M') (xT M') (xA M') (mB M') (xR M') (pc + 3) lv ((r.map xval).toList ++ rest)) :
    lz_Y sa p l e Rm s m args below meth c D dA b nL T0 ad0 Q (mK M) (mS M) (xT M) (xA M) (mB M) (xR M) pc lv ((av.map xval).reverse ++ .ref N :: rest) := by
  obtain ⟨r, M', hP, ⟨k1, k2⟩, hM⟩ := Wp_met ok hn hw
  rw [List.map_cons, hx] at hM
  obtain ⟨c1, c2⟩ := hroom r M' hP
  refine y_callV C hq1 hci hM G G1 G2 hT (by rw [List.length_map]; exact hna) hR hW (by show mK M + (mK M' - mK M) ≤ _; omega) (by show mS M + (mS M' - mS M) ≤ _; omega) hdg (fun r1 T1 A1 B1 R1 hq => ?_)
  obtain ⟨e1, e2, e3, e4, e5⟩ := hq
  have g := kk r M' hP
  rw [e1, e2, e3, e4, e5]
  have f1 : mK M + (mK M' - mK M) = mK M' := by omega
  have f2 : mS M + (mS M' - mS M) = mS M' := by omega
  show lz_Y sa p l e Rm s m args below meth c D dA b nL T0 ad0 Q (mK M + (mK M' - mK M)) (mS M + (mS M' - mS M)) _ _ _ _ _ lv _
  rw [f1, f2]
  exact g
theorem y_initW (C : lz_C p s m args meth c D dA b y cc nL ret) {q : xq} {M : xm} {Post : Option xv → xm → Prop} {N idx : Nat} (ok : xq_ok q) (hx : xval (vR N) = .ref N) (hr : xqr q = none) (hn : (xfl [vR N]).length ≤ xqn q) (hw : Wp q 0 (xloc [vR N] (xqn q)) [] M Post)
    (hroom : ∀ r M', Post r M' → r = none ∧ mK M' ≤ Rm.cells ∧ mS M' ≤ Rm.slots)
    (hcall : ∀ (rm : Room) (Po : Option Value → lz_T → lz_A → lz_B → lz_R → Prop), rm.frames = xqF q → rm.locals = xqW q → lz_M (xqy q) (xqc q) (xqn q) none rm [.ref N] (xT M) (xA M) (mB M) (xR M) Po → mK M + rm.cells ≤ Rm.cells → mS M + rm.slots ≤ Rm.slots → (∀ (r1 : Option Value) (T1 : lz_T) (A1 : lz_A) (B1 : lz_B) (R1 : lz_R), Po r1 T1 A1 B1 R1 → lz_Y sa p l e Rm s m args below meth c D dA b nL T0 ad0 Q (mK M + rm.cells) (mS M + rm.slots) T1 A1 B1 R1 (pc + 3) lv (r1.toList ++ rest)) → lz_Y sa p l e Rm s m args below meth c D dA b nL T0 ad0 Q (mK M) (mS M) (xT M) (xA M) (mB M) (xR M) pc lv (.ref N :: rest))
    (kk : ∀ (M' : xm), Post none M' → lz_Y sa p l e Rm s m args below meth c D dA b nL T0 ad0 Q (mK M') (mS M') (xT M') (xA M') (mB M') (xR M') (pc + 3) lv rest) :
    lz_Y sa p l e Rm s m args below meth c D dA b nL T0 ad0 Q (mK M) (mS M) (xT M) (xA M) (mB M) (xR M) pc lv (.ref N :: rest) := by
  obtain ⟨r, M', hP, ⟨k1, k2⟩, hM⟩ := Wp_met ok hn hw
  obtain ⟨e0, c1, c2⟩ := hroom r M' hP
  subst e0
  rw [List.map_cons, hx, hr] at hM
  refine hcall _ _ rfl rfl hM (by show mK M + (mK M' - mK M) ≤ _; omega) (by show mS M + (mS M' - mS M) ≤ _; omega) (fun r1 T1 A1 B1 R1 hq => ?_)
  obtain ⟨e1, e2, e3, e4, e5⟩ := hq
  have g := kk M' hP
  rw [e1, e2, e3, e4, e5]
  have f1 : mK M + (mK M' - mK M) = mK M' := by omega
  have f2 : mS M + (mS M' - mS M) = mS M' := by omega
  show lz_Y sa p l e Rm s m args below meth c D dA b nL T0 ad0 Q (mK M + (mK M' - mK M)) (mS M + (mS M' - mS M)) _ _ _ _ _ lv _
  rw [f1, f2]
  exact g
end YW
