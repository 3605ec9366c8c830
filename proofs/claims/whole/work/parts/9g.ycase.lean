/-! 9g.ycase: the law's cases (written by wip/whole/gen9g.py) -/
theorem two_room {q : xq} {av : List xv} {c : Int} {r : Option xv} {M1 : xm} (ok : xq_ok q) (hn : (xfl av).length ≤ xqn q) (hc : c ≤ 599) (h : Two c q (xloc av (xqn q)) r M1) : mK M1 ≤ room_1.cells ∧ mS M1 ≤ room_1.slots := by
  obtain ⟨v, _, hw⟩ := h
  obtain ⟨r', M2, ⟨_, hr⟩, ⟨k1, k2⟩, _⟩ := Wp_met ok hn hw
  have g := rl_room hr (by omega)
  exact ⟨Nat.le_trans k1 g.1, Nat.le_trans k2 g.2⟩
theorem twoD_room {q : xq} {av : List xv} {c : Int} {r : Option xv} {M1 : xm} (ok : xq_ok q) (hn : (xfl av).length ≤ xqn q) (hc : c ≤ 599) (h : TwoD c q (xloc av (xqn q)) r M1) : mK M1 ≤ room_1.cells ∧ mS M1 ≤ room_1.slots := by
  obtain ⟨v, _, _, hw⟩ := h
  obtain ⟨r', M2, ⟨_, hr⟩, ⟨k1, k2⟩, _⟩ := Wp_met ok hn hw
  have g := rl_room hr (by omega)
  exact ⟨Nat.le_trans k1 g.1, Nat.le_trans k2 g.2⟩
theorem dc_same {v : UInt64} (h : isNaN64 v = false) : Op.cmpValue (FP.dcmp v v) .l = 0 := by
  rw [show FP.dcmp v v = some .eq from Jvm.FP.Core.dcmp_self ((nan_d v).mp h)]
  rfl
theorem lz_lvY_tail {sa : Nat} {ad : Nat → Nat} {la : Array Slot} {nL : Nat} {a : Nat × Value} {lv : List (Nat × Value)} (h : lv_has la nL (lz_lvY sa ad (a :: lv))) : lv_has la nL (lz_lvY sa ad lv) := by
  refine ⟨h.1, h.2.1, fun q hq => h.2.2 q ?_⟩
  rcases List.mem_cons.mp hq with h1 | h1
  · exact List.mem_cons.mpr (Or.inl h1)
  · exact List.mem_cons_of_mem _ (List.mem_cons_of_mem _ h1)
section YM
variable {sa L : Nat} {xs : Nat → Int32}
variable {p : Program} {l : Launch} {e : Env} {s : State} {m : MethodId} {args : Array Value} {below : List Frame} {meth : Method} {c : Code} {D : va_G} {dA : Nat → ClassId} {b : Nat} {T0 : lz_T} {ad0 : Nat → Nat} {Q : State → Prop} {kc ks : Nat} {T : lz_T} {A : lz_A} {B : lz_B} {R : lz_R} {ret : Option FieldType} 
variable {Rm : Room} {nL : Nat} {y : MethodName} {cc : ByteArray} {pc : Nat} {lv : List (Nat × Value)} {rest : List Value}
theorem y_sx (C : lz_C p s m args meth c D dA b y cc nL ret) (S : lw_S sa L xs s b) {i v : Int32} {n : Int} {x : Int32} (j : Nat) (hl : lv[j]? = some (3, .int i)) (hv : Int32.ofInt n = v) (hin : vp_in (i + v) L) (hx : xs (i + v).toNatClampNeg = x) (d0 : decode cc pc = .ok (.aload_n 0, 1)) (d1 : decode cc (pc + 1) = .ok (.iload_n 3, 1)) (d2 : decode cc (pc + 1 + 1) = .ok (.iconst n, 1)) (d3 : decode cc (pc + 1 + 1 + 1) = .ok (.iadd, 1)) (d4 : decode cc (pc + 1 + 1 + 1 + 1) = .ok (.iaload, 1)) (kk : lz_Y sa p l e Rm s m args below meth c D dA b nL T0 ad0 Q kc ks T A B R (pc + 1 + 1 + 1 + 1 + 1) lv (.int x :: rest)) : lz_Y sa p l e Rm s m args below meth c D dA b nL T0 ad0 Q kc ks T A B R pc lv rest :=
  y_sk C S j hl hv hin d0 d1 d2 d3 d4 (by rw [hx]; exact kk)
theorem y_drop {a : Nat × Value} (kk : lz_Y sa p l e Rm s m args below meth c D dA b nL T0 ad0 Q kc ks T A B R pc lv rest) : lz_Y sa p l e Rm s m args below meth c D dA b nL T0 ad0 Q kc ks T A B R pc (a :: lv) rest :=
  fun H locs la cells slots ad h1 h2 h3 h4 h5 h6 h7 h8 => kk H locs la cells slots ad h1 h2 h3 h4 h5 (lz_lvY_tail h6) (fun x hx => h7 x (List.mem_cons_of_mem _ hx)) h8
end YM
section YM
variable {sa L : Nat} {xs : Nat → Int32}
variable {p : Program} {l : Launch} {e : Env} {s : State} {m : MethodId} {args : Array Value} {below : List Frame} {meth : Method} {c : Code} {D : va_G} {dA : Nat → ClassId} {b : Nat} {T0 : lz_T} {ad0 : Nat → Nat} {Q : State → Prop} {kc ks : Nat} {T : lz_T} {A : lz_A} {B : lz_B} {R : lz_R} {ret : Option FieldType} 
theorem k_module (C : lz_C p s m args meth c D dA b yL_law cL_law 8 ret) (S : lw_S sa L xs s b) {M : xm} {n : Int} (h : Rel M n) (hn : 0 ≤ n ∧ n ≤ 512) {i : Int32} (i1 : vp_in (i + 1) L) (i2 : vp_in (i + 2) L) (kk : ∀ M', Rel M' (n + 1) → lz_Y sa p l e room_1 s m args below meth c D dA b 8 T0 ad0 Q (mK M') (mS M') (xT M') (xA M') (mB M') (xR M') 719 [(3, .int i), (2, .ref aM), (1, .ref aX)] []) : lz_Y sa p l e room_1 s m args below meth c D dA b 8 T0 ad0 Q (mK M) (mS M) (xT M) (xA M) (mB M) (xR M) 124 [(3, .int i), (2, .ref aM), (1, .ref aX)] [] := by
  obtain ⟨x1, e1⟩ : ∃ x, xs (i + 1).toNatClampNeg = x := ⟨_, rfl⟩
  obtain ⟨x2, e2⟩ : ∃ x, xs (i + 2).toNatClampNeg = x := ⟨_, rfl⟩
  refine y_asm (fun hal => ?_)
  refine y_aload_n C 2 dL_law_124 rfl ?_
  refine y_sx (pc := 125) (n := 1) (v := 1) (x := x1) C S 0 rfl (by decide) i1 e1 dL_law_125 dL_law_126 dL_law_127 dL_law_128 dL_law_129 ?_
  refine y_sx (pc := 130) (n := 2) (v := 2) (x := x2) C S 0 rfl (by decide) i2 e2 dL_law_130 dL_law_131 dL_law_132 dL_law_133 dL_law_134 ?_
  have hw := t_module h x1.toInt x2.toInt (i32_b x1) (i32_b x2)
  have g := y_callW (rest := []) (lv := [(3, .int i), (2, .ref aM), (1, .ref aX)]) (pc := 135) (T0 := T0) (ad0 := ad0) (Q := Q) (sa := sa) (l := l) (e := e) (below := below) C (av := [vI x1.toInt, vI x2.toInt]) (N := aX) (ci := 9) (idx := 13) (na := 2) (z := 0) (Rm := room_1) okX9_module rfl (Nat.le_of_ble_eq_true rfl : 3 ≤ 3) hw rfl (by decide) gL_13.1 gL_13.2.1 gL_13.2.2 (al_X hal).1 rfl (by decide) (by decide) (fun r M1 hP => ?_) dL_law_135 (fun r M1 hP => ?_)
  · simp only [List.map_cons, List.map_nil, i32] at g
    exact g
  · exact two_room (av := [vR aM, vI x1.toInt, vI x2.toInt]) okX10_module (Nat.le_of_ble_eq_true rfl : 3 ≤ 3) (by omega) hP
  · obtain ⟨v, e0, hw2⟩ := hP
    subst e0
    show lz_Y sa p l e room_1 s m args below meth c D dA b 8 T0 ad0 Q (mK M1) (mS M1) (xT M1) (xA M1) (mB M1) (xR M1) 138 [(3, .int i), (2, .ref aM), (1, .ref aX)] [xval (vI v)]
    clear h hw hal
    refine y_asm (fun hal => ?_)
    refine y_aload_n C 1 dL_law_138 rfl ?_
    refine y_sx (pc := 139) (n := 1) (v := 1) (x := x1) C S 0 rfl (by decide) i1 e1 dL_law_139 dL_law_140 dL_law_141 dL_law_142 dL_law_143 ?_
    refine y_sx (pc := 144) (n := 2) (v := 2) (x := x2) C S 0 rfl (by decide) i2 e2 dL_law_144 dL_law_145 dL_law_146 dL_law_147 dL_law_148 ?_
    have g := y_callW (rest := [xval (vI v)]) (lv := [(3, .int i), (2, .ref aM), (1, .ref aX)]) (pc := 149) (T0 := T0) (ad0 := ad0) (Q := Q) (sa := sa) (l := l) (e := e) (below := below) C (av := [vI x1.toInt, vI x2.toInt]) (N := aM) (ci := 10) (idx := 17) (na := 2) (z := 0) (Rm := room_1) okX10_module rfl (Nat.le_of_ble_eq_true rfl : 3 ≤ 3) hw2 rfl (by decide) gL_17.1 gL_17.2.1 gL_17.2.2 (al_X hal).2 rfl (by decide) (Nat.le_of_ble_eq_true rfl : 1 ≤ 8) (fun r M2 hP => ?_) dL_law_149 (fun r M2 hP => ?_)
    · simp only [List.map_cons, List.map_nil, i32] at g
      exact g
    · exact rl_room hP.2 (by omega)
    · obtain ⟨e0, hr⟩ := hP
      subst e0
      exact y_icmp_eq (pc := 152) (x := Int32.ofInt v) (y1 := Int32.ofInt v) C 719 dL_law_152 (by decide) (fun _ => kk M2 hr) (fun hh => absurd rfl hh)
theorem k_cord (C : lz_C p s m args meth c D dA b yL_law cL_law 8 ret) (S : lw_S sa L xs s b) {M : xm} {n : Int} (h : Rel M n) (hn : 0 ≤ n ∧ n ≤ 512) {i : Int32} (i1 : vp_in (i + 1) L) (i2 : vp_in (i + 2) L) (i3 : vp_in (i + 3) L) (kk : ∀ M', Rel M' (n + 1) → lz_Y sa p l e room_1 s m args below meth c D dA b 8 T0 ad0 Q (mK M') (mS M') (xT M') (xA M') (mB M') (xR M') 719 [(3, .int i), (2, .ref aM), (1, .ref aX)] []) : lz_Y sa p l e room_1 s m args below meth c D dA b 8 T0 ad0 Q (mK M) (mS M) (xT M) (xA M) (mB M) (xR M) 157 [(3, .int i), (2, .ref aM), (1, .ref aX)] [] := by
  obtain ⟨x1, e1⟩ : ∃ x, xs (i + 1).toNatClampNeg = x := ⟨_, rfl⟩
  obtain ⟨x2, e2⟩ : ∃ x, xs (i + 2).toNatClampNeg = x := ⟨_, rfl⟩
  obtain ⟨x3, e3⟩ : ∃ x, xs (i + 3).toNatClampNeg = x := ⟨_, rfl⟩
  refine y_asm (fun hal => ?_)
  refine y_aload_n C 2 dL_law_157 rfl ?_
  refine y_sx (pc := 158) (n := 1) (v := 1) (x := x1) C S 0 rfl (by decide) i1 e1 dL_law_158 dL_law_159 dL_law_160 dL_law_161 dL_law_162 ?_
  refine y_sx (pc := 163) (n := 2) (v := 2) (x := x2) C S 0 rfl (by decide) i2 e2 dL_law_163 dL_law_164 dL_law_165 dL_law_166 dL_law_167 ?_
  refine y_sx (pc := 168) (n := 3) (v := 3) (x := x3) C S 0 rfl (by decide) i3 e3 dL_law_168 dL_law_169 dL_law_170 dL_law_171 dL_law_172 ?_
  have hw := t_cord h x1.toInt x2.toInt x3.toInt (i32_b x1) (i32_b x2) (i32_b x3)
  have g := y_callW (rest := []) (lv := [(3, .int i), (2, .ref aM), (1, .ref aX)]) (pc := 173) (T0 := T0) (ad0 := ad0) (Q := Q) (sa := sa) (l := l) (e := e) (below := below) C (av := [vI x1.toInt, vI x2.toInt, vI x3.toInt]) (N := aX) (ci := 9) (idx := 18) (na := 3) (z := 0) (Rm := room_1) okX9_cord rfl (Nat.le_of_ble_eq_true rfl : 4 ≤ 6) hw rfl (by decide) gL_18.1 gL_18.2.1 gL_18.2.2 (al_X hal).1 rfl (by decide) (by decide) (fun r M1 hP => ?_) dL_law_173 (fun r M1 hP => ?_)
  · simp only [List.map_cons, List.map_nil, i32] at g
    exact g
  · exact two_room (av := [vR aM, vI x1.toInt, vI x2.toInt, vI x3.toInt]) okX10_cord (Nat.le_of_ble_eq_true rfl : 4 ≤ 5) (by omega) hP
  · obtain ⟨v, e0, hw2⟩ := hP
    subst e0
    show lz_Y sa p l e room_1 s m args below meth c D dA b 8 T0 ad0 Q (mK M1) (mS M1) (xT M1) (xA M1) (mB M1) (xR M1) 176 [(3, .int i), (2, .ref aM), (1, .ref aX)] [xval (vI v)]
    clear h hw hal
    refine y_asm (fun hal => ?_)
    refine y_aload_n C 1 dL_law_176 rfl ?_
    refine y_sx (pc := 177) (n := 1) (v := 1) (x := x1) C S 0 rfl (by decide) i1 e1 dL_law_177 dL_law_178 dL_law_179 dL_law_180 dL_law_181 ?_
    refine y_sx (pc := 182) (n := 2) (v := 2) (x := x2) C S 0 rfl (by decide) i2 e2 dL_law_182 dL_law_183 dL_law_184 dL_law_185 dL_law_186 ?_
    refine y_sx (pc := 187) (n := 3) (v := 3) (x := x3) C S 0 rfl (by decide) i3 e3 dL_law_187 dL_law_188 dL_law_189 dL_law_190 dL_law_191 ?_
    have g := y_callW (rest := [xval (vI v)]) (lv := [(3, .int i), (2, .ref aM), (1, .ref aX)]) (pc := 192) (T0 := T0) (ad0 := ad0) (Q := Q) (sa := sa) (l := l) (e := e) (below := below) C (av := [vI x1.toInt, vI x2.toInt, vI x3.toInt]) (N := aM) (ci := 10) (idx := 22) (na := 3) (z := 0) (Rm := room_1) okX10_cord rfl (Nat.le_of_ble_eq_true rfl : 4 ≤ 5) hw2 rfl (by decide) gL_22.1 gL_22.2.1 gL_22.2.2 (al_X hal).2 rfl (by decide) (Nat.le_of_ble_eq_true rfl : 1 ≤ 8) (fun r M2 hP => ?_) dL_law_192 (fun r M2 hP => ?_)
    · simp only [List.map_cons, List.map_nil, i32] at g
      exact g
    · exact rl_room hP.2 (by omega)
    · obtain ⟨e0, hr⟩ := hP
      subst e0
      exact y_icmp_eq (pc := 195) (x := Int32.ofInt v) (y1 := Int32.ofInt v) C 719 dL_law_195 (by decide) (fun _ => kk M2 hr) (fun hh => absurd rfl hh)
theorem k_from (C : lz_C p s m args meth c D dA b yL_law cL_law 8 ret) (S : lw_S sa L xs s b) {M : xm} {n : Int} (h : Rel M n) (hn : 0 ≤ n ∧ n ≤ 512) {i : Int32} (i1 : vp_in (i + 1) L) (i2 : vp_in (i + 2) L) (kk : ∀ M', Rel M' (n + 1) → lz_Y sa p l e room_1 s m args below meth c D dA b 8 T0 ad0 Q (mK M') (mS M') (xT M') (xA M') (mB M') (xR M') 719 [(3, .int i), (2, .ref aM), (1, .ref aX)] []) : lz_Y sa p l e room_1 s m args below meth c D dA b 8 T0 ad0 Q (mK M) (mS M) (xT M) (xA M) (mB M) (xR M) 200 [(3, .int i), (2, .ref aM), (1, .ref aX)] [] := by
  obtain ⟨x1, e1⟩ : ∃ x, xs (i + 1).toNatClampNeg = x := ⟨_, rfl⟩
  obtain ⟨x2, e2⟩ : ∃ x, xs (i + 2).toNatClampNeg = x := ⟨_, rfl⟩
  refine y_asm (fun hal => ?_)
  refine y_aload_n C 2 dL_law_200 rfl ?_
  refine y_sx (pc := 201) (n := 1) (v := 1) (x := x1) C S 0 rfl (by decide) i1 e1 dL_law_201 dL_law_202 dL_law_203 dL_law_204 dL_law_205 ?_
  refine y_sx (pc := 206) (n := 2) (v := 2) (x := x2) C S 0 rfl (by decide) i2 e2 dL_law_206 dL_law_207 dL_law_208 dL_law_209 dL_law_210 ?_
  have hw := t_from h x1.toInt x2.toInt (i32_b x1) (i32_b x2)
  have g := y_callW (rest := []) (lv := [(3, .int i), (2, .ref aM), (1, .ref aX)]) (pc := 211) (T0 := T0) (ad0 := ad0) (Q := Q) (sa := sa) (l := l) (e := e) (below := below) C (av := [vI x1.toInt, vI x2.toInt]) (N := aX) (ci := 9) (idx := 23) (na := 2) (z := 0) (Rm := room_1) okX9_from rfl (Nat.le_of_ble_eq_true rfl : 3 ≤ 4) hw rfl (by decide) gL_23.1 gL_23.2.1 gL_23.2.2 (al_X hal).1 rfl (by decide) (by decide) (fun r M1 hP => ?_) dL_law_211 (fun r M1 hP => ?_)
  · simp only [List.map_cons, List.map_nil, i32] at g
    exact g
  · exact two_room (av := [vR aM, vI x1.toInt, vI x2.toInt]) okX10_from (Nat.le_of_ble_eq_true rfl : 3 ≤ 3) (by omega) hP
  · obtain ⟨v, e0, hw2⟩ := hP
    subst e0
    show lz_Y sa p l e room_1 s m args below meth c D dA b 8 T0 ad0 Q (mK M1) (mS M1) (xT M1) (xA M1) (mB M1) (xR M1) 214 [(3, .int i), (2, .ref aM), (1, .ref aX)] [xval (vI v)]
    clear h hw hal
    refine y_asm (fun hal => ?_)
    refine y_aload_n C 1 dL_law_214 rfl ?_
    refine y_sx (pc := 215) (n := 1) (v := 1) (x := x1) C S 0 rfl (by decide) i1 e1 dL_law_215 dL_law_216 dL_law_217 dL_law_218 dL_law_219 ?_
    refine y_sx (pc := 220) (n := 2) (v := 2) (x := x2) C S 0 rfl (by decide) i2 e2 dL_law_220 dL_law_221 dL_law_222 dL_law_223 dL_law_224 ?_
    have g := y_callW (rest := [xval (vI v)]) (lv := [(3, .int i), (2, .ref aM), (1, .ref aX)]) (pc := 225) (T0 := T0) (ad0 := ad0) (Q := Q) (sa := sa) (l := l) (e := e) (below := below) C (av := [vI x1.toInt, vI x2.toInt]) (N := aM) (ci := 10) (idx := 26) (na := 2) (z := 0) (Rm := room_1) okX10_from rfl (Nat.le_of_ble_eq_true rfl : 3 ≤ 3) hw2 rfl (by decide) gL_26.1 gL_26.2.1 gL_26.2.2 (al_X hal).2 rfl (by decide) (Nat.le_of_ble_eq_true rfl : 1 ≤ 8) (fun r M2 hP => ?_) dL_law_225 (fun r M2 hP => ?_)
    · simp only [List.map_cons, List.map_nil, i32] at g
      exact g
    · exact rl_room hP.2 (by omega)
    · obtain ⟨e0, hr⟩ := hP
      subst e0
      exact y_icmp_eq (pc := 228) (x := Int32.ofInt v) (y1 := Int32.ofInt v) C 719 dL_law_228 (by decide) (fun _ => kk M2 hr) (fun hh => absurd rfl hh)
theorem k_knob (C : lz_C p s m args meth c D dA b yL_law cL_law 8 ret) (S : lw_S sa L xs s b) {M : xm} {n : Int} (h : Rel M n) (hn : 0 ≤ n ∧ n ≤ 512) {i : Int32} (i1 : vp_in (i + 1) L) (i2 : vp_in (i + 2) L) (i3 : vp_in (i + 3) L) (kk : ∀ M', Rel M' (n + 1) → lz_Y sa p l e room_1 s m args below meth c D dA b 8 T0 ad0 Q (mK M') (mS M') (xT M') (xA M') (mB M') (xR M') 719 [(3, .int i), (2, .ref aM), (1, .ref aX)] []) : lz_Y sa p l e room_1 s m args below meth c D dA b 8 T0 ad0 Q (mK M) (mS M) (xT M) (xA M) (mB M) (xR M) 233 [(3, .int i), (2, .ref aM), (1, .ref aX)] [] := by
  obtain ⟨x1, e1⟩ : ∃ x, xs (i + 1).toNatClampNeg = x := ⟨_, rfl⟩
  obtain ⟨x2, e2⟩ : ∃ x, xs (i + 2).toNatClampNeg = x := ⟨_, rfl⟩
  obtain ⟨x3, e3⟩ : ∃ x, xs (i + 3).toNatClampNeg = x := ⟨_, rfl⟩
  refine y_asm (fun hal => ?_)
  refine y_aload_n C 2 dL_law_233 rfl ?_
  refine y_sx (pc := 234) (n := 1) (v := 1) (x := x1) C S 0 rfl (by decide) i1 e1 dL_law_234 dL_law_235 dL_law_236 dL_law_237 dL_law_238 ?_
  refine y_sx (pc := 239) (n := 2) (v := 2) (x := x2) C S 0 rfl (by decide) i2 e2 dL_law_239 dL_law_240 dL_law_241 dL_law_242 dL_law_243 ?_
  refine y_sx (pc := 244) (n := 3) (v := 3) (x := x3) C S 0 rfl (by decide) i3 e3 dL_law_244 dL_law_245 dL_law_246 dL_law_247 dL_law_248 ?_
  have hw := t_knob h x1.toInt x2.toInt x3.toInt (i32_b x1) (i32_b x2) (i32_b x3)
  have g := y_callW (rest := []) (lv := [(3, .int i), (2, .ref aM), (1, .ref aX)]) (pc := 249) (T0 := T0) (ad0 := ad0) (Q := Q) (sa := sa) (l := l) (e := e) (below := below) C (av := [vI x1.toInt, vI x2.toInt, vI x3.toInt]) (N := aX) (ci := 9) (idx := 27) (na := 3) (z := 0) (Rm := room_1) okX9_knob rfl (Nat.le_of_ble_eq_true rfl : 4 ≤ 6) hw rfl (by decide) gL_27.1 gL_27.2.1 gL_27.2.2 (al_X hal).1 rfl (by decide) (by decide) (fun r M1 hP => ?_) dL_law_249 (fun r M1 hP => ?_)
  · simp only [List.map_cons, List.map_nil, i32] at g
    exact g
  · exact two_room (av := [vR aM, vI x1.toInt, vI x2.toInt, vI x3.toInt]) okX10_knob (Nat.le_of_ble_eq_true rfl : 4 ≤ 5) (by omega) hP
  · obtain ⟨v, e0, hw2⟩ := hP
    subst e0
    show lz_Y sa p l e room_1 s m args below meth c D dA b 8 T0 ad0 Q (mK M1) (mS M1) (xT M1) (xA M1) (mB M1) (xR M1) 252 [(3, .int i), (2, .ref aM), (1, .ref aX)] [xval (vI v)]
    clear h hw hal
    refine y_asm (fun hal => ?_)
    refine y_aload_n C 1 dL_law_252 rfl ?_
    refine y_sx (pc := 253) (n := 1) (v := 1) (x := x1) C S 0 rfl (by decide) i1 e1 dL_law_253 dL_law_254 dL_law_255 dL_law_256 dL_law_257 ?_
    refine y_sx (pc := 258) (n := 2) (v := 2) (x := x2) C S 0 rfl (by decide) i2 e2 dL_law_258 dL_law_259 dL_law_260 dL_law_261 dL_law_262 ?_
    refine y_sx (pc := 263) (n := 3) (v := 3) (x := x3) C S 0 rfl (by decide) i3 e3 dL_law_263 dL_law_264 dL_law_265 dL_law_266 dL_law_267 ?_
    have g := y_callW (rest := [xval (vI v)]) (lv := [(3, .int i), (2, .ref aM), (1, .ref aX)]) (pc := 268) (T0 := T0) (ad0 := ad0) (Q := Q) (sa := sa) (l := l) (e := e) (below := below) C (av := [vI x1.toInt, vI x2.toInt, vI x3.toInt]) (N := aM) (ci := 10) (idx := 30) (na := 3) (z := 0) (Rm := room_1) okX10_knob rfl (Nat.le_of_ble_eq_true rfl : 4 ≤ 5) hw2 rfl (by decide) gL_30.1 gL_30.2.1 gL_30.2.2 (al_X hal).2 rfl (by decide) (Nat.le_of_ble_eq_true rfl : 1 ≤ 8) (fun r M2 hP => ?_) dL_law_268 (fun r M2 hP => ?_)
    · simp only [List.map_cons, List.map_nil, i32] at g
      exact g
    · exact rl_room hP.2 (by omega)
    · obtain ⟨e0, hr⟩ := hP
      subst e0
      exact y_icmp_eq (pc := 271) (x := Int32.ofInt v) (y1 := Int32.ofInt v) C 719 dL_law_271 (by decide) (fun _ => kk M2 hr) (fun hh => absurd rfl hh)
theorem k_table (C : lz_C p s m args meth c D dA b yL_law cL_law 8 ret) (S : lw_S sa L xs s b) {M : xm} {n : Int} (h : Rel M n) (hn : 0 ≤ n ∧ n ≤ 512) {i : Int32} (i1 : vp_in (i + 1) L) (i2 : vp_in (i + 2) L) (kk : ∀ M', Rel M' (n + 1) → lz_Y sa p l e room_1 s m args below meth c D dA b 8 T0 ad0 Q (mK M') (mS M') (xT M') (xA M') (mB M') (xR M') 719 [(3, .int i), (2, .ref aM), (1, .ref aX)] []) : lz_Y sa p l e room_1 s m args below meth c D dA b 8 T0 ad0 Q (mK M) (mS M) (xT M) (xA M) (mB M) (xR M) 276 [(3, .int i), (2, .ref aM), (1, .ref aX)] [] := by
  obtain ⟨x1, e1⟩ : ∃ x, xs (i + 1).toNatClampNeg = x := ⟨_, rfl⟩
  obtain ⟨x2, e2⟩ : ∃ x, xs (i + 2).toNatClampNeg = x := ⟨_, rfl⟩
  refine y_asm (fun hal => ?_)
  refine y_aload_n C 2 dL_law_276 rfl ?_
  refine y_sx (pc := 277) (n := 1) (v := 1) (x := x1) C S 0 rfl (by decide) i1 e1 dL_law_277 dL_law_278 dL_law_279 dL_law_280 dL_law_281 ?_
  refine y_sx (pc := 282) (n := 2) (v := 2) (x := x2) C S 0 rfl (by decide) i2 e2 dL_law_282 dL_law_283 dL_law_284 dL_law_285 dL_law_286 ?_
  have hw := t_table h x1.toInt x2.toInt (i32_b x1) (i32_b x2)
  have g := y_callW (rest := []) (lv := [(3, .int i), (2, .ref aM), (1, .ref aX)]) (pc := 287) (T0 := T0) (ad0 := ad0) (Q := Q) (sa := sa) (l := l) (e := e) (below := below) C (av := [vI x1.toInt, vI x2.toInt]) (N := aX) (ci := 9) (idx := 31) (na := 2) (z := 0) (Rm := room_1) okX9_table rfl (Nat.le_of_ble_eq_true rfl : 3 ≤ 3) hw rfl (by decide) gL_31.1 gL_31.2.1 gL_31.2.2 (al_X hal).1 rfl (by decide) (by decide) (fun r M1 hP => ?_) dL_law_287 (fun r M1 hP => ?_)
  · simp only [List.map_cons, List.map_nil, i32] at g
    exact g
  · exact two_room (av := [vR aM, vI x1.toInt, vI x2.toInt]) okX10_table (Nat.le_of_ble_eq_true rfl : 3 ≤ 4) (by omega) hP
  · obtain ⟨v, e0, hw2⟩ := hP
    subst e0
    show lz_Y sa p l e room_1 s m args below meth c D dA b 8 T0 ad0 Q (mK M1) (mS M1) (xT M1) (xA M1) (mB M1) (xR M1) 290 [(3, .int i), (2, .ref aM), (1, .ref aX)] [xval (vI v)]
    clear h hw hal
    refine y_asm (fun hal => ?_)
    refine y_aload_n C 1 dL_law_290 rfl ?_
    refine y_sx (pc := 291) (n := 1) (v := 1) (x := x1) C S 0 rfl (by decide) i1 e1 dL_law_291 dL_law_292 dL_law_293 dL_law_294 dL_law_295 ?_
    refine y_sx (pc := 296) (n := 2) (v := 2) (x := x2) C S 0 rfl (by decide) i2 e2 dL_law_296 dL_law_297 dL_law_298 dL_law_299 dL_law_300 ?_
    have g := y_callW (rest := [xval (vI v)]) (lv := [(3, .int i), (2, .ref aM), (1, .ref aX)]) (pc := 301) (T0 := T0) (ad0 := ad0) (Q := Q) (sa := sa) (l := l) (e := e) (below := below) C (av := [vI x1.toInt, vI x2.toInt]) (N := aM) (ci := 10) (idx := 34) (na := 2) (z := 0) (Rm := room_1) okX10_table rfl (Nat.le_of_ble_eq_true rfl : 3 ≤ 4) hw2 rfl (by decide) gL_34.1 gL_34.2.1 gL_34.2.2 (al_X hal).2 rfl (by decide) (Nat.le_of_ble_eq_true rfl : 1 ≤ 8) (fun r M2 hP => ?_) dL_law_301 (fun r M2 hP => ?_)
    · simp only [List.map_cons, List.map_nil, i32] at g
      exact g
    · exact rl_room hP.2 (by omega)
    · obtain ⟨e0, hr⟩ := hP
      subst e0
      exact y_icmp_eq (pc := 304) (x := Int32.ofInt v) (y1 := Int32.ofInt v) C 719 dL_law_304 (by decide) (fun _ => kk M2 hr) (fun hh => absurd rfl hh)
theorem k_write (C : lz_C p s m args meth c D dA b yL_law cL_law 8 ret) (S : lw_S sa L xs s b) {M : xm} {n : Int} (h : Rel M n) (hn : 0 ≤ n ∧ n ≤ 512) {i : Int32} (i1 : vp_in (i + 1) L) (i2 : vp_in (i + 2) L) (i3 : vp_in (i + 3) L) (kk : ∀ M', Rel M' (n + 1) → lz_Y sa p l e room_1 s m args below meth c D dA b 8 T0 ad0 Q (mK M') (mS M') (xT M') (xA M') (mB M') (xR M') 719 [(3, .int i), (2, .ref aM), (1, .ref aX)] []) : lz_Y sa p l e room_1 s m args below meth c D dA b 8 T0 ad0 Q (mK M) (mS M) (xT M) (xA M) (mB M) (xR M) 309 [(3, .int i), (2, .ref aM), (1, .ref aX)] [] := by
  obtain ⟨x1, e1⟩ : ∃ x, xs (i + 1).toNatClampNeg = x := ⟨_, rfl⟩
  obtain ⟨x2, e2⟩ : ∃ x, xs (i + 2).toNatClampNeg = x := ⟨_, rfl⟩
  obtain ⟨x3, e3⟩ : ∃ x, xs (i + 3).toNatClampNeg = x := ⟨_, rfl⟩
  refine y_asm (fun hal => ?_)
  refine y_aload_n C 2 dL_law_309 rfl ?_
  refine y_sx (pc := 310) (n := 1) (v := 1) (x := x1) C S 0 rfl (by decide) i1 e1 dL_law_310 dL_law_311 dL_law_312 dL_law_313 dL_law_314 ?_
  refine y_sx (pc := 315) (n := 2) (v := 2) (x := x2) C S 0 rfl (by decide) i2 e2 dL_law_315 dL_law_316 dL_law_317 dL_law_318 dL_law_319 ?_
  refine y_sx (pc := 320) (n := 3) (v := 3) (x := x3) C S 0 rfl (by decide) i3 e3 dL_law_320 dL_law_321 dL_law_322 dL_law_323 dL_law_324 ?_
  have hw := t_write h x1.toInt x2.toInt x3.toInt (i32_b x1) (i32_b x2) (i32_b x3)
  have g := y_callW (rest := []) (lv := [(3, .int i), (2, .ref aM), (1, .ref aX)]) (pc := 325) (T0 := T0) (ad0 := ad0) (Q := Q) (sa := sa) (l := l) (e := e) (below := below) C (av := [vI x1.toInt, vI x2.toInt, vI x3.toInt]) (N := aX) (ci := 9) (idx := 35) (na := 3) (z := 0) (Rm := room_1) okX9_write rfl (Nat.le_of_ble_eq_true rfl : 4 ≤ 4) hw rfl (by decide) gL_35.1 gL_35.2.1 gL_35.2.2 (al_X hal).1 rfl (by decide) (by decide) (fun r M1 hP => ?_) dL_law_325 (fun r M1 hP => ?_)
  · simp only [List.map_cons, List.map_nil, i32] at g
    exact g
  · exact two_room (av := [vR aM, vI x1.toInt, vI x2.toInt, vI x3.toInt]) okX10_write (Nat.le_of_ble_eq_true rfl : 4 ≤ 4) (by omega) hP
  · obtain ⟨v, e0, hw2⟩ := hP
    subst e0
    show lz_Y sa p l e room_1 s m args below meth c D dA b 8 T0 ad0 Q (mK M1) (mS M1) (xT M1) (xA M1) (mB M1) (xR M1) 328 [(3, .int i), (2, .ref aM), (1, .ref aX)] [xval (vI v)]
    clear h hw hal
    refine y_asm (fun hal => ?_)
    refine y_aload_n C 1 dL_law_328 rfl ?_
    refine y_sx (pc := 329) (n := 1) (v := 1) (x := x1) C S 0 rfl (by decide) i1 e1 dL_law_329 dL_law_330 dL_law_331 dL_law_332 dL_law_333 ?_
    refine y_sx (pc := 334) (n := 2) (v := 2) (x := x2) C S 0 rfl (by decide) i2 e2 dL_law_334 dL_law_335 dL_law_336 dL_law_337 dL_law_338 ?_
    refine y_sx (pc := 339) (n := 3) (v := 3) (x := x3) C S 0 rfl (by decide) i3 e3 dL_law_339 dL_law_340 dL_law_341 dL_law_342 dL_law_343 ?_
    have g := y_callW (rest := [xval (vI v)]) (lv := [(3, .int i), (2, .ref aM), (1, .ref aX)]) (pc := 344) (T0 := T0) (ad0 := ad0) (Q := Q) (sa := sa) (l := l) (e := e) (below := below) C (av := [vI x1.toInt, vI x2.toInt, vI x3.toInt]) (N := aM) (ci := 10) (idx := 38) (na := 3) (z := 0) (Rm := room_1) okX10_write rfl (Nat.le_of_ble_eq_true rfl : 4 ≤ 4) hw2 rfl (by decide) gL_38.1 gL_38.2.1 gL_38.2.2 (al_X hal).2 rfl (by decide) (Nat.le_of_ble_eq_true rfl : 1 ≤ 8) (fun r M2 hP => ?_) dL_law_344 (fun r M2 hP => ?_)
    · simp only [List.map_cons, List.map_nil, i32] at g
      exact g
    · exact rl_room hP.2 (by omega)
    · obtain ⟨e0, hr⟩ := hP
      subst e0
      exact y_icmp_eq (pc := 347) (x := Int32.ofInt v) (y1 := Int32.ofInt v) C 719 dL_law_347 (by decide) (fun _ => kk M2 hr) (fun hh => absurd rfl hh)
theorem k_block (C : lz_C p s m args meth c D dA b yL_law cL_law 8 ret) (S : lw_S sa L xs s b) {M : xm} {n : Int} (h : Rel M n) (hn : 0 ≤ n ∧ n ≤ 512) {i : Int32} (i1 : vp_in (i + 1) L) (kk : ∀ M', Rel M' (n + 1) → lz_Y sa p l e room_1 s m args below meth c D dA b 8 T0 ad0 Q (mK M') (mS M') (xT M') (xA M') (mB M') (xR M') 719 [(3, .int i), (2, .ref aM), (1, .ref aX)] []) : lz_Y sa p l e room_1 s m args below meth c D dA b 8 T0 ad0 Q (mK M) (mS M) (xT M) (xA M) (mB M) (xR M) 352 [(3, .int i), (2, .ref aM), (1, .ref aX)] [] := by
  obtain ⟨x1, e1⟩ : ∃ x, xs (i + 1).toNatClampNeg = x := ⟨_, rfl⟩
  refine y_asm (fun hal => ?_)
  refine y_aload_n C 2 dL_law_352 rfl ?_
  refine y_sx (pc := 353) (n := 1) (v := 1) (x := x1) C S 0 rfl (by decide) i1 e1 dL_law_353 dL_law_354 dL_law_355 dL_law_356 dL_law_357 ?_
  have hw := t_block h (by omega) x1.toInt (i32_b x1)
  have g := y_callW (rest := []) (lv := [(3, .int i), (2, .ref aM), (1, .ref aX)]) (pc := 358) (T0 := T0) (ad0 := ad0) (Q := Q) (sa := sa) (l := l) (e := e) (below := below) C (av := [vI x1.toInt]) (N := aX) (ci := 9) (idx := 39) (na := 1) (z := 0) (Rm := room_1) okX9_block rfl (Nat.le_of_ble_eq_true rfl : 2 ≤ 3) hw rfl (by decide) gL_39.1 gL_39.2.1 gL_39.2.2 (al_X hal).1 rfl (by decide) (by decide) (fun r M1 hP => ?_) dL_law_358 (fun r M1 hP => ?_)
  · simp only [List.map_cons, List.map_nil, i32] at g
    exact g
  · exact two_room (av := [vR aM, vI x1.toInt]) okX10_block (Nat.le_of_ble_eq_true rfl : 2 ≤ 4) (by omega) hP
  · obtain ⟨v, e0, hw2⟩ := hP
    subst e0
    show lz_Y sa p l e room_1 s m args below meth c D dA b 8 T0 ad0 Q (mK M1) (mS M1) (xT M1) (xA M1) (mB M1) (xR M1) 361 [(3, .int i), (2, .ref aM), (1, .ref aX)] [xval (vI v)]
    clear h hw hal
    refine y_asm (fun hal => ?_)
    refine y_aload_n C 1 dL_law_361 rfl ?_
    refine y_sx (pc := 362) (n := 1) (v := 1) (x := x1) C S 0 rfl (by decide) i1 e1 dL_law_362 dL_law_363 dL_law_364 dL_law_365 dL_law_366 ?_
    have g := y_callW (rest := [xval (vI v)]) (lv := [(3, .int i), (2, .ref aM), (1, .ref aX)]) (pc := 367) (T0 := T0) (ad0 := ad0) (Q := Q) (sa := sa) (l := l) (e := e) (below := below) C (av := [vI x1.toInt]) (N := aM) (ci := 10) (idx := 43) (na := 1) (z := 0) (Rm := room_1) okX10_block rfl (Nat.le_of_ble_eq_true rfl : 2 ≤ 4) hw2 rfl (by decide) gL_43.1 gL_43.2.1 gL_43.2.2 (al_X hal).2 rfl (by decide) (Nat.le_of_ble_eq_true rfl : 1 ≤ 8) (fun r M2 hP => ?_) dL_law_367 (fun r M2 hP => ?_)
    · simp only [List.map_cons, List.map_nil, i32] at g
      exact g
    · exact rl_room hP.2 (by omega)
    · obtain ⟨e0, hr⟩ := hP
      subst e0
      exact y_icmp_eq (pc := 370) (x := Int32.ofInt v) (y1 := Int32.ofInt v) C 719 dL_law_370 (by decide) (fun _ => kk M2 hr) (fun hh => absurd rfl hh)
theorem k_back (C : lz_C p s m args meth c D dA b yL_law cL_law 8 ret) (S : lw_S sa L xs s b) {M : xm} {n : Int} (h : Rel M n) (hn : 0 ≤ n ∧ n ≤ 512) {i : Int32} (i1 : vp_in (i + 1) L) (kk : ∀ M', Rel M' (n + 1) → lz_Y sa p l e room_1 s m args below meth c D dA b 8 T0 ad0 Q (mK M') (mS M') (xT M') (xA M') (mB M') (xR M') 719 [(3, .int i), (2, .ref aM), (1, .ref aX)] []) : lz_Y sa p l e room_1 s m args below meth c D dA b 8 T0 ad0 Q (mK M) (mS M) (xT M) (xA M) (mB M) (xR M) 375 [(3, .int i), (2, .ref aM), (1, .ref aX)] [] := by
  obtain ⟨x1, e1⟩ : ∃ x, xs (i + 1).toNatClampNeg = x := ⟨_, rfl⟩
  refine y_asm (fun hal => ?_)
  refine y_aload_n C 2 dL_law_375 rfl ?_
  refine y_sx (pc := 376) (n := 1) (v := 1) (x := x1) C S 0 rfl (by decide) i1 e1 dL_law_376 dL_law_377 dL_law_378 dL_law_379 dL_law_380 ?_
  have hw := t_back h (by omega) x1.toInt (i32_b x1)
  have g := y_callW (rest := []) (lv := [(3, .int i), (2, .ref aM), (1, .ref aX)]) (pc := 381) (T0 := T0) (ad0 := ad0) (Q := Q) (sa := sa) (l := l) (e := e) (below := below) C (av := [vI x1.toInt]) (N := aX) (ci := 9) (idx := 44) (na := 1) (z := 0) (Rm := room_1) okX9_back rfl (Nat.le_of_ble_eq_true rfl : 2 ≤ 2) hw rfl (by decide) gL_44.1 gL_44.2.1 gL_44.2.2 (al_X hal).1 rfl (by decide) (by decide) (fun r M1 hP => ?_) dL_law_381 (fun r M1 hP => ?_)
  · simp only [List.map_cons, List.map_nil, i32] at g
    exact g
  · exact two_room (av := [vR aM, vI x1.toInt]) okX10_back (Nat.le_of_ble_eq_true rfl : 2 ≤ 2) (by omega) hP
  · obtain ⟨v, e0, hw2⟩ := hP
    subst e0
    show lz_Y sa p l e room_1 s m args below meth c D dA b 8 T0 ad0 Q (mK M1) (mS M1) (xT M1) (xA M1) (mB M1) (xR M1) 384 [(3, .int i), (2, .ref aM), (1, .ref aX)] [xval (vI v)]
    clear h hw hal
    refine y_asm (fun hal => ?_)
    refine y_aload_n C 1 dL_law_384 rfl ?_
    refine y_sx (pc := 385) (n := 1) (v := 1) (x := x1) C S 0 rfl (by decide) i1 e1 dL_law_385 dL_law_386 dL_law_387 dL_law_388 dL_law_389 ?_
    have g := y_callW (rest := [xval (vI v)]) (lv := [(3, .int i), (2, .ref aM), (1, .ref aX)]) (pc := 390) (T0 := T0) (ad0 := ad0) (Q := Q) (sa := sa) (l := l) (e := e) (below := below) C (av := [vI x1.toInt]) (N := aM) (ci := 10) (idx := 47) (na := 1) (z := 0) (Rm := room_1) okX10_back rfl (Nat.le_of_ble_eq_true rfl : 2 ≤ 2) hw2 rfl (by decide) gL_47.1 gL_47.2.1 gL_47.2.2 (al_X hal).2 rfl (by decide) (Nat.le_of_ble_eq_true rfl : 1 ≤ 8) (fun r M2 hP => ?_) dL_law_390 (fun r M2 hP => ?_)
    · simp only [List.map_cons, List.map_nil, i32] at g
      exact g
    · exact rl_room hP.2 (by omega)
    · obtain ⟨e0, hr⟩ := hP
      subst e0
      exact y_icmp_eq (pc := 393) (x := Int32.ofInt v) (y1 := Int32.ofInt v) C 719 dL_law_393 (by decide) (fun _ => kk M2 hr) (fun hh => absurd rfl hh)
theorem k_keep (C : lz_C p s m args meth c D dA b yL_law cL_law 8 ret) (S : lw_S sa L xs s b) {M : xm} {n : Int} (h : Rel M n) (hn : 0 ≤ n ∧ n ≤ 512) {i : Int32} (i1 : vp_in (i + 1) L) (kk : ∀ M', Rel M' (n + 1) → lz_Y sa p l e room_1 s m args below meth c D dA b 8 T0 ad0 Q (mK M') (mS M') (xT M') (xA M') (mB M') (xR M') 719 [(3, .int i), (2, .ref aM), (1, .ref aX)] []) : lz_Y sa p l e room_1 s m args below meth c D dA b 8 T0 ad0 Q (mK M) (mS M) (xT M) (xA M) (mB M) (xR M) 398 [(3, .int i), (2, .ref aM), (1, .ref aX)] [] := by
  obtain ⟨x1, e1⟩ : ∃ x, xs (i + 1).toNatClampNeg = x := ⟨_, rfl⟩
  refine y_asm (fun hal => ?_)
  refine y_aload_n C 2 dL_law_398 rfl ?_
  refine y_sx (pc := 399) (n := 1) (v := 1) (x := x1) C S 0 rfl (by decide) i1 e1 dL_law_399 dL_law_400 dL_law_401 dL_law_402 dL_law_403 ?_
  have hw := t_keep h x1.toInt (i32_b x1)
  have g := y_callW (rest := []) (lv := [(3, .int i), (2, .ref aM), (1, .ref aX)]) (pc := 404) (T0 := T0) (ad0 := ad0) (Q := Q) (sa := sa) (l := l) (e := e) (below := below) C (av := [vI x1.toInt]) (N := aX) (ci := 9) (idx := 48) (na := 1) (z := 0) (Rm := room_1) okX9_keep rfl (Nat.le_of_ble_eq_true rfl : 2 ≤ 2) hw rfl (by decide) gL_48.1 gL_48.2.1 gL_48.2.2 (al_X hal).1 rfl (by decide) (by decide) (fun r M1 hP => ?_) dL_law_404 (fun r M1 hP => ?_)
  · simp only [List.map_cons, List.map_nil, i32] at g
    exact g
  · exact two_room (av := [vR aM, vI x1.toInt]) okX10_keep (Nat.le_of_ble_eq_true rfl : 2 ≤ 3) (by omega) hP
  · obtain ⟨v, e0, hw2⟩ := hP
    subst e0
    show lz_Y sa p l e room_1 s m args below meth c D dA b 8 T0 ad0 Q (mK M1) (mS M1) (xT M1) (xA M1) (mB M1) (xR M1) 407 [(3, .int i), (2, .ref aM), (1, .ref aX)] [xval (vI v)]
    clear h hw hal
    refine y_asm (fun hal => ?_)
    refine y_aload_n C 1 dL_law_407 rfl ?_
    refine y_sx (pc := 408) (n := 1) (v := 1) (x := x1) C S 0 rfl (by decide) i1 e1 dL_law_408 dL_law_409 dL_law_410 dL_law_411 dL_law_412 ?_
    have g := y_callW (rest := [xval (vI v)]) (lv := [(3, .int i), (2, .ref aM), (1, .ref aX)]) (pc := 413) (T0 := T0) (ad0 := ad0) (Q := Q) (sa := sa) (l := l) (e := e) (below := below) C (av := [vI x1.toInt]) (N := aM) (ci := 10) (idx := 51) (na := 1) (z := 0) (Rm := room_1) okX10_keep rfl (Nat.le_of_ble_eq_true rfl : 2 ≤ 3) hw2 rfl (by decide) gL_51.1 gL_51.2.1 gL_51.2.2 (al_X hal).2 rfl (by decide) (Nat.le_of_ble_eq_true rfl : 1 ≤ 8) (fun r M2 hP => ?_) dL_law_413 (fun r M2 hP => ?_)
    · simp only [List.map_cons, List.map_nil, i32] at g
      exact g
    · exact rl_room hP.2 (by omega)
    · obtain ⟨e0, hr⟩ := hP
      subst e0
      exact y_icmp_eq (pc := 416) (x := Int32.ofInt v) (y1 := Int32.ofInt v) C 719 dL_law_416 (by decide) (fun _ => kk M2 hr) (fun hh => absurd rfl hh)
theorem k_recall (C : lz_C p s m args meth c D dA b yL_law cL_law 8 ret) (S : lw_S sa L xs s b) {M : xm} {n : Int} (h : Rel M n) (hn : 0 ≤ n ∧ n ≤ 512) {i : Int32} (i1 : vp_in (i + 1) L) (kk : ∀ M', Rel M' (n + 1) → lz_Y sa p l e room_1 s m args below meth c D dA b 8 T0 ad0 Q (mK M') (mS M') (xT M') (xA M') (mB M') (xR M') 719 [(3, .int i), (2, .ref aM), (1, .ref aX)] []) : lz_Y sa p l e room_1 s m args below meth c D dA b 8 T0 ad0 Q (mK M) (mS M) (xT M) (xA M) (mB M) (xR M) 421 [(3, .int i), (2, .ref aM), (1, .ref aX)] [] := by
  obtain ⟨x1, e1⟩ : ∃ x, xs (i + 1).toNatClampNeg = x := ⟨_, rfl⟩
  refine y_asm (fun hal => ?_)
  refine y_aload_n C 2 dL_law_421 rfl ?_
  refine y_sx (pc := 422) (n := 1) (v := 1) (x := x1) C S 0 rfl (by decide) i1 e1 dL_law_422 dL_law_423 dL_law_424 dL_law_425 dL_law_426 ?_
  have hw := t_recall h x1.toInt (i32_b x1)
  have g := y_callW (rest := []) (lv := [(3, .int i), (2, .ref aM), (1, .ref aX)]) (pc := 427) (T0 := T0) (ad0 := ad0) (Q := Q) (sa := sa) (l := l) (e := e) (below := below) C (av := [vI x1.toInt]) (N := aX) (ci := 9) (idx := 52) (na := 1) (z := 0) (Rm := room_1) okX9_recall rfl (Nat.le_of_ble_eq_true rfl : 2 ≤ 2) hw rfl (by decide) gL_52.1 gL_52.2.1 gL_52.2.2 (al_X hal).1 rfl (by decide) (by decide) (fun r M1 hP => ?_) dL_law_427 (fun r M1 hP => ?_)
  · simp only [List.map_cons, List.map_nil, i32] at g
    exact g
  · exact two_room (av := [vR aM, vI x1.toInt]) okX10_recall (Nat.le_of_ble_eq_true rfl : 2 ≤ 4) (by omega) hP
  · obtain ⟨v, e0, hw2⟩ := hP
    subst e0
    show lz_Y sa p l e room_1 s m args below meth c D dA b 8 T0 ad0 Q (mK M1) (mS M1) (xT M1) (xA M1) (mB M1) (xR M1) 430 [(3, .int i), (2, .ref aM), (1, .ref aX)] [xval (vI v)]
    clear h hw hal
    refine y_asm (fun hal => ?_)
    refine y_aload_n C 1 dL_law_430 rfl ?_
    refine y_sx (pc := 431) (n := 1) (v := 1) (x := x1) C S 0 rfl (by decide) i1 e1 dL_law_431 dL_law_432 dL_law_433 dL_law_434 dL_law_435 ?_
    have g := y_callW (rest := [xval (vI v)]) (lv := [(3, .int i), (2, .ref aM), (1, .ref aX)]) (pc := 436) (T0 := T0) (ad0 := ad0) (Q := Q) (sa := sa) (l := l) (e := e) (below := below) C (av := [vI x1.toInt]) (N := aM) (ci := 10) (idx := 55) (na := 1) (z := 0) (Rm := room_1) okX10_recall rfl (Nat.le_of_ble_eq_true rfl : 2 ≤ 4) hw2 rfl (by decide) gL_55.1 gL_55.2.1 gL_55.2.2 (al_X hal).2 rfl (by decide) (Nat.le_of_ble_eq_true rfl : 1 ≤ 8) (fun r M2 hP => ?_) dL_law_436 (fun r M2 hP => ?_)
    · simp only [List.map_cons, List.map_nil, i32] at g
      exact g
    · exact rl_room hP.2 (by omega)
    · obtain ⟨e0, hr⟩ := hP
      subst e0
      exact y_icmp_eq (pc := 439) (x := Int32.ofInt v) (y1 := Int32.ofInt v) C 719 dL_law_439 (by decide) (fun _ => kk M2 hr) (fun hh => absurd rfl hh)
theorem k_take (C : lz_C p s m args meth c D dA b yL_law cL_law 8 ret) (S : lw_S sa L xs s b) {M : xm} {n : Int} (h : Rel M n) (hn : 0 ≤ n ∧ n ≤ 512) {i : Int32} (i1 : vp_in (i + 1) L) (kk : ∀ M', Rel M' (n + 1) → lz_Y sa p l e room_1 s m args below meth c D dA b 8 T0 ad0 Q (mK M') (mS M') (xT M') (xA M') (mB M') (xR M') 719 [(3, .int i), (2, .ref aM), (1, .ref aX)] []) : lz_Y sa p l e room_1 s m args below meth c D dA b 8 T0 ad0 Q (mK M) (mS M) (xT M) (xA M) (mB M) (xR M) 444 [(3, .int i), (2, .ref aM), (1, .ref aX)] [] := by
  obtain ⟨x1, e1⟩ : ∃ x, xs (i + 1).toNatClampNeg = x := ⟨_, rfl⟩
  refine y_asm (fun hal => ?_)
  refine y_aload_n C 2 dL_law_444 rfl ?_
  refine y_sx (pc := 445) (n := 1) (v := 1) (x := x1) C S 0 rfl (by decide) i1 e1 dL_law_445 dL_law_446 dL_law_447 dL_law_448 dL_law_449 ?_
  have hw := t_take h x1.toInt (i32_b x1)
  have g := y_callW (rest := []) (lv := [(3, .int i), (2, .ref aM), (1, .ref aX)]) (pc := 450) (T0 := T0) (ad0 := ad0) (Q := Q) (sa := sa) (l := l) (e := e) (below := below) C (av := [vI x1.toInt]) (N := aX) (ci := 9) (idx := 56) (na := 1) (z := 0) (Rm := room_1) okX9_take rfl (Nat.le_of_ble_eq_true rfl : 2 ≤ 3) hw rfl (by decide) gL_56.1 gL_56.2.1 gL_56.2.2 (al_X hal).1 rfl (by decide) (by decide) (fun r M1 hP => ?_) dL_law_450 (fun r M1 hP => ?_)
  · simp only [List.map_cons, List.map_nil, i32] at g
    exact g
  · exact two_room (av := [vR aM, vI x1.toInt]) okX10_take (Nat.le_of_ble_eq_true rfl : 2 ≤ 3) (by omega) hP
  · obtain ⟨v, e0, hw2⟩ := hP
    subst e0
    show lz_Y sa p l e room_1 s m args below meth c D dA b 8 T0 ad0 Q (mK M1) (mS M1) (xT M1) (xA M1) (mB M1) (xR M1) 453 [(3, .int i), (2, .ref aM), (1, .ref aX)] [xval (vI v)]
    clear h hw hal
    refine y_asm (fun hal => ?_)
    refine y_aload_n C 1 dL_law_453 rfl ?_
    refine y_sx (pc := 454) (n := 1) (v := 1) (x := x1) C S 0 rfl (by decide) i1 e1 dL_law_454 dL_law_455 dL_law_456 dL_law_457 dL_law_458 ?_
    have g := y_callW (rest := [xval (vI v)]) (lv := [(3, .int i), (2, .ref aM), (1, .ref aX)]) (pc := 459) (T0 := T0) (ad0 := ad0) (Q := Q) (sa := sa) (l := l) (e := e) (below := below) C (av := [vI x1.toInt]) (N := aM) (ci := 10) (idx := 59) (na := 1) (z := 0) (Rm := room_1) okX10_take rfl (Nat.le_of_ble_eq_true rfl : 2 ≤ 3) hw2 rfl (by decide) gL_59.1 gL_59.2.1 gL_59.2.2 (al_X hal).2 rfl (by decide) (Nat.le_of_ble_eq_true rfl : 1 ≤ 8) (fun r M2 hP => ?_) dL_law_459 (fun r M2 hP => ?_)
    · simp only [List.map_cons, List.map_nil, i32] at g
      exact g
    · exact rl_room hP.2 (by omega)
    · obtain ⟨e0, hr⟩ := hP
      subst e0
      exact y_icmp_eq (pc := 462) (x := Int32.ofInt v) (y1 := Int32.ofInt v) C 719 dL_law_462 (by decide) (fun _ => kk M2 hr) (fun hh => absurd rfl hh)
theorem k_equal (C : lz_C p s m args meth c D dA b yL_law cL_law 8 ret) (S : lw_S sa L xs s b) {M : xm} {n : Int} (h : Rel M n) (hn : 0 ≤ n ∧ n ≤ 512) {i : Int32} (i1 : vp_in (i + 1) L) (i2 : vp_in (i + 2) L) (kk : ∀ M', Rel M' (n + 1) → lz_Y sa p l e room_1 s m args below meth c D dA b 8 T0 ad0 Q (mK M') (mS M') (xT M') (xA M') (mB M') (xR M') 719 [(3, .int i), (2, .ref aM), (1, .ref aX)] []) : lz_Y sa p l e room_1 s m args below meth c D dA b 8 T0 ad0 Q (mK M) (mS M) (xT M) (xA M) (mB M) (xR M) 467 [(3, .int i), (2, .ref aM), (1, .ref aX)] [] := by
  obtain ⟨x1, e1⟩ : ∃ x, xs (i + 1).toNatClampNeg = x := ⟨_, rfl⟩
  obtain ⟨x2, e2⟩ : ∃ x, xs (i + 2).toNatClampNeg = x := ⟨_, rfl⟩
  refine y_asm (fun hal => ?_)
  refine y_aload_n C 2 dL_law_467 rfl ?_
  refine y_sx (pc := 468) (n := 1) (v := 1) (x := x1) C S 0 rfl (by decide) i1 e1 dL_law_468 dL_law_469 dL_law_470 dL_law_471 dL_law_472 ?_
  refine y_sx (pc := 473) (n := 2) (v := 2) (x := x2) C S 0 rfl (by decide) i2 e2 dL_law_473 dL_law_474 dL_law_475 dL_law_476 dL_law_477 ?_
  have hw := t_equal h x1.toInt x2.toInt (i32_b x1) (i32_b x2)
  have g := y_callW (rest := []) (lv := [(3, .int i), (2, .ref aM), (1, .ref aX)]) (pc := 478) (T0 := T0) (ad0 := ad0) (Q := Q) (sa := sa) (l := l) (e := e) (below := below) C (av := [vI x1.toInt, vI x2.toInt]) (N := aX) (ci := 9) (idx := 60) (na := 2) (z := 0) (Rm := room_1) okX9_equal rfl (Nat.le_of_ble_eq_true rfl : 3 ≤ 5) hw rfl (by decide) gL_60.1 gL_60.2.1 gL_60.2.2 (al_X hal).1 rfl (by decide) (by decide) (fun r M1 hP => ?_) dL_law_478 (fun r M1 hP => ?_)
  · simp only [List.map_cons, List.map_nil, i32] at g
    exact g
  · exact two_room (av := [vR aM, vI x1.toInt, vI x2.toInt]) okX10_equal (Nat.le_of_ble_eq_true rfl : 3 ≤ 11) (by omega) hP
  · obtain ⟨v, e0, hw2⟩ := hP
    subst e0
    show lz_Y sa p l e room_1 s m args below meth c D dA b 8 T0 ad0 Q (mK M1) (mS M1) (xT M1) (xA M1) (mB M1) (xR M1) 481 [(3, .int i), (2, .ref aM), (1, .ref aX)] [xval (vI v)]
    clear h hw hal
    refine y_asm (fun hal => ?_)
    refine y_aload_n C 1 dL_law_481 rfl ?_
    refine y_sx (pc := 482) (n := 1) (v := 1) (x := x1) C S 0 rfl (by decide) i1 e1 dL_law_482 dL_law_483 dL_law_484 dL_law_485 dL_law_486 ?_
    refine y_sx (pc := 487) (n := 2) (v := 2) (x := x2) C S 0 rfl (by decide) i2 e2 dL_law_487 dL_law_488 dL_law_489 dL_law_490 dL_law_491 ?_
    have g := y_callW (rest := [xval (vI v)]) (lv := [(3, .int i), (2, .ref aM), (1, .ref aX)]) (pc := 492) (T0 := T0) (ad0 := ad0) (Q := Q) (sa := sa) (l := l) (e := e) (below := below) C (av := [vI x1.toInt, vI x2.toInt]) (N := aM) (ci := 10) (idx := 63) (na := 2) (z := 0) (Rm := room_1) okX10_equal rfl (Nat.le_of_ble_eq_true rfl : 3 ≤ 11) hw2 rfl (by decide) gL_63.1 gL_63.2.1 gL_63.2.2 (al_X hal).2 rfl (by decide) (Nat.le_of_ble_eq_true rfl : 1 ≤ 8) (fun r M2 hP => ?_) dL_law_492 (fun r M2 hP => ?_)
    · simp only [List.map_cons, List.map_nil, i32] at g
      exact g
    · exact rl_room hP.2 (by omega)
    · obtain ⟨e0, hr⟩ := hP
      subst e0
      exact y_icmp_eq (pc := 495) (x := Int32.ofInt v) (y1 := Int32.ofInt v) C 719 dL_law_495 (by decide) (fun _ => kk M2 hr) (fun hh => absurd rfl hh)
theorem k_row (C : lz_C p s m args meth c D dA b yL_law cL_law 8 ret) (S : lw_S sa L xs s b) {M : xm} {n : Int} (h : Rel M n) (hn : 0 ≤ n ∧ n ≤ 512) {i : Int32} (i1 : vp_in (i + 1) L) (i2 : vp_in (i + 2) L) (kk : ∀ M', Rel M' (n + 1) → lz_Y sa p l e room_1 s m args below meth c D dA b 8 T0 ad0 Q (mK M') (mS M') (xT M') (xA M') (mB M') (xR M') 719 [(3, .int i), (2, .ref aM), (1, .ref aX)] []) : lz_Y sa p l e room_1 s m args below meth c D dA b 8 T0 ad0 Q (mK M) (mS M) (xT M) (xA M) (mB M) (xR M) 500 [(3, .int i), (2, .ref aM), (1, .ref aX)] [] := by
  obtain ⟨x1, e1⟩ : ∃ x, xs (i + 1).toNatClampNeg = x := ⟨_, rfl⟩
  obtain ⟨x2, e2⟩ : ∃ x, xs (i + 2).toNatClampNeg = x := ⟨_, rfl⟩
  refine y_asm (fun hal => ?_)
  refine y_aload_n C 2 dL_law_500 rfl ?_
  refine y_sx (pc := 501) (n := 1) (v := 1) (x := x1) C S 0 rfl (by decide) i1 e1 dL_law_501 dL_law_502 dL_law_503 dL_law_504 dL_law_505 ?_
  refine y_sx (pc := 506) (n := 2) (v := 2) (x := x2) C S 0 rfl (by decide) i2 e2 dL_law_506 dL_law_507 dL_law_508 dL_law_509 dL_law_510 ?_
  have hw := t_row h x1.toInt x2.toInt (i32_b x1) (i32_b x2)
  have g := y_callW (rest := []) (lv := [(3, .int i), (2, .ref aM), (1, .ref aX)]) (pc := 511) (T0 := T0) (ad0 := ad0) (Q := Q) (sa := sa) (l := l) (e := e) (below := below) C (av := [vI x1.toInt, vI x2.toInt]) (N := aX) (ci := 9) (idx := 64) (na := 2) (z := 0) (Rm := room_1) okX9_row rfl (Nat.le_of_ble_eq_true rfl : 3 ≤ 4) hw rfl (by decide) gL_64.1 gL_64.2.1 gL_64.2.2 (al_X hal).1 rfl (by decide) (by decide) (fun r M1 hP => ?_) dL_law_511 (fun r M1 hP => ?_)
  · simp only [List.map_cons, List.map_nil, i32] at g
    exact g
  · exact two_room (av := [vR aM, vI x1.toInt, vI x2.toInt]) okX10_row (Nat.le_of_ble_eq_true rfl : 3 ≤ 8) (by omega) hP
  · obtain ⟨v, e0, hw2⟩ := hP
    subst e0
    show lz_Y sa p l e room_1 s m args below meth c D dA b 8 T0 ad0 Q (mK M1) (mS M1) (xT M1) (xA M1) (mB M1) (xR M1) 514 [(3, .int i), (2, .ref aM), (1, .ref aX)] [xval (vI v)]
    clear h hw hal
    refine y_asm (fun hal => ?_)
    refine y_aload_n C 1 dL_law_514 rfl ?_
    refine y_sx (pc := 515) (n := 1) (v := 1) (x := x1) C S 0 rfl (by decide) i1 e1 dL_law_515 dL_law_516 dL_law_517 dL_law_518 dL_law_519 ?_
    refine y_sx (pc := 520) (n := 2) (v := 2) (x := x2) C S 0 rfl (by decide) i2 e2 dL_law_520 dL_law_521 dL_law_522 dL_law_523 dL_law_524 ?_
    have g := y_callW (rest := [xval (vI v)]) (lv := [(3, .int i), (2, .ref aM), (1, .ref aX)]) (pc := 525) (T0 := T0) (ad0 := ad0) (Q := Q) (sa := sa) (l := l) (e := e) (below := below) C (av := [vI x1.toInt, vI x2.toInt]) (N := aM) (ci := 10) (idx := 67) (na := 2) (z := 0) (Rm := room_1) okX10_row rfl (Nat.le_of_ble_eq_true rfl : 3 ≤ 8) hw2 rfl (by decide) gL_67.1 gL_67.2.1 gL_67.2.2 (al_X hal).2 rfl (by decide) (Nat.le_of_ble_eq_true rfl : 1 ≤ 8) (fun r M2 hP => ?_) dL_law_525 (fun r M2 hP => ?_)
    · simp only [List.map_cons, List.map_nil, i32] at g
      exact g
    · exact rl_room hP.2 (by omega)
    · obtain ⟨e0, hr⟩ := hP
      subst e0
      exact y_icmp_eq (pc := 528) (x := Int32.ofInt v) (y1 := Int32.ofInt v) C 719 dL_law_528 (by decide) (fun _ => kk M2 hr) (fun hh => absurd rfl hh)
theorem k_sample (C : lz_C p s m args meth c D dA b yL_law cL_law 8 ret) (S : lw_S sa L xs s b) {M : xm} {n : Int} (h : Rel M n) (hn : 0 ≤ n ∧ n ≤ 512) {i : Int32} (i1 : vp_in (i + 1) L) (i2 : vp_in (i + 2) L) (kk : ∀ M', Rel M' (n + 1) → lz_Y sa p l e room_1 s m args below meth c D dA b 8 T0 ad0 Q (mK M') (mS M') (xT M') (xA M') (mB M') (xR M') 719 [(3, .int i), (2, .ref aM), (1, .ref aX)] []) : lz_Y sa p l e room_1 s m args below meth c D dA b 8 T0 ad0 Q (mK M) (mS M) (xT M) (xA M) (mB M) (xR M) 533 [(3, .int i), (2, .ref aM), (1, .ref aX)] [] := by
  obtain ⟨x1, e1⟩ : ∃ x, xs (i + 1).toNatClampNeg = x := ⟨_, rfl⟩
  obtain ⟨x2, e2⟩ : ∃ x, xs (i + 2).toNatClampNeg = x := ⟨_, rfl⟩
  refine y_asm (fun hal => ?_)
  refine y_aload_n C 2 dL_law_533 rfl ?_
  refine y_sx (pc := 534) (n := 1) (v := 1) (x := x1) C S 0 rfl (by decide) i1 e1 dL_law_534 dL_law_535 dL_law_536 dL_law_537 dL_law_538 ?_
  refine y_sx (pc := 539) (n := 2) (v := 2) (x := x2) C S 0 rfl (by decide) i2 e2 dL_law_539 dL_law_540 dL_law_541 dL_law_542 dL_law_543 ?_
  have hw := t_sample h x1.toInt x2.toInt (i32_b x1) (i32_b x2)
  have g := y_callW (rest := []) (lv := [(3, .int i), (2, .ref aM), (1, .ref aX)]) (pc := 544) (T0 := T0) (ad0 := ad0) (Q := Q) (sa := sa) (l := l) (e := e) (below := below) C (av := [vI x1.toInt, vI x2.toInt]) (N := aX) (ci := 9) (idx := 68) (na := 2) (z := 0) (Rm := room_1) okX9_sample rfl (Nat.le_of_ble_eq_true rfl : 3 ≤ 4) hw rfl (by decide) gL_68.1 gL_68.2.1 gL_68.2.2 (al_X hal).1 rfl (by decide) (by decide) (fun r M1 hP => ?_) dL_law_544 (fun r M1 hP => ?_)
  · simp only [List.map_cons, List.map_nil, i32] at g
    exact g
  · exact twoD_room (av := [vR aM, vI x1.toInt, vI x2.toInt]) okX10_sample (Nat.le_of_ble_eq_true rfl : 3 ≤ 3) (by omega) hP
  · obtain ⟨v, e0, hv, hw2⟩ := hP
    subst e0
    clear h hw hal
    refine y_dstore (pc := 547) (x := v) (lv' := (4, .double v) :: [(3, .int i), (2, .ref aM), (1, .ref aX)]) C dL_law_547 (by decide) rfl rfl ?_
    show lz_Y sa p l e room_1 s m args below meth c D dA b 8 T0 ad0 Q (mK M1) (mS M1) (xT M1) (xA M1) (mB M1) (xR M1) 549 ((4, .double v) :: [(3, .int i), (2, .ref aM), (1, .ref aX)]) []
    refine y_asm (fun hal => ?_)
    refine y_aload_n C 2 dL_law_549 rfl ?_
    refine y_sx (pc := 550) (n := 1) (v := 1) (x := x1) C S 1 rfl (by decide) i1 e1 dL_law_550 dL_law_551 dL_law_552 dL_law_553 dL_law_554 ?_
    refine y_sx (pc := 555) (n := 2) (v := 2) (x := x2) C S 1 rfl (by decide) i2 e2 dL_law_555 dL_law_556 dL_law_557 dL_law_558 dL_law_559 ?_
    have g := y_callW (rest := []) (lv := (4, .double v) :: [(3, .int i), (2, .ref aM), (1, .ref aX)]) (pc := 560) (T0 := T0) (ad0 := ad0) (Q := Q) (sa := sa) (l := l) (e := e) (below := below) C (av := [vI x1.toInt, vI x2.toInt]) (N := aM) (ci := 10) (idx := 72) (na := 2) (z := 0) (Rm := room_1) okX10_sample rfl (Nat.le_of_ble_eq_true rfl : 3 ≤ 3) hw2 rfl (by decide) gL_72.1 gL_72.2.1 gL_72.2.2 (al_X (fun x hx => hal x (List.mem_cons_of_mem _ hx))).2 rfl (by decide) (by decide) (fun r M2 hP => ?_) dL_law_560 (fun r M2 hP => ?_)
    · simp only [List.map_cons, List.map_nil, i32] at g
      exact g
    · exact rl_room hP.2 (by omega)
    · obtain ⟨e0, hr⟩ := hP
      subst e0
      refine y_dstore (pc := 563) (x := v) (lv' := (6, .double v) :: (4, .double v) :: [(3, .int i), (2, .ref aM), (1, .ref aX)]) C dL_law_563 (by decide) rfl rfl ?_
      show lz_Y sa p l e room_1 s m args below meth c D dA b 8 T0 ad0 Q (mK M2) (mS M2) (xT M2) (xA M2) (mB M2) (xR M2) 565 ((6, .double v) :: (4, .double v) :: [(3, .int i), (2, .ref aM), (1, .ref aX)]) []
      refine y_dload C 1 dL_law_565 rfl ?_
      refine y_dload C 0 dL_law_567 rfl ?_
      refine y_dcmp C dL_law_569 ?_
      refine y_if_eq (pc := 570) C 591 dL_law_570 (by decide) (fun _ => ?_) (fun hh => absurd (dc_same hv) hh)
      refine y_goto (pc := 591) C 719 dL_law_591 (by decide) ?_
      exact y_drop (y_drop (kk M2 hr))
theorem k_isNone (C : lz_C p s m args meth c D dA b yL_law cL_law 8 ret) (S : lw_S sa L xs s b) {M : xm} {n : Int} (h : Rel M n) (hn : 0 ≤ n ∧ n ≤ 512) {i : Int32} (i1 : vp_in (i + 1) L) (i2 : vp_in (i + 2) L) (kk : ∀ M', Rel M' (n + 1) → lz_Y sa p l e room_1 s m args below meth c D dA b 8 T0 ad0 Q (mK M') (mS M') (xT M') (xA M') (mB M') (xR M') 719 [(3, .int i), (2, .ref aM), (1, .ref aX)] []) : lz_Y sa p l e room_1 s m args below meth c D dA b 8 T0 ad0 Q (mK M) (mS M) (xT M) (xA M) (mB M) (xR M) 594 [(3, .int i), (2, .ref aM), (1, .ref aX)] [] := by
  obtain ⟨x1, e1⟩ : ∃ x, xs (i + 1).toNatClampNeg = x := ⟨_, rfl⟩
  obtain ⟨x2, e2⟩ : ∃ x, xs (i + 2).toNatClampNeg = x := ⟨_, rfl⟩
  refine y_asm (fun hal => ?_)
  refine y_aload_n C 2 dL_law_594 rfl ?_
  refine y_sx (pc := 595) (n := 1) (v := 1) (x := x1) C S 0 rfl (by decide) i1 e1 dL_law_595 dL_law_596 dL_law_597 dL_law_598 dL_law_599 ?_
  refine y_sx (pc := 600) (n := 2) (v := 2) (x := x2) C S 0 rfl (by decide) i2 e2 dL_law_600 dL_law_601 dL_law_602 dL_law_603 dL_law_604 ?_
  have hw := t_isNone h x1.toInt x2.toInt (i32_b x1) (i32_b x2)
  have g := y_callW (rest := []) (lv := [(3, .int i), (2, .ref aM), (1, .ref aX)]) (pc := 605) (T0 := T0) (ad0 := ad0) (Q := Q) (sa := sa) (l := l) (e := e) (below := below) C (av := [vI x1.toInt, vI x2.toInt]) (N := aX) (ci := 9) (idx := 73) (na := 2) (z := 0) (Rm := room_1) okX9_isNone rfl (Nat.le_of_ble_eq_true rfl : 3 ≤ 4) hw rfl (by decide) gL_73.1 gL_73.2.1 gL_73.2.2 (al_X hal).1 rfl (by decide) (by decide) (fun r M1 hP => ?_) dL_law_605 (fun r M1 hP => ?_)
  · simp only [List.map_cons, List.map_nil, i32] at g
    exact g
  · exact two_room (av := [vR aM, vI x1.toInt, vI x2.toInt]) okX10_isNone (Nat.le_of_ble_eq_true rfl : 3 ≤ 3) (by omega) hP
  · obtain ⟨v, e0, hw2⟩ := hP
    subst e0
    show lz_Y sa p l e room_1 s m args below meth c D dA b 8 T0 ad0 Q (mK M1) (mS M1) (xT M1) (xA M1) (mB M1) (xR M1) 608 [(3, .int i), (2, .ref aM), (1, .ref aX)] [xval (vI v)]
    clear h hw hal
    refine y_asm (fun hal => ?_)
    refine y_aload_n C 1 dL_law_608 rfl ?_
    refine y_sx (pc := 609) (n := 1) (v := 1) (x := x1) C S 0 rfl (by decide) i1 e1 dL_law_609 dL_law_610 dL_law_611 dL_law_612 dL_law_613 ?_
    refine y_sx (pc := 614) (n := 2) (v := 2) (x := x2) C S 0 rfl (by decide) i2 e2 dL_law_614 dL_law_615 dL_law_616 dL_law_617 dL_law_618 ?_
    have g := y_callW (rest := [xval (vI v)]) (lv := [(3, .int i), (2, .ref aM), (1, .ref aX)]) (pc := 619) (T0 := T0) (ad0 := ad0) (Q := Q) (sa := sa) (l := l) (e := e) (below := below) C (av := [vI x1.toInt, vI x2.toInt]) (N := aM) (ci := 10) (idx := 77) (na := 2) (z := 0) (Rm := room_1) okX10_isNone rfl (Nat.le_of_ble_eq_true rfl : 3 ≤ 3) hw2 rfl (by decide) gL_77.1 gL_77.2.1 gL_77.2.2 (al_X hal).2 rfl (by decide) (Nat.le_of_ble_eq_true rfl : 1 ≤ 8) (fun r M2 hP => ?_) dL_law_619 (fun r M2 hP => ?_)
    · simp only [List.map_cons, List.map_nil, i32] at g
      exact g
    · exact rl_room hP.2 (by omega)
    · obtain ⟨e0, hr⟩ := hP
      subst e0
      exact y_icmp_eq (pc := 622) (x := Int32.ofInt v) (y1 := Int32.ofInt v) C 719 dL_law_622 (by decide) (fun _ => kk M2 hr) (fun hh => absurd rfl hh)
theorem k_order (C : lz_C p s m args meth c D dA b yL_law cL_law 8 ret) (S : lw_S sa L xs s b) {M : xm} {n : Int} (h : Rel M n) (hn : 0 ≤ n ∧ n ≤ 512) {i : Int32} (i1 : vp_in (i + 1) L) (kk : ∀ M', Rel M' (n + 1) → lz_Y sa p l e room_1 s m args below meth c D dA b 8 T0 ad0 Q (mK M') (mS M') (xT M') (xA M') (mB M') (xR M') 719 [(3, .int i), (2, .ref aM), (1, .ref aX)] []) : lz_Y sa p l e room_1 s m args below meth c D dA b 8 T0 ad0 Q (mK M) (mS M) (xT M) (xA M) (mB M) (xR M) 627 [(3, .int i), (2, .ref aM), (1, .ref aX)] [] := by
  obtain ⟨x1, e1⟩ : ∃ x, xs (i + 1).toNatClampNeg = x := ⟨_, rfl⟩
  refine y_asm (fun hal => ?_)
  refine y_aload_n C 2 dL_law_627 rfl ?_
  refine y_sx (pc := 628) (n := 1) (v := 1) (x := x1) C S 0 rfl (by decide) i1 e1 dL_law_628 dL_law_629 dL_law_630 dL_law_631 dL_law_632 ?_
  have hw := t_order h x1.toInt (i32_b x1)
  have g := y_callW (rest := []) (lv := [(3, .int i), (2, .ref aM), (1, .ref aX)]) (pc := 633) (T0 := T0) (ad0 := ad0) (Q := Q) (sa := sa) (l := l) (e := e) (below := below) C (av := [vI x1.toInt]) (N := aX) (ci := 9) (idx := 78) (na := 1) (z := 0) (Rm := room_1) okX9_order rfl (Nat.le_of_ble_eq_true rfl : 2 ≤ 2) hw rfl (by decide) gL_78.1 gL_78.2.1 gL_78.2.2 (al_X hal).1 rfl (by decide) (by decide) (fun r M1 hP => ?_) dL_law_633 (fun r M1 hP => ?_)
  · simp only [List.map_cons, List.map_nil, i32] at g
    exact g
  · exact two_room (av := [vR aM, vI x1.toInt]) okX10_order (Nat.le_of_ble_eq_true rfl : 2 ≤ 2) (by omega) hP
  · obtain ⟨v, e0, hw2⟩ := hP
    subst e0
    show lz_Y sa p l e room_1 s m args below meth c D dA b 8 T0 ad0 Q (mK M1) (mS M1) (xT M1) (xA M1) (mB M1) (xR M1) 636 [(3, .int i), (2, .ref aM), (1, .ref aX)] [xval (vI v)]
    clear h hw hal
    refine y_asm (fun hal => ?_)
    refine y_aload_n C 1 dL_law_636 rfl ?_
    refine y_sx (pc := 637) (n := 1) (v := 1) (x := x1) C S 0 rfl (by decide) i1 e1 dL_law_637 dL_law_638 dL_law_639 dL_law_640 dL_law_641 ?_
    have g := y_callW (rest := [xval (vI v)]) (lv := [(3, .int i), (2, .ref aM), (1, .ref aX)]) (pc := 642) (T0 := T0) (ad0 := ad0) (Q := Q) (sa := sa) (l := l) (e := e) (below := below) C (av := [vI x1.toInt]) (N := aM) (ci := 10) (idx := 81) (na := 1) (z := 0) (Rm := room_1) okX10_order rfl (Nat.le_of_ble_eq_true rfl : 2 ≤ 2) hw2 rfl (by decide) gL_81.1 gL_81.2.1 gL_81.2.2 (al_X hal).2 rfl (by decide) (Nat.le_of_ble_eq_true rfl : 1 ≤ 8) (fun r M2 hP => ?_) dL_law_642 (fun r M2 hP => ?_)
    · simp only [List.map_cons, List.map_nil, i32] at g
      exact g
    · exact rl_room hP.2 (by omega)
    · obtain ⟨e0, hr⟩ := hP
      subst e0
      exact y_icmp_eq (pc := 645) (x := Int32.ofInt v) (y1 := Int32.ofInt v) C 719 dL_law_645 (by decide) (fun _ => kk M2 hr) (fun hh => absurd rfl hh)
theorem k_trace (C : lz_C p s m args meth c D dA b yL_law cL_law 8 ret) (S : lw_S sa L xs s b) {M : xm} {n : Int} (h : Rel M n) (hn : 0 ≤ n ∧ n ≤ 512) {i : Int32} (i1 : vp_in (i + 1) L) (kk : ∀ M', Rel M' (n + 1) → lz_Y sa p l e room_1 s m args below meth c D dA b 8 T0 ad0 Q (mK M') (mS M') (xT M') (xA M') (mB M') (xR M') 719 [(3, .int i), (2, .ref aM), (1, .ref aX)] []) : lz_Y sa p l e room_1 s m args below meth c D dA b 8 T0 ad0 Q (mK M) (mS M) (xT M) (xA M) (mB M) (xR M) 650 [(3, .int i), (2, .ref aM), (1, .ref aX)] [] := by
  obtain ⟨x1, e1⟩ : ∃ x, xs (i + 1).toNatClampNeg = x := ⟨_, rfl⟩
  refine y_asm (fun hal => ?_)
  refine y_aload_n C 2 dL_law_650 rfl ?_
  refine y_sx (pc := 651) (n := 1) (v := 1) (x := x1) C S 0 rfl (by decide) i1 e1 dL_law_651 dL_law_652 dL_law_653 dL_law_654 dL_law_655 ?_
  have hw := t_trace h x1.toInt (i32_b x1)
  have g := y_callW (rest := []) (lv := [(3, .int i), (2, .ref aM), (1, .ref aX)]) (pc := 656) (T0 := T0) (ad0 := ad0) (Q := Q) (sa := sa) (l := l) (e := e) (below := below) C (av := [vI x1.toInt]) (N := aX) (ci := 9) (idx := 82) (na := 1) (z := 0) (Rm := room_1) okX9_trace rfl (Nat.le_of_ble_eq_true rfl : 2 ≤ 2) hw rfl (by decide) gL_82.1 gL_82.2.1 gL_82.2.2 (al_X hal).1 rfl (by decide) (by decide) (fun r M1 hP => ?_) dL_law_656 (fun r M1 hP => ?_)
  · simp only [List.map_cons, List.map_nil, i32] at g
    exact g
  · exact two_room (av := [vR aM, vI x1.toInt]) okX10_trace (Nat.le_of_ble_eq_true rfl : 2 ≤ 2) (by omega) hP
  · obtain ⟨v, e0, hw2⟩ := hP
    subst e0
    show lz_Y sa p l e room_1 s m args below meth c D dA b 8 T0 ad0 Q (mK M1) (mS M1) (xT M1) (xA M1) (mB M1) (xR M1) 659 [(3, .int i), (2, .ref aM), (1, .ref aX)] [xval (vI v)]
    clear h hw hal
    refine y_asm (fun hal => ?_)
    refine y_aload_n C 1 dL_law_659 rfl ?_
    refine y_sx (pc := 660) (n := 1) (v := 1) (x := x1) C S 0 rfl (by decide) i1 e1 dL_law_660 dL_law_661 dL_law_662 dL_law_663 dL_law_664 ?_
    have g := y_callW (rest := [xval (vI v)]) (lv := [(3, .int i), (2, .ref aM), (1, .ref aX)]) (pc := 665) (T0 := T0) (ad0 := ad0) (Q := Q) (sa := sa) (l := l) (e := e) (below := below) C (av := [vI x1.toInt]) (N := aM) (ci := 10) (idx := 85) (na := 1) (z := 0) (Rm := room_1) okX10_trace rfl (Nat.le_of_ble_eq_true rfl : 2 ≤ 2) hw2 rfl (by decide) gL_85.1 gL_85.2.1 gL_85.2.2 (al_X hal).2 rfl (by decide) (Nat.le_of_ble_eq_true rfl : 1 ≤ 8) (fun r M2 hP => ?_) dL_law_665 (fun r M2 hP => ?_)
    · simp only [List.map_cons, List.map_nil, i32] at g
      exact g
    · exact rl_room hP.2 (by omega)
    · obtain ⟨e0, hr⟩ := hP
      subst e0
      exact y_icmp_eq (pc := 668) (x := Int32.ofInt v) (y1 := Int32.ofInt v) C 719 dL_law_668 (by decide) (fun _ => kk M2 hr) (fun hh => absurd rfl hh)
theorem k_finding (C : lz_C p s m args meth c D dA b yL_law cL_law 8 ret) (S : lw_S sa L xs s b) {M : xm} {n : Int} (h : Rel M n) (hn : 0 ≤ n ∧ n ≤ 512) {i : Int32} (i1 : vp_in (i + 1) L) (kk : ∀ M', Rel M' (n + 1) → lz_Y sa p l e room_1 s m args below meth c D dA b 8 T0 ad0 Q (mK M') (mS M') (xT M') (xA M') (mB M') (xR M') 719 [(3, .int i), (2, .ref aM), (1, .ref aX)] []) : lz_Y sa p l e room_1 s m args below meth c D dA b 8 T0 ad0 Q (mK M) (mS M) (xT M) (xA M) (mB M) (xR M) 673 [(3, .int i), (2, .ref aM), (1, .ref aX)] [] := by
  obtain ⟨x1, e1⟩ : ∃ x, xs (i + 1).toNatClampNeg = x := ⟨_, rfl⟩
  refine y_asm (fun hal => ?_)
  refine y_aload_n C 2 dL_law_673 rfl ?_
  refine y_sx (pc := 674) (n := 1) (v := 1) (x := x1) C S 0 rfl (by decide) i1 e1 dL_law_674 dL_law_675 dL_law_676 dL_law_677 dL_law_678 ?_
  have hw := t_finding h x1.toInt (i32_b x1)
  have g := y_callW (rest := []) (lv := [(3, .int i), (2, .ref aM), (1, .ref aX)]) (pc := 679) (T0 := T0) (ad0 := ad0) (Q := Q) (sa := sa) (l := l) (e := e) (below := below) C (av := [vI x1.toInt]) (N := aX) (ci := 9) (idx := 86) (na := 1) (z := 0) (Rm := room_1) okX9_finding rfl (Nat.le_of_ble_eq_true rfl : 2 ≤ 2) hw rfl (by decide) gL_86.1 gL_86.2.1 gL_86.2.2 (al_X hal).1 rfl (by decide) (by decide) (fun r M1 hP => ?_) dL_law_679 (fun r M1 hP => ?_)
  · simp only [List.map_cons, List.map_nil, i32] at g
    exact g
  · exact two_room (av := [vR aM, vI x1.toInt]) okX10_finding (Nat.le_of_ble_eq_true rfl : 2 ≤ 2) (by omega) hP
  · obtain ⟨v, e0, hw2⟩ := hP
    subst e0
    show lz_Y sa p l e room_1 s m args below meth c D dA b 8 T0 ad0 Q (mK M1) (mS M1) (xT M1) (xA M1) (mB M1) (xR M1) 682 [(3, .int i), (2, .ref aM), (1, .ref aX)] [xval (vI v)]
    clear h hw hal
    refine y_asm (fun hal => ?_)
    refine y_aload_n C 1 dL_law_682 rfl ?_
    refine y_sx (pc := 683) (n := 1) (v := 1) (x := x1) C S 0 rfl (by decide) i1 e1 dL_law_683 dL_law_684 dL_law_685 dL_law_686 dL_law_687 ?_
    have g := y_callW (rest := [xval (vI v)]) (lv := [(3, .int i), (2, .ref aM), (1, .ref aX)]) (pc := 688) (T0 := T0) (ad0 := ad0) (Q := Q) (sa := sa) (l := l) (e := e) (below := below) C (av := [vI x1.toInt]) (N := aM) (ci := 10) (idx := 89) (na := 1) (z := 0) (Rm := room_1) okX10_finding rfl (Nat.le_of_ble_eq_true rfl : 2 ≤ 2) hw2 rfl (by decide) gL_89.1 gL_89.2.1 gL_89.2.2 (al_X hal).2 rfl (by decide) (Nat.le_of_ble_eq_true rfl : 1 ≤ 8) (fun r M2 hP => ?_) dL_law_688 (fun r M2 hP => ?_)
    · simp only [List.map_cons, List.map_nil, i32] at g
      exact g
    · exact rl_room hP.2 (by omega)
    · obtain ⟨e0, hr⟩ := hP
      subst e0
      exact y_icmp_eq (pc := 691) (x := Int32.ofInt v) (y1 := Int32.ofInt v) C 719 dL_law_691 (by decide) (fun _ => kk M2 hr) (fun hh => absurd rfl hh)
theorem k_count (C : lz_C p s m args meth c D dA b yL_law cL_law 8 ret) (S : lw_S sa L xs s b) {M : xm} {n : Int} (h : Rel M n) (hn : 0 ≤ n ∧ n ≤ 512) {i : Int32} (i1 : vp_in (i + 1) L) (kk : ∀ M', Rel M' (n + 1) → lz_Y sa p l e room_1 s m args below meth c D dA b 8 T0 ad0 Q (mK M') (mS M') (xT M') (xA M') (mB M') (xR M') 719 [(3, .int i), (2, .ref aM), (1, .ref aX)] []) : lz_Y sa p l e room_1 s m args below meth c D dA b 8 T0 ad0 Q (mK M) (mS M) (xT M) (xA M) (mB M) (xR M) 696 [(3, .int i), (2, .ref aM), (1, .ref aX)] [] := by
  obtain ⟨x1, e1⟩ : ∃ x, xs (i + 1).toNatClampNeg = x := ⟨_, rfl⟩
  refine y_asm (fun hal => ?_)
  refine y_aload_n C 2 dL_law_696 rfl ?_
  refine y_sx (pc := 697) (n := 1) (v := 1) (x := x1) C S 0 rfl (by decide) i1 e1 dL_law_697 dL_law_698 dL_law_699 dL_law_700 dL_law_701 ?_
  have hw := t_count h x1.toInt (i32_b x1)
  have g := y_callW (rest := []) (lv := [(3, .int i), (2, .ref aM), (1, .ref aX)]) (pc := 702) (T0 := T0) (ad0 := ad0) (Q := Q) (sa := sa) (l := l) (e := e) (below := below) C (av := [vI x1.toInt]) (N := aX) (ci := 9) (idx := 90) (na := 1) (z := 0) (Rm := room_1) okX9_count rfl (Nat.le_of_ble_eq_true rfl : 2 ≤ 2) hw rfl (by decide) gL_90.1 gL_90.2.1 gL_90.2.2 (al_X hal).1 rfl (by decide) (by decide) (fun r M1 hP => ?_) dL_law_702 (fun r M1 hP => ?_)
  · simp only [List.map_cons, List.map_nil, i32] at g
    exact g
  · exact two_room (av := [vR aM, vI x1.toInt]) okX10_count (Nat.le_of_ble_eq_true rfl : 2 ≤ 4) (by omega) hP
  · obtain ⟨v, e0, hw2⟩ := hP
    subst e0
    show lz_Y sa p l e room_1 s m args below meth c D dA b 8 T0 ad0 Q (mK M1) (mS M1) (xT M1) (xA M1) (mB M1) (xR M1) 705 [(3, .int i), (2, .ref aM), (1, .ref aX)] [xval (vI v)]
    clear h hw hal
    refine y_asm (fun hal => ?_)
    refine y_aload_n C 1 dL_law_705 rfl ?_
    refine y_sx (pc := 706) (n := 1) (v := 1) (x := x1) C S 0 rfl (by decide) i1 e1 dL_law_706 dL_law_707 dL_law_708 dL_law_709 dL_law_710 ?_
    have g := y_callW (rest := [xval (vI v)]) (lv := [(3, .int i), (2, .ref aM), (1, .ref aX)]) (pc := 711) (T0 := T0) (ad0 := ad0) (Q := Q) (sa := sa) (l := l) (e := e) (below := below) C (av := [vI x1.toInt]) (N := aM) (ci := 10) (idx := 93) (na := 1) (z := 0) (Rm := room_1) okX10_count rfl (Nat.le_of_ble_eq_true rfl : 2 ≤ 4) hw2 rfl (by decide) gL_93.1 gL_93.2.1 gL_93.2.2 (al_X hal).2 rfl (by decide) (Nat.le_of_ble_eq_true rfl : 1 ≤ 8) (fun r M2 hP => ?_) dL_law_711 (fun r M2 hP => ?_)
    · simp only [List.map_cons, List.map_nil, i32] at g
      exact g
    · exact rl_room hP.2 (by omega)
    · obtain ⟨e0, hr⟩ := hP
      subst e0
      exact y_icmp_eq (pc := 714) (x := Int32.ofInt v) (y1 := Int32.ofInt v) C 719 dL_law_714 (by decide) (fun _ => kk M2 hr) (fun hh => absurd rfl hh)
end YM
