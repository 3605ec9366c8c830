/-! 15.grow: a row an instruction, over the small machine's state (written by wip/whole/grow.py) -/
section GR
variable {p : Program} {l : Launch} {e : Env} {Rm : Room} {s : State} {m : MethodId} {args : Array Value} {below : List Frame} {meth : Method} {c : Code} {D : va_G} {dA : Nat → ClassId} {b : Nat} {T0 : lz_T} {ad0 : Nat → Nat} {Q : State → Prop} {kc ks : Nat} {M : xm} {pc : Nat} {lv st : List xv} {q : xq}
abbrev ZC (q : xq) (p : Program) (s : State) (m : MethodId) (args : Array Value) (meth : Method) (c : Code) (D : va_G) (dA : Nat → ClassId) (b : Nat) : Prop := lz_C p s m args meth c D dA b (xqy q) (xqc q) (xqn q) (xqr q)
abbrev ZZ (q : xq) (p : Program) (l : Launch) (e : Env) (Rm : Room) (s : State) (m : MethodId) (args : Array Value) (below : List Frame) (meth : Method) (c : Code) (D : va_G) (dA : Nat → ClassId) (b : Nat) (T0 : lz_T) (ad0 : Nat → Nat) (Q : State → Prop) (kc ks : Nat) (M : xm) (pc : Nat) (lv st : List xv) : Prop :=
  lz_Z p l e Rm s m args below meth c D dA b (xqn q) T0 ad0 Q kc ks (xT M) (xA M) (mB M) (xR M) pc (xlv 0 lv) (st.map xval)
theorem g_iadd (C : ZC q p s m args meth c D dA b) {x y : Int} (hd : decode (xqc q) pc = .ok (.iadd, 1))  (kk : ZZ q p l e Rm s m args below meth c D dA b T0 ad0 Q kc ks M (pc + 1) lv (vI (x + y) :: st)) : ZZ q p l e Rm s m args below meth c D dA b T0 ad0 Q kc ks M pc lv (vI y :: vI x :: st) := z_iadd C hd (by rw [← Int32.ofInt_add]; exact kk)
theorem g_isub (C : ZC q p s m args meth c D dA b) {x y : Int} (hd : decode (xqc q) pc = .ok (.isub, 1))  (kk : ZZ q p l e Rm s m args below meth c D dA b T0 ad0 Q kc ks M (pc + 1) lv (vI (x - y) :: st)) : ZZ q p l e Rm s m args below meth c D dA b T0 ad0 Q kc ks M pc lv (vI y :: vI x :: st) := z_isub C hd (by rw [← Int32.ofInt_sub]; exact kk)
theorem g_imul (C : ZC q p s m args meth c D dA b) {x y : Int} (hd : decode (xqc q) pc = .ok (.imul, 1))  (kk : ZZ q p l e Rm s m args below meth c D dA b T0 ad0 Q kc ks M (pc + 1) lv (vI (x * y) :: st)) : ZZ q p l e Rm s m args below meth c D dA b T0 ad0 Q kc ks M pc lv (vI y :: vI x :: st) := z_imul C hd (by rw [← Int32.ofInt_mul]; exact kk)
theorem g_iand (C : ZC q p s m args meth c D dA b) {x y : Int} (hd : decode (xqc q) pc = .ok (.iand, 1))  (kk : ZZ q p l e Rm s m args below meth c D dA b T0 ad0 Q kc ks M (pc + 1) lv (vI (xiand x y) :: st)) : ZZ q p l e Rm s m args below meth c D dA b T0 ad0 Q kc ks M pc lv (vI y :: vI x :: st) := z_iand C hd (by unfold ZZ at kk; rw [List.map_cons, xiand, xvt] at kk; exact kk)
theorem g_ior (C : ZC q p s m args meth c D dA b) {x y : Int} (hd : decode (xqc q) pc = .ok (.ior, 1))  (kk : ZZ q p l e Rm s m args below meth c D dA b T0 ad0 Q kc ks M (pc + 1) lv (vI (xior x y) :: st)) : ZZ q p l e Rm s m args below meth c D dA b T0 ad0 Q kc ks M pc lv (vI y :: vI x :: st) := z_ior C hd (by unfold ZZ at kk; rw [List.map_cons, xior, xvt] at kk; exact kk)
theorem g_ixor (C : ZC q p s m args meth c D dA b) {x y : Int} (hd : decode (xqc q) pc = .ok (.ixor, 1))  (kk : ZZ q p l e Rm s m args below meth c D dA b T0 ad0 Q kc ks M (pc + 1) lv (vI (xixor x y) :: st)) : ZZ q p l e Rm s m args below meth c D dA b T0 ad0 Q kc ks M pc lv (vI y :: vI x :: st) := z_ixor C hd (by unfold ZZ at kk; rw [List.map_cons, xixor, xvt] at kk; exact kk)
theorem g_ishl (C : ZC q p s m args meth c D dA b) {x y : Int} (hd : decode (xqc q) pc = .ok (.ishl, 1))  (kk : ZZ q p l e Rm s m args below meth c D dA b T0 ad0 Q kc ks M (pc + 1) lv (vI (xishl x y) :: st)) : ZZ q p l e Rm s m args below meth c D dA b T0 ad0 Q kc ks M pc lv (vI y :: vI x :: st) := z_ishl C hd (by unfold ZZ at kk; rw [List.map_cons, xishl, xvt] at kk; exact kk)
theorem g_ishr (C : ZC q p s m args meth c D dA b) {x y : Int} (hd : decode (xqc q) pc = .ok (.ishr, 1))  (kk : ZZ q p l e Rm s m args below meth c D dA b T0 ad0 Q kc ks M (pc + 1) lv (vI (xishr x y) :: st)) : ZZ q p l e Rm s m args below meth c D dA b T0 ad0 Q kc ks M pc lv (vI y :: vI x :: st) := z_ishr C hd (by unfold ZZ at kk; rw [List.map_cons, xishr, xvt] at kk; exact kk)
theorem g_iushr (C : ZC q p s m args meth c D dA b) {x y : Int} (hd : decode (xqc q) pc = .ok (.iushr, 1))  (kk : ZZ q p l e Rm s m args below meth c D dA b T0 ad0 Q kc ks M (pc + 1) lv (vI (xiushr x y) :: st)) : ZZ q p l e Rm s m args below meth c D dA b T0 ad0 Q kc ks M pc lv (vI y :: vI x :: st) := z_iushr C hd (by unfold ZZ at kk; rw [List.map_cons, xiushr, xvt] at kk; exact kk)
theorem g_irem (C : ZC q p s m args meth c D dA b) {x y : Int} (hd : decode (xqc q) pc = .ok (.irem, 1)) (h0 : ¬ wr y = 0) (kk : ZZ q p l e Rm s m args below meth c D dA b T0 ad0 Q kc ks M (pc + 1) lv (vI ((wr x).tmod (wr y)) :: st)) : ZZ q p l e Rm s m args below meth c D dA b T0 ad0 Q kc ks M pc lv (vI y :: vI x :: st) := z_irem C hd (fun z => h0 (by rw [← wr_eq, z]; rfl)) (by rw [xrem]; exact kk)
theorem g_ineg (C : ZC q p s m args meth c D dA b) {x : Int} (hd : decode (xqc q) pc = .ok (.ineg, 1))  (kk : ZZ q p l e Rm s m args below meth c D dA b T0 ad0 Q kc ks M (pc + 1) lv (vI (-x) :: st)) : ZZ q p l e Rm s m args below meth c D dA b T0 ad0 Q kc ks M pc lv (vI x :: st) := z_ineg C hd (by rw [← Int32.ofInt_neg]; exact kk)
theorem g_ladd (C : ZC q p s m args meth c D dA b) {x y : Int} (hd : decode (xqc q) pc = .ok (.ladd, 1))  (kk : ZZ q p l e Rm s m args below meth c D dA b T0 ad0 Q kc ks M (pc + 1) lv (vJ (x + y) :: st)) : ZZ q p l e Rm s m args below meth c D dA b T0 ad0 Q kc ks M pc lv (vJ y :: vJ x :: st) := z_ladd C hd (by rw [← Int64.ofInt_add]; exact kk)
theorem g_lsub (C : ZC q p s m args meth c D dA b) {x y : Int} (hd : decode (xqc q) pc = .ok (.lsub, 1))  (kk : ZZ q p l e Rm s m args below meth c D dA b T0 ad0 Q kc ks M (pc + 1) lv (vJ (x - y) :: st)) : ZZ q p l e Rm s m args below meth c D dA b T0 ad0 Q kc ks M pc lv (vJ y :: vJ x :: st) := z_lsub C hd (by rw [← Int64.ofInt_sub]; exact kk)
theorem g_lneg (C : ZC q p s m args meth c D dA b) {x : Int} (hd : decode (xqc q) pc = .ok (.lneg, 1))  (kk : ZZ q p l e Rm s m args below meth c D dA b T0 ad0 Q kc ks M (pc + 1) lv (vJ (-x) :: st)) : ZZ q p l e Rm s m args below meth c D dA b T0 ad0 Q kc ks M pc lv (vJ x :: st) := z_lneg C hd (by rw [← Int64.ofInt_neg]; exact kk)
theorem g_ldiv (C : ZC q p s m args meth c D dA b) {x y : Int} (hd : decode (xqc q) pc = .ok (.ldiv, 1)) (h0 : ¬ w64 y = 0) (kk : ZZ q p l e Rm s m args below meth c D dA b T0 ad0 Q kc ks M (pc + 1) lv (vJ ((w64 x).tdiv (w64 y)) :: st)) : ZZ q p l e Rm s m args below meth c D dA b T0 ad0 Q kc ks M pc lv (vJ y :: vJ x :: st) := z_ldiv C hd (fun z => h0 (by rw [← w64_eq, z]; rfl)) (by rw [xdivJ]; exact kk)
theorem g_lcmp (C : ZC q p s m args meth c D dA b) {x y : Int} (hd : decode (xqc q) pc = .ok (.lcmp, 1))  (kk : ZZ q p l e Rm s m args below meth c D dA b T0 ad0 Q kc ks M (pc + 1) lv (vI (xlcmp (w64 x) (w64 y)) :: st)) : ZZ q p l e Rm s m args below meth c D dA b T0 ad0 Q kc ks M pc lv (vJ y :: vJ x :: st) := z_lcmp C hd (by rw [xcmpJ]; exact kk)
theorem g_dadd (C : ZC q p s m args meth c D dA b) {x y : UInt64} (hd : decode (xqc q) pc = .ok (.dadd, 1)) (h0 : isNaN64 (FP.dadd x y) = false) (kk : ZZ q p l e Rm s m args below meth c D dA b T0 ad0 Q kc ks M (pc + 1) lv (vD (FP.dadd x y) :: st)) : ZZ q p l e Rm s m args below meth c D dA b T0 ad0 Q kc ks M pc lv (vD y :: vD x :: st) := z_dadd C hd (n64_of h0) kk
theorem g_dmul (C : ZC q p s m args meth c D dA b) {x y : UInt64} (hd : decode (xqc q) pc = .ok (.dmul, 1)) (h0 : isNaN64 (FP.dmul x y) = false) (kk : ZZ q p l e Rm s m args below meth c D dA b T0 ad0 Q kc ks M (pc + 1) lv (vD (FP.dmul x y) :: st)) : ZZ q p l e Rm s m args below meth c D dA b T0 ad0 Q kc ks M pc lv (vD y :: vD x :: st) := z_dmul C hd (n64_of h0) kk
theorem g_ddiv (C : ZC q p s m args meth c D dA b) {x y : UInt64} (hd : decode (xqc q) pc = .ok (.ddiv, 1)) (h0 : isNaN64 (FP.ddiv x y) = false) (kk : ZZ q p l e Rm s m args below meth c D dA b T0 ad0 Q kc ks M (pc + 1) lv (vD (FP.ddiv x y) :: st)) : ZZ q p l e Rm s m args below meth c D dA b T0 ad0 Q kc ks M pc lv (vD y :: vD x :: st) := z_ddiv C hd (n64_of h0) kk
theorem g_dcmp (C : ZC q p s m args meth c D dA b) {x y : UInt64} {op : CmpOp} (hd : decode (xqc q) pc = .ok (.dcmp op, 1))  (kk : ZZ q p l e Rm s m args below meth c D dA b T0 ad0 Q kc ks M (pc + 1) lv (vI (Op.cmpValue (FP.dcmp x y) op).toInt :: st)) : ZZ q p l e Rm s m args below meth c D dA b T0 ad0 Q kc ks M pc lv (vD y :: vD x :: st) := z_dcmp C hd (by unfold ZZ at kk; rw [List.map_cons, xvt] at kk; exact kk)
theorem g_i2l (C : ZC q p s m args meth c D dA b) {x : Int} (hd : decode (xqc q) pc = .ok (.i2l, 1))  (kk : ZZ q p l e Rm s m args below meth c D dA b T0 ad0 Q kc ks M (pc + 1) lv (vJ (wr x) :: st)) : ZZ q p l e Rm s m args below meth c D dA b T0 ad0 Q kc ks M pc lv (vI x :: st) := z_i2l C hd (by rw [xi2l]; exact kk)
theorem g_l2i (C : ZC q p s m args meth c D dA b) {x : Int} (hd : decode (xqc q) pc = .ok (.l2i, 1))  (kk : ZZ q p l e Rm s m args below meth c D dA b T0 ad0 Q kc ks M (pc + 1) lv (vI x :: st)) : ZZ q p l e Rm s m args below meth c D dA b T0 ad0 Q kc ks M pc lv (vJ x :: st) := z_l2i C hd (by rw [xl2i]; exact kk)
theorem g_i2d (C : ZC q p s m args meth c D dA b) {x : Int} (hd : decode (xqc q) pc = .ok (.i2d, 1))  (kk : ZZ q p l e Rm s m args below meth c D dA b T0 ad0 Q kc ks M (pc + 1) lv (vD (FP.i2d (Int32.ofInt x)) :: st)) : ZZ q p l e Rm s m args below meth c D dA b T0 ad0 Q kc ks M pc lv (vI x :: st) := z_i2d C hd kk
theorem g_l2d (C : ZC q p s m args meth c D dA b) {x : Int} (hd : decode (xqc q) pc = .ok (.l2d, 1))  (kk : ZZ q p l e Rm s m args below meth c D dA b T0 ad0 Q kc ks M (pc + 1) lv (vD (FP.l2d (Int64.ofInt x)) :: st)) : ZZ q p l e Rm s m args below meth c D dA b T0 ad0 Q kc ks M pc lv (vJ x :: st) := z_l2d C hd kk
theorem g_d2i (C : ZC q p s m args meth c D dA b) {x : UInt64} (hd : decode (xqc q) pc = .ok (.d2i, 1))  (kk : ZZ q p l e Rm s m args below meth c D dA b T0 ad0 Q kc ks M (pc + 1) lv (vI (FP.d2i x).toInt :: st)) : ZZ q p l e Rm s m args below meth c D dA b T0 ad0 Q kc ks M pc lv (vD x :: st) := z_d2i C hd (by unfold ZZ at kk; rw [List.map_cons, xvt] at kk; exact kk)
theorem g_d2l (C : ZC q p s m args meth c D dA b) {x : UInt64} (hd : decode (xqc q) pc = .ok (.d2l, 1))  (kk : ZZ q p l e Rm s m args below meth c D dA b T0 ad0 Q kc ks M (pc + 1) lv (vJ (FP.d2l x).toInt :: st)) : ZZ q p l e Rm s m args below meth c D dA b T0 ad0 Q kc ks M pc lv (vD x :: st) := z_d2l C hd (by unfold ZZ at kk; rw [List.map_cons, xvtJ] at kk; exact kk)
theorem g_d2f (C : ZC q p s m args meth c D dA b) {x : UInt64} (hd : decode (xqc q) pc = .ok (.d2f, 1)) (h0 : isNaN32 (FP.d2f x) = false) (kk : ZZ q p l e Rm s m args below meth c D dA b T0 ad0 Q kc ks M (pc + 1) lv (vF (FP.d2f x) :: st)) : ZZ q p l e Rm s m args below meth c D dA b T0 ad0 Q kc ks M pc lv (vD x :: st) := z_d2f C hd (n32_of h0) kk
theorem g_f2d (C : ZC q p s m args meth c D dA b) {x : UInt32} (hd : decode (xqc q) pc = .ok (.f2d, 1)) (h0 : isNaN64 (FP.f2d x) = false) (kk : ZZ q p l e Rm s m args below meth c D dA b T0 ad0 Q kc ks M (pc + 1) lv (vD (FP.f2d x) :: st)) : ZZ q p l e Rm s m args below meth c D dA b T0 ad0 Q kc ks M pc lv (vF x :: st) := z_f2d C hd (n64_of h0) kk
theorem g_iconst (C : ZC q p s m args meth c D dA b) {x : Int} (hd : decode (xqc q) pc = .ok (.iconst x, 1))  (kk : ZZ q p l e Rm s m args below meth c D dA b T0 ad0 Q kc ks M (pc + 1) lv (vI x :: st)) : ZZ q p l e Rm s m args below meth c D dA b T0 ad0 Q kc ks M pc lv (st) := z_iconst C hd rfl kk
theorem g_bipush (C : ZC q p s m args meth c D dA b) {x : Int} (hd : decode (xqc q) pc = .ok (.bipush x, 2))  (kk : ZZ q p l e Rm s m args below meth c D dA b T0 ad0 Q kc ks M (pc + 2) lv (vI (Int8.ofInt x).toInt32.toInt :: st)) : ZZ q p l e Rm s m args below meth c D dA b T0 ad0 Q kc ks M pc lv (st) := z_bipush C hd rfl (by unfold ZZ at kk; rw [List.map_cons, xvt] at kk; exact kk)
theorem g_sipush (C : ZC q p s m args meth c D dA b) {x : Int} (hd : decode (xqc q) pc = .ok (.sipush x, 3))  (kk : ZZ q p l e Rm s m args below meth c D dA b T0 ad0 Q kc ks M (pc + 3) lv (vI (Int16.ofInt x).toInt32.toInt :: st)) : ZZ q p l e Rm s m args below meth c D dA b T0 ad0 Q kc ks M pc lv (st) := z_sipush C hd rfl (by unfold ZZ at kk; rw [List.map_cons, xvt] at kk; exact kk)
theorem g_lconst (C : ZC q p s m args meth c D dA b) {x : Fin 2} (hd : decode (xqc q) pc = .ok (.lconst x, 1))  (kk : ZZ q p l e Rm s m args below meth c D dA b T0 ad0 Q kc ks M (pc + 1) lv (vJ (x : Nat) :: st)) : ZZ q p l e Rm s m args below meth c D dA b T0 ad0 Q kc ks M pc lv (st) := z_lconst C hd rfl kk
theorem g_dconst (C : ZC q p s m args meth c D dA b) {x : Fin 2} (hd : decode (xqc q) pc = .ok (.dconst x, 1)) (kk : ZZ q p l e Rm s m args below meth c D dA b T0 ad0 Q kc ks M (pc + 1) lv (vD (if (x : Nat) = 0 then FP.dconst0 else FP.dconst1) :: st)) : ZZ q p l e Rm s m args below meth c D dA b T0 ad0 Q kc ks M pc lv st := by
  match x, hd, kk with
  | 0, hd, kk => exact z_dconst0 C hd kk
  | 1, hd, kk => exact z_dconst1 C hd kk
theorem g_null (C : ZC q p s m args meth c D dA b)  (hd : decode (xqc q) pc = .ok (.aconst_null, 1))  (kk : ZZ q p l e Rm s m args below meth c D dA b T0 ad0 Q kc ks M (pc + 1) lv (vR 0 :: st)) : ZZ q p l e Rm s m args below meth c D dA b T0 ad0 Q kc ks M pc lv (st) := z_null C hd kk
theorem g_ldc (C : ZC q p s m args meth c D dA b) {k : Nat} {x : Int} (hd : decode (xqc q) pc = .ok (.ldc k, 2)) (hw : Cond.constant (xqy q).cls k (Int32.ofInt x) ∈ lw_tb2) (kk : ZZ q p l e Rm s m args below meth c D dA b T0 ad0 Q kc ks M (pc + 2) lv (vI x :: st)) : ZZ q p l e Rm s m args below meth c D dA b T0 ad0 Q kc ks M pc lv (st) := z_ldc C hd hw kk
theorem g_ldcw (C : ZC q p s m args meth c D dA b) {k : Nat} {x : Int} (hd : decode (xqc q) pc = .ok (.ldc_w k, 3)) (hw : Cond.constant (xqy q).cls k (Int32.ofInt x) ∈ lw_tb2) (kk : ZZ q p l e Rm s m args below meth c D dA b T0 ad0 Q kc ks M (pc + 3) lv (vI x :: st)) : ZZ q p l e Rm s m args below meth c D dA b T0 ad0 Q kc ks M pc lv (st) := z_ldcw C hd hw kk
theorem g_ldc2d (C : ZC q p s m args meth c D dA b) {k : Nat} {x : UInt64} (hd : decode (xqc q) pc = .ok (.ldc2_w k, 3)) (hw : Cond.constantDouble (xqy q).cls k x ∈ lw_tb2) (kk : ZZ q p l e Rm s m args below meth c D dA b T0 ad0 Q kc ks M (pc + 3) lv (vD x :: st)) : ZZ q p l e Rm s m args below meth c D dA b T0 ad0 Q kc ks M pc lv (st) := z_ldc2d C hd hw kk
theorem g_ldc2l (C : ZC q p s m args meth c D dA b) {k : Nat} {x : Int} (hd : decode (xqc q) pc = .ok (.ldc2_w k, 3)) (hw : Cond.constantLong (xqy q).cls k (Int64.ofInt x) ∈ lw_tb2) (kk : ZZ q p l e Rm s m args below meth c D dA b T0 ad0 Q kc ks M (pc + 3) lv (vJ x :: st)) : ZZ q p l e Rm s m args below meth c D dA b T0 ad0 Q kc ks M pc lv (st) := z_ldc2l C hd hw kk
theorem g_iload_n (C : ZC q p s m args meth c D dA b) {k : Fin 4} (hd : decode (xqc q) pc = .ok (.iload_n k, 1)) (h0 : isI (gv (k : Nat) lv) = true) (kk : ZZ q p l e Rm s m args below meth c D dA b T0 ad0 Q kc ks M (pc + 1) lv (gv (k : Nat) lv :: st)) : ZZ q p l e Rm s m args below meth c D dA b T0 ad0 Q kc ks M pc lv st := by
  have hx : isX (gv (k : Nat) lv) = false := by
    generalize gv (k : Nat) lv = v at h0 ⊢
    rcases v with x | x | x | x | x | x <;> first | rfl | cases h0
  obtain ⟨j, hj⟩ := xlv_pos hx
  generalize gv (k : Nat) lv = v at h0 kk hj
  rcases v with x | x | x | x | x | x <;> try cases h0
  exact z_iload_n C j hd hj kk
theorem g_iload (C : ZC q p s m args meth c D dA b) {k : Nat} (hd : decode (xqc q) pc = .ok (.iload k, 2)) (h0 : isI (gv k lv) = true) (kk : ZZ q p l e Rm s m args below meth c D dA b T0 ad0 Q kc ks M (pc + 2) lv (gv k lv :: st)) : ZZ q p l e Rm s m args below meth c D dA b T0 ad0 Q kc ks M pc lv st := by
  have hx : isX (gv k lv) = false := by
    generalize gv k lv = v at h0 ⊢
    rcases v with x | x | x | x | x | x <;> first | rfl | cases h0
  obtain ⟨j, hj⟩ := xlv_pos hx
  generalize gv k lv = v at h0 kk hj
  rcases v with x | x | x | x | x | x <;> try cases h0
  exact z_iload C j hd hj kk
theorem g_lload_n (C : ZC q p s m args meth c D dA b) {k : Fin 4} (hd : decode (xqc q) pc = .ok (.lload_n k, 1)) (h0 : isJ (gv (k : Nat) lv) = true) (kk : ZZ q p l e Rm s m args below meth c D dA b T0 ad0 Q kc ks M (pc + 1) lv (gv (k : Nat) lv :: st)) : ZZ q p l e Rm s m args below meth c D dA b T0 ad0 Q kc ks M pc lv st := by
  have hx : isX (gv (k : Nat) lv) = false := by
    generalize gv (k : Nat) lv = v at h0 ⊢
    rcases v with x | x | x | x | x | x <;> first | rfl | cases h0
  obtain ⟨j, hj⟩ := xlv_pos hx
  generalize gv (k : Nat) lv = v at h0 kk hj
  rcases v with x | x | x | x | x | x <;> try cases h0
  exact z_lload_n C j hd hj kk
theorem g_lload (C : ZC q p s m args meth c D dA b) {k : Nat} (hd : decode (xqc q) pc = .ok (.lload k, 2)) (h0 : isJ (gv k lv) = true) (kk : ZZ q p l e Rm s m args below meth c D dA b T0 ad0 Q kc ks M (pc + 2) lv (gv k lv :: st)) : ZZ q p l e Rm s m args below meth c D dA b T0 ad0 Q kc ks M pc lv st := by
  have hx : isX (gv k lv) = false := by
    generalize gv k lv = v at h0 ⊢
    rcases v with x | x | x | x | x | x <;> first | rfl | cases h0
  obtain ⟨j, hj⟩ := xlv_pos hx
  generalize gv k lv = v at h0 kk hj
  rcases v with x | x | x | x | x | x <;> try cases h0
  exact z_lload C j hd hj kk
theorem g_dload_n (C : ZC q p s m args meth c D dA b) {k : Fin 4} (hd : decode (xqc q) pc = .ok (.dload_n k, 1)) (h0 : isD (gv (k : Nat) lv) = true) (kk : ZZ q p l e Rm s m args below meth c D dA b T0 ad0 Q kc ks M (pc + 1) lv (gv (k : Nat) lv :: st)) : ZZ q p l e Rm s m args below meth c D dA b T0 ad0 Q kc ks M pc lv st := by
  have hx : isX (gv (k : Nat) lv) = false := by
    generalize gv (k : Nat) lv = v at h0 ⊢
    rcases v with x | x | x | x | x | x <;> first | rfl | cases h0
  obtain ⟨j, hj⟩ := xlv_pos hx
  generalize gv (k : Nat) lv = v at h0 kk hj
  rcases v with x | x | x | x | x | x <;> try cases h0
  exact z_dload_n C j hd hj kk
theorem g_dload (C : ZC q p s m args meth c D dA b) {k : Nat} (hd : decode (xqc q) pc = .ok (.dload k, 2)) (h0 : isD (gv k lv) = true) (kk : ZZ q p l e Rm s m args below meth c D dA b T0 ad0 Q kc ks M (pc + 2) lv (gv k lv :: st)) : ZZ q p l e Rm s m args below meth c D dA b T0 ad0 Q kc ks M pc lv st := by
  have hx : isX (gv k lv) = false := by
    generalize gv k lv = v at h0 ⊢
    rcases v with x | x | x | x | x | x <;> first | rfl | cases h0
  obtain ⟨j, hj⟩ := xlv_pos hx
  generalize gv k lv = v at h0 kk hj
  rcases v with x | x | x | x | x | x <;> try cases h0
  exact z_dload C j hd hj kk
theorem g_aload_n (C : ZC q p s m args meth c D dA b) {k : Fin 4} (hd : decode (xqc q) pc = .ok (.aload_n k, 1)) (h0 : isR (gv (k : Nat) lv) = true) (kk : ZZ q p l e Rm s m args below meth c D dA b T0 ad0 Q kc ks M (pc + 1) lv (gv (k : Nat) lv :: st)) : ZZ q p l e Rm s m args below meth c D dA b T0 ad0 Q kc ks M pc lv st := by
  have hx : isX (gv (k : Nat) lv) = false := by
    generalize gv (k : Nat) lv = v at h0 ⊢
    rcases v with x | x | x | x | x | x <;> first | rfl | cases h0
  obtain ⟨j, hj⟩ := xlv_pos hx
  generalize gv (k : Nat) lv = v at h0 kk hj
  rcases v with x | x | x | x | x | x <;> try cases h0
  by_cases hz : x = 0
  · subst hz
    exact z_aload_nN C j hd hj kk
  · rw [show xval (.inr (.inr (.inr (.inr (.inl x))))) = .ref x from if_neg hz] at hj
    unfold ZZ at kk; rw [List.map_cons, show xval (.inr (.inr (.inr (.inr (.inl x))))) = .ref x from if_neg hz] at kk
    exact z_aload_n C j hd hj kk
theorem g_aload (C : ZC q p s m args meth c D dA b) {k : Nat} (hd : decode (xqc q) pc = .ok (.aload k, 2)) (h0 : isR (gv k lv) = true) (kk : ZZ q p l e Rm s m args below meth c D dA b T0 ad0 Q kc ks M (pc + 2) lv (gv k lv :: st)) : ZZ q p l e Rm s m args below meth c D dA b T0 ad0 Q kc ks M pc lv st := by
  have hx : isX (gv k lv) = false := by
    generalize gv k lv = v at h0 ⊢
    rcases v with x | x | x | x | x | x <;> first | rfl | cases h0
  obtain ⟨j, hj⟩ := xlv_pos hx
  generalize gv k lv = v at h0 kk hj
  rcases v with x | x | x | x | x | x <;> try cases h0
  by_cases hz : x = 0
  · subst hz
    exact z_aloadN C j hd hj kk
  · rw [show xval (.inr (.inr (.inr (.inr (.inl x))))) = .ref x from if_neg hz] at hj
    unfold ZZ at kk; rw [List.map_cons, show xval (.inr (.inr (.inr (.inr (.inl x))))) = .ref x from if_neg hz] at kk
    exact z_aload C j hd hj kk
theorem g_istore_n (C : ZC q p s m args meth c D dA b) {k : Fin 4} {v : xv} (hd : decode (xqc q) pc = .ok (.istore_n k, 1)) (h0 : isI v = true) (hn : (k : Nat) < xqn q) (kk : ZZ q p l e Rm s m args below meth c D dA b T0 ad0 Q kc ks M (pc + 1) (st1 (k : Nat) v lv) st) : ZZ q p l e Rm s m args below meth c D dA b T0 ad0 Q kc ks M pc lv (v :: st) := by
  have kk := z_lv (lv := ((k : Nat), xval v) :: (xlv 0 lv).filter (lz_p1 (k : Nat))) xlv_s1 kk
  rcases v with x | x | x | x | x | x <;> try cases h0
  exact z_istore_n C hd hn rfl kk
theorem g_istore (C : ZC q p s m args meth c D dA b) {k : Nat} {v : xv} (hd : decode (xqc q) pc = .ok (.istore k, 2)) (h0 : isI v = true) (hn : k < xqn q) (kk : ZZ q p l e Rm s m args below meth c D dA b T0 ad0 Q kc ks M (pc + 2) (st1 k v lv) st) : ZZ q p l e Rm s m args below meth c D dA b T0 ad0 Q kc ks M pc lv (v :: st) := by
  have kk := z_lv (lv := (k, xval v) :: (xlv 0 lv).filter (lz_p1 k)) xlv_s1 kk
  rcases v with x | x | x | x | x | x <;> try cases h0
  exact z_istore C hd hn rfl kk
theorem g_lstore_n (C : ZC q p s m args meth c D dA b) {k : Fin 4} {v : xv} (hd : decode (xqc q) pc = .ok (.lstore_n k, 1)) (h0 : isJ v = true) (hn : (k : Nat) + 1 < xqn q) (kk : ZZ q p l e Rm s m args below meth c D dA b T0 ad0 Q kc ks M (pc + 1) (st2 (k : Nat) v lv) st) : ZZ q p l e Rm s m args below meth c D dA b T0 ad0 Q kc ks M pc lv (v :: st) := by
  have kk := z_lv (lv := ((k : Nat), xval v) :: (xlv 0 lv).filter (lz_p2 (k : Nat))) xlv_s2 kk
  rcases v with x | x | x | x | x | x <;> try cases h0
  exact z_lstore_n C hd hn rfl kk
theorem g_lstore (C : ZC q p s m args meth c D dA b) {k : Nat} {v : xv} (hd : decode (xqc q) pc = .ok (.lstore k, 2)) (h0 : isJ v = true) (hn : k + 1 < xqn q) (kk : ZZ q p l e Rm s m args below meth c D dA b T0 ad0 Q kc ks M (pc + 2) (st2 k v lv) st) : ZZ q p l e Rm s m args below meth c D dA b T0 ad0 Q kc ks M pc lv (v :: st) := by
  have kk := z_lv (lv := (k, xval v) :: (xlv 0 lv).filter (lz_p2 k)) xlv_s2 kk
  rcases v with x | x | x | x | x | x <;> try cases h0
  exact z_lstore C hd hn rfl kk
theorem g_dstore_n (C : ZC q p s m args meth c D dA b) {k : Fin 4} {v : xv} (hd : decode (xqc q) pc = .ok (.dstore_n k, 1)) (h0 : isD v = true) (hn : (k : Nat) + 1 < xqn q) (kk : ZZ q p l e Rm s m args below meth c D dA b T0 ad0 Q kc ks M (pc + 1) (st2 (k : Nat) v lv) st) : ZZ q p l e Rm s m args below meth c D dA b T0 ad0 Q kc ks M pc lv (v :: st) := by
  have kk := z_lv (lv := ((k : Nat), xval v) :: (xlv 0 lv).filter (lz_p2 (k : Nat))) xlv_s2 kk
  rcases v with x | x | x | x | x | x <;> try cases h0
  exact z_dstore_n C hd hn rfl kk
theorem g_dstore (C : ZC q p s m args meth c D dA b) {k : Nat} {v : xv} (hd : decode (xqc q) pc = .ok (.dstore k, 2)) (h0 : isD v = true) (hn : k + 1 < xqn q) (kk : ZZ q p l e Rm s m args below meth c D dA b T0 ad0 Q kc ks M (pc + 2) (st2 k v lv) st) : ZZ q p l e Rm s m args below meth c D dA b T0 ad0 Q kc ks M pc lv (v :: st) := by
  have kk := z_lv (lv := (k, xval v) :: (xlv 0 lv).filter (lz_p2 k)) xlv_s2 kk
  rcases v with x | x | x | x | x | x <;> try cases h0
  exact z_dstore C hd hn rfl kk
theorem g_astore_n (C : ZC q p s m args meth c D dA b) {k : Fin 4} {v : xv} (hd : decode (xqc q) pc = .ok (.astore_n k, 1)) (h0 : isR v = true) (hn : (k : Nat) < xqn q) (kk : ZZ q p l e Rm s m args below meth c D dA b T0 ad0 Q kc ks M (pc + 1) (st1 (k : Nat) v lv) st) : ZZ q p l e Rm s m args below meth c D dA b T0 ad0 Q kc ks M pc lv (v :: st) := by
  have kk := z_lv (lv := ((k : Nat), xval v) :: (xlv 0 lv).filter (lz_p1 (k : Nat))) xlv_s1 kk
  rcases v with x | x | x | x | x | x <;> try cases h0
  by_cases hz : x = 0
  · subst hz
    exact z_astore_nN C hd hn rfl kk
  · rw [show xval (.inr (.inr (.inr (.inr (.inl x))))) = .ref x from if_neg hz] at kk
    show lz_Z _ _ _ _ _ _ _ _ _ _ _ _ _ _ _ _ _ _ _ _ _ _ _ _ _ (xval (.inr (.inr (.inr (.inr (.inl x))))) :: st.map xval)
    rw [show xval (.inr (.inr (.inr (.inr (.inl x))))) = .ref x from if_neg hz]
    exact z_astore_n C hd hn rfl kk
theorem g_astore (C : ZC q p s m args meth c D dA b) {k : Nat} {v : xv} (hd : decode (xqc q) pc = .ok (.astore k, 2)) (h0 : isR v = true) (hn : k < xqn q) (kk : ZZ q p l e Rm s m args below meth c D dA b T0 ad0 Q kc ks M (pc + 2) (st1 k v lv) st) : ZZ q p l e Rm s m args below meth c D dA b T0 ad0 Q kc ks M pc lv (v :: st) := by
  have kk := z_lv (lv := (k, xval v) :: (xlv 0 lv).filter (lz_p1 k)) xlv_s1 kk
  rcases v with x | x | x | x | x | x <;> try cases h0
  by_cases hz : x = 0
  · subst hz
    exact z_astoreN C hd hn rfl kk
  · rw [show xval (.inr (.inr (.inr (.inr (.inl x))))) = .ref x from if_neg hz] at kk
    show lz_Z _ _ _ _ _ _ _ _ _ _ _ _ _ _ _ _ _ _ _ _ _ _ _ _ _ (xval (.inr (.inr (.inr (.inr (.inl x))))) :: st.map xval)
    rw [show xval (.inr (.inr (.inr (.inr (.inl x))))) = .ref x from if_neg hz]
    exact z_astore C hd hn rfl kk
theorem g_iinc (C : ZC q p s m args meth c D dA b) {k : Nat} {x n : Int} (hd : decode (xqc q) pc = .ok (.iinc k n, 3)) (h0 : gv k lv = vI x) (hn : k < xqn q) (kk : ZZ q p l e Rm s m args below meth c D dA b T0 ad0 Q kc ks M (pc + 3) (st1 k (vI (x + n)) lv) st) : ZZ q p l e Rm s m args below meth c D dA b T0 ad0 Q kc ks M pc lv st := by
  obtain ⟨j, hj⟩ := xlv_pos (l := lv) (k := k) (by rw [h0]; rfl)
  rw [h0] at hj
  exact z_iinc C j hd hj (v := Int32.ofInt (x + n)) (by rw [Int32.ofInt_add]) hn rfl (z_lv (lv := (k, xval (vI (x + n))) :: (xlv 0 lv).filter (lz_p1 k)) xlv_s1 kk)
theorem g_dup (C : ZC q p s m args meth c D dA b) {v : xv} (hd : decode (xqc q) pc = .ok (.dup, 1)) (h0 : xc2 v = false) (kk : ZZ q p l e Rm s m args below meth c D dA b T0 ad0 Q kc ks M (pc + 1) lv (v :: v :: st)) : ZZ q p l e Rm s m args below meth c D dA b T0 ad0 Q kc ks M pc lv (v :: st) := z_dup C hd (by rw [xval_cat, h0]; rfl) kk
theorem g_dup2 (C : ZC q p s m args meth c D dA b) {v u : xv} (hd : decode (xqc q) pc = .ok (.dup2, 1)) (h0 : xc2 v = false) (h1 : xc2 u = false) (kk : ZZ q p l e Rm s m args below meth c D dA b T0 ad0 Q kc ks M (pc + 1) lv (v :: u :: v :: u :: st)) : ZZ q p l e Rm s m args below meth c D dA b T0 ad0 Q kc ks M pc lv (v :: u :: st) := z_dup2 C hd (by rw [xval_cat, h0]; rfl) (by rw [xval_cat, h1]; rfl) kk
theorem g_pop (C : ZC q p s m args meth c D dA b) {v : xv} (hd : decode (xqc q) pc = .ok (.pop, 1)) (h0 : xc2 v = false) (kk : ZZ q p l e Rm s m args below meth c D dA b T0 ad0 Q kc ks M (pc + 1) lv st) : ZZ q p l e Rm s m args below meth c D dA b T0 ad0 Q kc ks M pc lv (v :: st) := z_pop C hd (by rw [xval_cat, h0]; rfl) kk
theorem xtgt {pc : Nat} {off : Int} (h : 0 ≤ (pc : Int) + off) : (pc : Int) + off = (((pc : Int) + off).toNat : Nat) := by omega
theorem g_goto (C : ZC q p s m args meth c D dA b) {off : Int} (hd : decode (xqc q) pc = .ok (.goto off, 3)) (h0 : 0 ≤ (pc : Int) + off) (kk : ZZ q p l e Rm s m args below meth c D dA b T0 ad0 Q kc ks M ((pc : Int) + off).toNat lv st) : ZZ q p l e Rm s m args below meth c D dA b T0 ad0 Q kc ks M pc lv st := z_goto C _ hd (xtgt h0) kk
theorem g_icmp_eq (C : ZC q p s m args meth c D dA b) {x y : Int} {off : Int} (hd : decode (xqc q) pc = .ok (.if_icmp .eq off, 3)) (h0 : 0 ≤ (pc : Int) + off) (kt : wr x = wr y → ZZ q p l e Rm s m args below meth c D dA b T0 ad0 Q kc ks M ((pc : Int) + off).toNat lv st) (kf : ¬ (wr x = wr y) → ZZ q p l e Rm s m args below meth c D dA b T0 ad0 Q kc ks M (pc + 3) lv st) : ZZ q p l e Rm s m args below meth c D dA b T0 ad0 Q kc ks M pc lv (vI y :: vI x :: st) := z_icmp_eq C _ hd (xtgt h0) (fun z => kt ((wr_eqi x y).mp z)) (fun z => kf (fun h => z ((wr_eqi x y).mpr h)))
theorem g_if_eq (C : ZC q p s m args meth c D dA b) {x : Int} {off : Int} (hd : decode (xqc q) pc = .ok (.ifCond .eq off, 3)) (h0 : 0 ≤ (pc : Int) + off) (kt : wr x = 0 → ZZ q p l e Rm s m args below meth c D dA b T0 ad0 Q kc ks M ((pc : Int) + off).toNat lv st) (kf : ¬ (wr x = 0) → ZZ q p l e Rm s m args below meth c D dA b T0 ad0 Q kc ks M (pc + 3) lv st) : ZZ q p l e Rm s m args below meth c D dA b T0 ad0 Q kc ks M pc lv (vI x :: st) := z_if_eq C _ hd (xtgt h0) (fun z => kt ((wr_eqz x).mp z)) (fun z => kf (fun h => z ((wr_eqz x).mpr h)))
theorem g_icmp_ne (C : ZC q p s m args meth c D dA b) {x y : Int} {off : Int} (hd : decode (xqc q) pc = .ok (.if_icmp .ne off, 3)) (h0 : 0 ≤ (pc : Int) + off) (kt : ¬ wr x = wr y → ZZ q p l e Rm s m args below meth c D dA b T0 ad0 Q kc ks M ((pc : Int) + off).toNat lv st) (kf : ¬ (¬ wr x = wr y) → ZZ q p l e Rm s m args below meth c D dA b T0 ad0 Q kc ks M (pc + 3) lv st) : ZZ q p l e Rm s m args below meth c D dA b T0 ad0 Q kc ks M pc lv (vI y :: vI x :: st) := z_icmp_ne C _ hd (xtgt h0) (fun z => kt (fun h => z ((wr_eqi x y).mpr h))) (fun z => kf (fun h => h ((wr_eqi x y).mp z)))
theorem g_if_ne (C : ZC q p s m args meth c D dA b) {x : Int} {off : Int} (hd : decode (xqc q) pc = .ok (.ifCond .ne off, 3)) (h0 : 0 ≤ (pc : Int) + off) (kt : ¬ wr x = 0 → ZZ q p l e Rm s m args below meth c D dA b T0 ad0 Q kc ks M ((pc : Int) + off).toNat lv st) (kf : ¬ (¬ wr x = 0) → ZZ q p l e Rm s m args below meth c D dA b T0 ad0 Q kc ks M (pc + 3) lv st) : ZZ q p l e Rm s m args below meth c D dA b T0 ad0 Q kc ks M pc lv (vI x :: st) := z_if_ne C _ hd (xtgt h0) (fun z => kt (fun h => z ((wr_eqz x).mpr h))) (fun z => kf (fun h => h ((wr_eqz x).mp z)))
theorem g_icmp_lt (C : ZC q p s m args meth c D dA b) {x y : Int} {off : Int} (hd : decode (xqc q) pc = .ok (.if_icmp .lt off, 3)) (h0 : 0 ≤ (pc : Int) + off) (kt : wr x < wr y → ZZ q p l e Rm s m args below meth c D dA b T0 ad0 Q kc ks M ((pc : Int) + off).toNat lv st) (kf : ¬ (wr x < wr y) → ZZ q p l e Rm s m args below meth c D dA b T0 ad0 Q kc ks M (pc + 3) lv st) : ZZ q p l e Rm s m args below meth c D dA b T0 ad0 Q kc ks M pc lv (vI y :: vI x :: st) := z_icmp_lt C _ hd (xtgt h0) (fun z => kt ((wr_lt x y).mp z)) (fun z => kf (fun h => z ((wr_lt x y).mpr h)))
theorem g_if_lt (C : ZC q p s m args meth c D dA b) {x : Int} {off : Int} (hd : decode (xqc q) pc = .ok (.ifCond .lt off, 3)) (h0 : 0 ≤ (pc : Int) + off) (kt : wr x < 0 → ZZ q p l e Rm s m args below meth c D dA b T0 ad0 Q kc ks M ((pc : Int) + off).toNat lv st) (kf : ¬ (wr x < 0) → ZZ q p l e Rm s m args below meth c D dA b T0 ad0 Q kc ks M (pc + 3) lv st) : ZZ q p l e Rm s m args below meth c D dA b T0 ad0 Q kc ks M pc lv (vI x :: st) := z_if_lt C _ hd (xtgt h0) (fun z => kt ((wr_ltz x).mp z)) (fun z => kf (fun h => z ((wr_ltz x).mpr h)))
theorem g_icmp_ge (C : ZC q p s m args meth c D dA b) {x y : Int} {off : Int} (hd : decode (xqc q) pc = .ok (.if_icmp .ge off, 3)) (h0 : 0 ≤ (pc : Int) + off) (kt : wr y ≤ wr x → ZZ q p l e Rm s m args below meth c D dA b T0 ad0 Q kc ks M ((pc : Int) + off).toNat lv st) (kf : ¬ (wr y ≤ wr x) → ZZ q p l e Rm s m args below meth c D dA b T0 ad0 Q kc ks M (pc + 3) lv st) : ZZ q p l e Rm s m args below meth c D dA b T0 ad0 Q kc ks M pc lv (vI y :: vI x :: st) := z_icmp_ge C _ hd (xtgt h0) (fun z => kt ((wr_le y x).mp z)) (fun z => kf (fun h => z ((wr_le y x).mpr h)))
theorem g_if_ge (C : ZC q p s m args meth c D dA b) {x : Int} {off : Int} (hd : decode (xqc q) pc = .ok (.ifCond .ge off, 3)) (h0 : 0 ≤ (pc : Int) + off) (kt : 0 ≤ wr x → ZZ q p l e Rm s m args below meth c D dA b T0 ad0 Q kc ks M ((pc : Int) + off).toNat lv st) (kf : ¬ (0 ≤ wr x) → ZZ q p l e Rm s m args below meth c D dA b T0 ad0 Q kc ks M (pc + 3) lv st) : ZZ q p l e Rm s m args below meth c D dA b T0 ad0 Q kc ks M pc lv (vI x :: st) := z_if_ge C _ hd (xtgt h0) (fun z => kt ((wr_gez x).mp z)) (fun z => kf (fun h => z ((wr_gez x).mpr h)))
theorem g_icmp_gt (C : ZC q p s m args meth c D dA b) {x y : Int} {off : Int} (hd : decode (xqc q) pc = .ok (.if_icmp .gt off, 3)) (h0 : 0 ≤ (pc : Int) + off) (kt : wr y < wr x → ZZ q p l e Rm s m args below meth c D dA b T0 ad0 Q kc ks M ((pc : Int) + off).toNat lv st) (kf : ¬ (wr y < wr x) → ZZ q p l e Rm s m args below meth c D dA b T0 ad0 Q kc ks M (pc + 3) lv st) : ZZ q p l e Rm s m args below meth c D dA b T0 ad0 Q kc ks M pc lv (vI y :: vI x :: st) := z_icmp_gt C _ hd (xtgt h0) (fun z => kt ((wr_lt y x).mp z)) (fun z => kf (fun h => z ((wr_lt y x).mpr h)))
theorem g_if_gt (C : ZC q p s m args meth c D dA b) {x : Int} {off : Int} (hd : decode (xqc q) pc = .ok (.ifCond .gt off, 3)) (h0 : 0 ≤ (pc : Int) + off) (kt : 0 < wr x → ZZ q p l e Rm s m args below meth c D dA b T0 ad0 Q kc ks M ((pc : Int) + off).toNat lv st) (kf : ¬ (0 < wr x) → ZZ q p l e Rm s m args below meth c D dA b T0 ad0 Q kc ks M (pc + 3) lv st) : ZZ q p l e Rm s m args below meth c D dA b T0 ad0 Q kc ks M pc lv (vI x :: st) := z_if_gt C _ hd (xtgt h0) (fun z => kt ((wr_gtz x).mp z)) (fun z => kf (fun h => z ((wr_gtz x).mpr h)))
theorem g_icmp_le (C : ZC q p s m args meth c D dA b) {x y : Int} {off : Int} (hd : decode (xqc q) pc = .ok (.if_icmp .le off, 3)) (h0 : 0 ≤ (pc : Int) + off) (kt : wr x ≤ wr y → ZZ q p l e Rm s m args below meth c D dA b T0 ad0 Q kc ks M ((pc : Int) + off).toNat lv st) (kf : ¬ (wr x ≤ wr y) → ZZ q p l e Rm s m args below meth c D dA b T0 ad0 Q kc ks M (pc + 3) lv st) : ZZ q p l e Rm s m args below meth c D dA b T0 ad0 Q kc ks M pc lv (vI y :: vI x :: st) := z_icmp_le C _ hd (xtgt h0) (fun z => kt ((wr_le x y).mp z)) (fun z => kf (fun h => z ((wr_le x y).mpr h)))
theorem g_if_le (C : ZC q p s m args meth c D dA b) {x : Int} {off : Int} (hd : decode (xqc q) pc = .ok (.ifCond .le off, 3)) (h0 : 0 ≤ (pc : Int) + off) (kt : wr x ≤ 0 → ZZ q p l e Rm s m args below meth c D dA b T0 ad0 Q kc ks M ((pc : Int) + off).toNat lv st) (kf : ¬ (wr x ≤ 0) → ZZ q p l e Rm s m args below meth c D dA b T0 ad0 Q kc ks M (pc + 3) lv st) : ZZ q p l e Rm s m args below meth c D dA b T0 ad0 Q kc ks M pc lv (vI x :: st) := z_if_le C _ hd (xtgt h0) (fun z => kt ((wr_lez x).mp z)) (fun z => kf (fun h => z ((wr_lez x).mpr h)))
theorem g_ifnull (C : ZC q p s m args meth c D dA b) {L : Nat} {off : Int} (hd : decode (xqc q) pc = .ok (.ifnull off, 3)) (h0 : 0 ≤ (pc : Int) + off) (kt : L = 0 → ZZ q p l e Rm s m args below meth c D dA b T0 ad0 Q kc ks M ((pc : Int) + off).toNat lv st) (kf : ¬ L = 0 → ZZ q p l e Rm s m args below meth c D dA b T0 ad0 Q kc ks M (pc + 3) lv st) : ZZ q p l e Rm s m args below meth c D dA b T0 ad0 Q kc ks M pc lv (vR L :: st) := by
  by_cases hz : L = 0
  · subst hz
    exact z_ifnullN C _ hd (xtgt h0) (kt rfl)
  · show lz_Z _ _ _ _ _ _ _ _ _ _ _ _ _ _ _ _ _ _ _ _ _ _ _ _ _ (xval (vR L) :: st.map xval)
    rw [xval_r hz]
    exact z_ifnull C hd (kf hz)
theorem g_ifnonnull (C : ZC q p s m args meth c D dA b) {L : Nat} {off : Int} (hd : decode (xqc q) pc = .ok (.ifnonnull off, 3)) (h0 : 0 ≤ (pc : Int) + off) (kt : ¬ L = 0 → ZZ q p l e Rm s m args below meth c D dA b T0 ad0 Q kc ks M ((pc : Int) + off).toNat lv st) (kf : L = 0 → ZZ q p l e Rm s m args below meth c D dA b T0 ad0 Q kc ks M (pc + 3) lv st) : ZZ q p l e Rm s m args below meth c D dA b T0 ad0 Q kc ks M pc lv (vR L :: st) := by
  by_cases hz : L = 0
  · subst hz
    exact z_ifnonnullN C hd (kf rfl)
  · show lz_Z _ _ _ _ _ _ _ _ _ _ _ _ _ _ _ _ _ _ _ _ _ _ _ _ _ (xval (vR L) :: st.map xval)
    rw [xval_r hz]
    exact z_ifnonnull C _ hd (xtgt h0) (kt hz)
theorem g_tableIn (C : ZC q p s m args meth c D dA b) {dflt lo hi : Int} {offs : Array Int} {len : Nat} {x off : Int} (hd : decode (xqc q) pc = .ok (.tableswitch dflt lo hi offs, len)) (g1 : lo ≤ wr x) (g2 : wr x ≤ hi) (ho : offs[(wr x - lo).toNat]? = some off) (h0 : 0 ≤ (pc : Int) + off) (kk : ZZ q p l e Rm s m args below meth c D dA b T0 ad0 Q kc ks M ((pc : Int) + off).toNat lv st) : ZZ q p l e Rm s m args below meth c D dA b T0 ad0 Q kc ks M pc lv (vI x :: st) := z_tableIn C _ hd (by rw [wr_eq]; omega) (by rw [wr_eq]; omega) (by rw [wr_eq]; exact ho) (xtgt h0) kk
theorem g_tableOut (C : ZC q p s m args meth c D dA b) {dflt lo hi : Int} {offs : Array Int} {len : Nat} {x : Int} (hd : decode (xqc q) pc = .ok (.tableswitch dflt lo hi offs, len)) (g1 : ¬ (lo ≤ wr x ∧ wr x ≤ hi)) (h0 : 0 ≤ (pc : Int) + dflt) (kk : ZZ q p l e Rm s m args below meth c D dA b T0 ad0 Q kc ks M ((pc : Int) + dflt).toNat lv st) : ZZ q p l e Rm s m args below meth c D dA b T0 ad0 Q kc ks M pc lv (vI x :: st) := z_tableOut C _ hd (by rw [wr_eq]; omega) (xtgt h0) kk
theorem xup_A (L k : Nat) (x : Int) : xA (wA M L k x) = lz_up (xA M) L k (Int32.ofInt x) := by
  funext a j
  show Int32.ofInt (lz_up M.2.1 L k x a j) = _
  unfold lz_up
  split <;> rfl
theorem xup_R (L k x : Nat) : xR (wR M L k x) = lz_up (xR M) L k (if x = 0 then none else some x) := by
  funext a j
  show (if lz_up M.2.2.2.1 L k x a j = 0 then none else some (lz_up M.2.2.2.1 L k x a j)) = _
  unfold lz_up
  split <;> rfl
abbrev ZS (M : xm) (st : List xv) : Prop := lz_oks (xT M) (st.map xval)
theorem g_asm (h : ZS M st → ZZ q p l e Rm s m args below meth c D dA b T0 ad0 Q kc ks M pc lv st) : ZZ q p l e Rm s m args below meth c D dA b T0 ad0 Q kc ks M pc lv st := lz_asm h
theorem g_stk {st2 : List Value} (hs : st.map xval = st2) (h : lz_Z p l e Rm s m args below meth c D dA b (xqn q) T0 ad0 Q kc ks (xT M) (xA M) (mB M) (xR M) pc (xlv 0 lv) st2) : ZZ q p l e Rm s m args below meth c D dA b T0 ad0 Q kc ks M pc lv st := by
  show lz_Z _ _ _ _ _ _ _ _ _ _ _ _ _ _ _ _ _ _ _ _ _ _ _ _ _ _
  rw [hs]
  exact h
theorem zs_hd {v : xv} (h : ZS M (v :: st)) : lz_ok (xT M) (xval v) := (lz_oks_cons.mp h).1
theorem zs_tl {v : xv} (h : ZS M (v :: st)) : ZS M st := (lz_oks_cons.mp h).2
theorem g_get0 (C : ZC q p s m args meth c D dA b) {L k ci j : Nat} (F : lz_F (xqy q).cls k ci j 0) (hd : decode (xqc q) pc = .ok (.getfield k, 3)) (ht : tg L = 1 + ci) (kk : ZZ q p l e Rm s m args below meth c D dA b T0 ad0 Q kc ks M (pc + 3) lv (vI (mA M L j) :: st)) : ZZ q p l e Rm s m args below meth c D dA b T0 ad0 Q kc ks M pc lv (vR L :: st) := by
  refine g_asm (fun hz => ?_)
  have hL : ¬ L = 0 := fun z => by rw [z] at ht; unfold tg at ht; omega
  exact g_stk (by rw [List.map_cons, xval_r hL]) (z_geti C F (xT_tag (zs_hd hz) ht (by omega)) rfl hd kk)
theorem g_get1 (C : ZC q p s m args meth c D dA b) {L k ci j : Nat} (F : lz_F (xqy q).cls k ci j 1) (hd : decode (xqc q) pc = .ok (.getfield k, 3)) (ht : tg L = 1 + ci) (kk : ZZ q p l e Rm s m args below meth c D dA b T0 ad0 Q kc ks M (pc + 3) lv (vD (mB M L j) :: st)) : ZZ q p l e Rm s m args below meth c D dA b T0 ad0 Q kc ks M pc lv (vR L :: st) := by
  refine g_asm (fun hz => ?_)
  have hL : ¬ L = 0 := fun z => by rw [z] at ht; unfold tg at ht; omega
  exact g_stk (by rw [List.map_cons, xval_r hL]) (z_getd C F (xT_tag (zs_hd hz) ht (by omega)) rfl hd kk)
theorem g_get2 (C : ZC q p s m args meth c D dA b) {L k ci j : Nat} (F : lz_F (xqy q).cls k ci j 2) (hd : decode (xqc q) pc = .ok (.getfield k, 3)) (ht : tg L = 1 + ci) (kk : ZZ q p l e Rm s m args below meth c D dA b T0 ad0 Q kc ks M (pc + 3) lv (vR (mR M L j) :: st)) : ZZ q p l e Rm s m args below meth c D dA b T0 ad0 Q kc ks M pc lv (vR L :: st) := by
  refine g_asm (fun hz => ?_)
  have hL : ¬ L = 0 := fun z => by rw [z] at ht; unfold tg at ht; omega
  refine g_stk (by rw [List.map_cons, xval_r hL]) ?_
  by_cases hn : mR M L j = 0
  · exact z_getn C F (xT_tag (zs_hd hz) ht (by omega)) (by unfold xR; rw [if_pos hn]) hd (by rw [hn] at kk; exact kk)
  · exact z_getr C F (xT_tag (zs_hd hz) ht (by omega)) (by unfold xR; rw [if_neg hn]) hd (by unfold ZZ at kk; rw [List.map_cons, xval_r hn] at kk; exact kk)
theorem g_put0 (C : ZC q p s m args meth c D dA b) {L k ci j : Nat} {x : Int} (F : lz_G (xqy q) k ci j 0) (hd : decode (xqc q) pc = .ok (.putfield k, 3)) (ht : tg L = 1 + ci) (kk : ZZ q p l e Rm s m args below meth c D dA b T0 ad0 Q kc ks (wA M L j (wr x)) (pc + 3) lv st) : ZZ q p l e Rm s m args below meth c D dA b T0 ad0 Q kc ks M pc lv (vI x :: vR L :: st) := by
  refine g_asm (fun hz => ?_)
  have hL : ¬ L = 0 := fun z => by rw [z] at ht; unfold tg at ht; omega
  refine g_stk (by rw [List.map_cons, List.map_cons, xval_r hL]; rfl) (z_puti C F (xT_tag (zs_hd (zs_tl hz)) ht (by omega)) hd ?_)
  rw [← wr_of, ← xup_A]
  exact kk
theorem g_put1 (C : ZC q p s m args meth c D dA b) {L k ci j : Nat} {x : UInt64} (F : lz_G (xqy q) k ci j 1) (hd : decode (xqc q) pc = .ok (.putfield k, 3)) (ht : tg L = 1 + ci) (kk : ZZ q p l e Rm s m args below meth c D dA b T0 ad0 Q kc ks (wB M L j x) (pc + 3) lv st) : ZZ q p l e Rm s m args below meth c D dA b T0 ad0 Q kc ks M pc lv (vD x :: vR L :: st) := by
  refine g_asm (fun hz => ?_)
  have hL : ¬ L = 0 := fun z => by rw [z] at ht; unfold tg at ht; omega
  exact g_stk (by rw [List.map_cons, List.map_cons, xval_r hL]; rfl) (z_putd C F (xT_tag (zs_hd (zs_tl hz)) ht (by omega)) hd kk)
theorem g_put2 (C : ZC q p s m args meth c D dA b) {L k ci j x : Nat} (F : lz_G (xqy q) k ci j 2) (hd : decode (xqc q) pc = .ok (.putfield k, 3)) (ht : tg L = 1 + ci) (kk : ZZ q p l e Rm s m args below meth c D dA b T0 ad0 Q kc ks (wR M L j x) (pc + 3) lv st) : ZZ q p l e Rm s m args below meth c D dA b T0 ad0 Q kc ks M pc lv (vR x :: vR L :: st) := by
  refine g_asm (fun hz => ?_)
  have hL : ¬ L = 0 := fun z => by rw [z] at ht; unfold tg at ht; omega
  refine g_stk (by rw [List.map_cons, List.map_cons, xval_r hL, xval_rf]) (z_putq C F (xT_tag (zs_hd (zs_tl hz)) ht (by omega)) hd ?_)
  rw [← xup_R]
  exact kk
theorem ln_lt (L : Nat) : ln L < 2 ^ 31 := by unfold ln; omega
theorem tg_ne {L t : Nat} (h : tg L = t) (h0 : 0 < t) : ¬ L = 0 := fun z => by rw [z] at h; unfold tg at h; omega
theorem g_iald (C : ZC q p s m args meth c D dA b) {L : Nat} {i : Int} (hd : decode (xqc q) pc = .ok (.iaload, 1)) (ht : tg L = 32) (h1 : 0 ≤ wr i) (h2 : wr i < ln L) (kk : ZZ q p l e Rm s m args below meth c D dA b T0 ad0 Q kc ks M (pc + 1) lv (vI (mA M L (wr i).toNat) :: st)) : ZZ q p l e Rm s m args below meth c D dA b T0 ad0 Q kc ks M pc lv (vI i :: vR L :: st) := by
  refine g_asm (fun hz => ?_)
  exact g_stk (by rw [List.map_cons, List.map_cons, xval_r (tg_ne ht (by omega))]; rfl) (z_iald C (xT_tag (zs_hd (zs_tl hz)) ht (by omega)) (xnI h1) (by omega) (ln_lt L) rfl hd kk)
theorem g_zald (C : ZC q p s m args meth c D dA b) {L : Nat} {i : Int} (hd : decode (xqc q) pc = .ok (.baload, 1)) (ht : tg L = 34) (h1 : 0 ≤ wr i) (h2 : wr i < ln L) (kk : ZZ q p l e Rm s m args below meth c D dA b T0 ad0 Q kc ks M (pc + 1) lv (vI (mA M L (wr i).toNat) :: st)) : ZZ q p l e Rm s m args below meth c D dA b T0 ad0 Q kc ks M pc lv (vI i :: vR L :: st) := by
  refine g_asm (fun hz => ?_)
  exact g_stk (by rw [List.map_cons, List.map_cons, xval_r (tg_ne ht (by omega))]; rfl) (z_zald C (xT_tag (zs_hd (zs_tl hz)) ht (by omega)) (xnI h1) (by omega) (ln_lt L) rfl hd kk)
theorem g_dald (C : ZC q p s m args meth c D dA b) {L : Nat} {i : Int} (hd : decode (xqc q) pc = .ok (.daload, 1)) (ht : tg L = 33) (h1 : 0 ≤ wr i) (h2 : wr i < ln L) (kk : ZZ q p l e Rm s m args below meth c D dA b T0 ad0 Q kc ks M (pc + 1) lv (vD (mB M L (wr i).toNat) :: st)) : ZZ q p l e Rm s m args below meth c D dA b T0 ad0 Q kc ks M pc lv (vI i :: vR L :: st) := by
  refine g_asm (fun hz => ?_)
  exact g_stk (by rw [List.map_cons, List.map_cons, xval_r (tg_ne ht (by omega))]; rfl) (z_dald C (xT_tag (zs_hd (zs_tl hz)) ht (by omega)) (xnI h1) (by omega) (ln_lt L) rfl hd kk)
theorem g_aald (C : ZC q p s m args meth c D dA b) {L : Nat} {i : Int} (hd : decode (xqc q) pc = .ok (.aaload, 1)) (ht : 35 ≤ tg L) (ht2 : tg L < 39) (h1 : 0 ≤ wr i) (h2 : wr i < ln L) (kk : ZZ q p l e Rm s m args below meth c D dA b T0 ad0 Q kc ks M (pc + 1) lv (vR (mR M L (wr i).toNat) :: st)) : ZZ q p l e Rm s m args below meth c D dA b T0 ad0 Q kc ks M pc lv (vI i :: vR L :: st) := by
  refine g_asm (fun hz => ?_)
  refine g_stk (by rw [List.map_cons, List.map_cons, xval_r (tg_ne rfl (by omega))]; rfl) (z_aldv C (t := tg L - 32) (by omega) (by omega) (xT_tag (t := 32 + (tg L - 32)) (zs_hd (zs_tl hz)) (by omega) (by omega)) (xnI h1) (by omega) (ln_lt L) hd ?_)
  unfold ZZ at kk; rw [List.map_cons, xval_rf] at kk
  exact kk
theorem g_alen (C : ZC q p s m args meth c D dA b) {L : Nat} (hd : decode (xqc q) pc = .ok (.arraylength, 1)) (ht : 32 ≤ tg L) (ht2 : tg L < 39) (kk : ZZ q p l e Rm s m args below meth c D dA b T0 ad0 Q kc ks M (pc + 1) lv (vI (ln L) :: st)) : ZZ q p l e Rm s m args below meth c D dA b T0 ad0 Q kc ks M pc lv (vR L :: st) := by
  refine g_asm (fun hz => ?_)
  refine g_stk (by rw [List.map_cons, xval_r (tg_ne rfl (by omega))]) (z_alen C (t := tg L - 32) (by omega) (xT_tag (t := 32 + (tg L - 32)) (zs_hd hz) (by omega) (by omega)) hd ?_)
  rw [show nI (ln L) = Int32.ofInt (ln L : Nat) from rfl]
  exact kk
theorem g_iast (C : ZC q p s m args meth c D dA b) {L : Nat} {i x : Int} (hd : decode (xqc q) pc = .ok (.iastore, 1)) (ht : tg L = 32) (h1 : 0 ≤ wr i) (h2 : wr i < ln L) (kk : ZZ q p l e Rm s m args below meth c D dA b T0 ad0 Q kc ks (wA M L (wr i).toNat (wr x)) (pc + 1) lv st) : ZZ q p l e Rm s m args below meth c D dA b T0 ad0 Q kc ks M pc lv (vI x :: vI i :: vR L :: st) := by
  refine g_asm (fun hz => ?_)
  refine g_stk (by rw [List.map_cons, List.map_cons, List.map_cons, xval_r (tg_ne ht (by omega))]; rfl) (z_iast C (xT_tag (zs_hd (zs_tl (zs_tl hz))) ht (by omega)) (xnI h1) (i := (wr i).toNat) (by omega) (ln_lt L) hd ?_)
  rw [← wr_of, ← xup_A]
  exact kk
theorem g_zast (C : ZC q p s m args meth c D dA b) {L : Nat} {i x : Int} (hd : decode (xqc q) pc = .ok (.bastore, 1)) (ht : tg L = 34) (h1 : 0 ≤ wr i) (h2 : wr i < ln L) (hx : x = 0 ∨ x = 1) (kk : ZZ q p l e Rm s m args below meth c D dA b T0 ad0 Q kc ks (wA M L (wr i).toNat x) (pc + 1) lv st) : ZZ q p l e Rm s m args below meth c D dA b T0 ad0 Q kc ks M pc lv (vI x :: vI i :: vR L :: st) := by
  refine g_asm (fun hz => ?_)
  refine g_stk (by rw [List.map_cons, List.map_cons, List.map_cons, xval_r (tg_ne ht (by omega))]; rfl) (z_zast C (xT_tag (zs_hd (zs_tl (zs_tl hz))) ht (by omega)) (xnI h1) (i := (wr i).toNat) (by omega) (ln_lt L) (by rcases hx with rfl | rfl <;> rfl) hd ?_)
  rw [← xup_A]
  exact kk
theorem g_dast (C : ZC q p s m args meth c D dA b) {L : Nat} {i : Int} {x : UInt64} (hd : decode (xqc q) pc = .ok (.dastore, 1)) (ht : tg L = 33) (h1 : 0 ≤ wr i) (h2 : wr i < ln L) (kk : ZZ q p l e Rm s m args below meth c D dA b T0 ad0 Q kc ks (wB M L (wr i).toNat x) (pc + 1) lv st) : ZZ q p l e Rm s m args below meth c D dA b T0 ad0 Q kc ks M pc lv (vD x :: vI i :: vR L :: st) := by
  refine g_asm (fun hz => ?_)
  exact g_stk (by rw [List.map_cons, List.map_cons, List.map_cons, xval_r (tg_ne ht (by omega))]; rfl) (z_dast C (xT_tag (zs_hd (zs_tl (zs_tl hz))) ht (by omega)) (xnI h1) (i := (wr i).toNat) (by omega) (ln_lt L) hd kk)
theorem xel_in {t : Nat} (h1 : 35 ≤ t) (h2 : t < 38) : ∃ (k ci : Nat) (r : vw_C), t = 32 + k ∧ 3 ≤ k ∧ vwCl[ci]? = some r ∧ ci < 11 ∧ xel t = 1 + ci ∧ ∀ dA : Nat → ClassId, (lz_tys dA)[k]? = some (dA k, .object r.1) := by
  rcases (show t = 35 ∨ t = 36 ∨ t = 37 by omega) with rfl | rfl | rfl
  · exact ⟨3, 4, _, rfl, by omega, rfl, by omega, rfl, fun _ => rfl⟩
  · exact ⟨4, 5, _, rfl, by omega, rfl, by omega, rfl, fun _ => rfl⟩
  · exact ⟨5, 8, _, rfl, by omega, rfl, by omega, rfl, fun _ => rfl⟩
theorem g_aast (C : ZC q p s m args meth c D dA b) {L x : Nat} {i : Int} (hd : decode (xqc q) pc = .ok (.aastore, 1)) (ht : 35 ≤ tg L) (ht2 : tg L < 38) (h1 : 0 ≤ wr i) (h2 : wr i < ln L) (hx : x = 0 ∨ tg x = xel (tg L)) (kk : ZZ q p l e Rm s m args below meth c D dA b T0 ad0 Q kc ks (wR M L (wr i).toNat x) (pc + 1) lv st) : ZZ q p l e Rm s m args below meth c D dA b T0 ad0 Q kc ks M pc lv (vR x :: vI i :: vR L :: st) := by
  refine g_asm (fun hz => ?_)
  obtain ⟨k, ci, r, e1, e2, e3, e4, e5, e6⟩ := xel_in ht ht2
  have kk' : lz_Z p l e Rm s m args below meth c D dA b (xqn q) T0 ad0 Q kc ks (xT M) (xA M) (mB M) (lz_up (xR M) L (wr i).toNat (if x = 0 then none else some x)) (pc + 1) (xlv 0 lv) (st.map xval) := by
    rw [← xup_R]
    exact kk
  by_cases h0 : x = 0
  · subst h0
    exact g_stk (by rw [List.map_cons, List.map_cons, List.map_cons, xval_r (L := L) (tg_ne rfl (by omega))]; rfl) (z_aastN C (t := k) e2 e6 (xT_tag (zs_hd (zs_tl (zs_tl hz))) e1 (by omega)) (xnI h1) (i := (wr i).toNat) (by omega) (ln_lt L) hd kk')
  · rw [if_neg h0] at kk'
    exact g_stk (by rw [List.map_cons, List.map_cons, List.map_cons, xval_r (L := L) (tg_ne rfl (by omega)), xval_r h0]; rfl) (z_aast C (t := k) e3 e4 e2 e6 (xT_tag (zs_hd (zs_tl (zs_tl hz))) e1 (by omega)) (xT_tag (zs_hd hz) (by rcases hx with z | z; exact absurd z h0; rw [z, e5]) (by omega)) (xnI h1) (i := (wr i).toNat) (by omega) (ln_lt L) hd kk')
end GR
