/-! 20b.wins: Wp, a row an instruction, over any method (written by wip/whole/wgen.py) -/
section WI
variable {q : xq} {pc : Nat} {lv st : List xv} {M : xm} {Q : Option xv → xm → Prop}
theorem w_iadd {x y : Int} (hd : decode (xqc q) pc = .ok (.iadd, 1)) : Wp q pc lv (vI y :: vI x :: st) M Q ↔ Wp q (pc + 1) lv (vI (x + y) :: st) M Q := w_go hd rfl rfl
theorem w_isub {x y : Int} (hd : decode (xqc q) pc = .ok (.isub, 1)) : Wp q pc lv (vI y :: vI x :: st) M Q ↔ Wp q (pc + 1) lv (vI (x - y) :: st) M Q := w_go hd rfl rfl
theorem w_imul {x y : Int} (hd : decode (xqc q) pc = .ok (.imul, 1)) : Wp q pc lv (vI y :: vI x :: st) M Q ↔ Wp q (pc + 1) lv (vI (x * y) :: st) M Q := w_go hd rfl rfl
theorem w_iand {x y : Int} (hd : decode (xqc q) pc = .ok (.iand, 1)) : Wp q pc lv (vI y :: vI x :: st) M Q ↔ Wp q (pc + 1) lv (vI (xiand x y) :: st) M Q := w_go hd rfl rfl
theorem w_ior {x y : Int} (hd : decode (xqc q) pc = .ok (.ior, 1)) : Wp q pc lv (vI y :: vI x :: st) M Q ↔ Wp q (pc + 1) lv (vI (xior x y) :: st) M Q := w_go hd rfl rfl
theorem w_ixor {x y : Int} (hd : decode (xqc q) pc = .ok (.ixor, 1)) : Wp q pc lv (vI y :: vI x :: st) M Q ↔ Wp q (pc + 1) lv (vI (xixor x y) :: st) M Q := w_go hd rfl rfl
theorem w_ishl {x y : Int} (hd : decode (xqc q) pc = .ok (.ishl, 1)) : Wp q pc lv (vI y :: vI x :: st) M Q ↔ Wp q (pc + 1) lv (vI (xishl x y) :: st) M Q := w_go hd rfl rfl
theorem w_ishr {x y : Int} (hd : decode (xqc q) pc = .ok (.ishr, 1)) : Wp q pc lv (vI y :: vI x :: st) M Q ↔ Wp q (pc + 1) lv (vI (xishr x y) :: st) M Q := w_go hd rfl rfl
theorem w_iushr {x y : Int} (hd : decode (xqc q) pc = .ok (.iushr, 1)) : Wp q pc lv (vI y :: vI x :: st) M Q ↔ Wp q (pc + 1) lv (vI (xiushr x y) :: st) M Q := w_go hd rfl rfl
theorem w_irem {x y : Int} (hd : decode (xqc q) pc = .ok (.irem, 1)) : Wp q pc lv (vI y :: vI x :: st) M Q ↔ ¬ wr y = 0 ∧ Wp q (pc + 1) lv (vI ((wr x).tmod (wr y)) :: st) M Q := w_ni hd rfl rfl
theorem w_ineg {x : Int} (hd : decode (xqc q) pc = .ok (.ineg, 1)) : Wp q pc lv (vI x :: st) M Q ↔ Wp q (pc + 1) lv (vI (-x) :: st) M Q := w_go hd rfl rfl
theorem w_ladd {x y : Int} (hd : decode (xqc q) pc = .ok (.ladd, 1)) : Wp q pc lv (vJ y :: vJ x :: st) M Q ↔ Wp q (pc + 1) lv (vJ (x + y) :: st) M Q := w_go hd rfl rfl
theorem w_lsub {x y : Int} (hd : decode (xqc q) pc = .ok (.lsub, 1)) : Wp q pc lv (vJ y :: vJ x :: st) M Q ↔ Wp q (pc + 1) lv (vJ (x - y) :: st) M Q := w_go hd rfl rfl
theorem w_lneg {x : Int} (hd : decode (xqc q) pc = .ok (.lneg, 1)) : Wp q pc lv (vJ x :: st) M Q ↔ Wp q (pc + 1) lv (vJ (-x) :: st) M Q := w_go hd rfl rfl
theorem w_ldiv {x y : Int} (hd : decode (xqc q) pc = .ok (.ldiv, 1)) : Wp q pc lv (vJ y :: vJ x :: st) M Q ↔ ¬ w64 y = 0 ∧ Wp q (pc + 1) lv (vJ ((w64 x).tdiv (w64 y)) :: st) M Q := w_ni hd rfl rfl
theorem w_lcmp {x y : Int} (hd : decode (xqc q) pc = .ok (.lcmp, 1)) : Wp q pc lv (vJ y :: vJ x :: st) M Q ↔ Wp q (pc + 1) lv (vI (xlcmp (w64 x) (w64 y)) :: st) M Q := w_go hd rfl rfl
theorem w_dadd {x y : UInt64} (hd : decode (xqc q) pc = .ok (.dadd, 1)) : Wp q pc lv (vD y :: vD x :: st) M Q ↔ isNaN64 (FP.dadd x y) = false ∧ Wp q (pc + 1) lv (vD (FP.dadd x y) :: st) M Q := w_if hd rfl rfl
theorem w_dmul {x y : UInt64} (hd : decode (xqc q) pc = .ok (.dmul, 1)) : Wp q pc lv (vD y :: vD x :: st) M Q ↔ isNaN64 (FP.dmul x y) = false ∧ Wp q (pc + 1) lv (vD (FP.dmul x y) :: st) M Q := w_if hd rfl rfl
theorem w_ddiv {x y : UInt64} (hd : decode (xqc q) pc = .ok (.ddiv, 1)) : Wp q pc lv (vD y :: vD x :: st) M Q ↔ isNaN64 (FP.ddiv x y) = false ∧ Wp q (pc + 1) lv (vD (FP.ddiv x y) :: st) M Q := w_if hd rfl rfl
theorem w_dcmp {x y : UInt64} {op : CmpOp} (hd : decode (xqc q) pc = .ok (.dcmp op, 1)) : Wp q pc lv (vD y :: vD x :: st) M Q ↔ Wp q (pc + 1) lv (vI (Op.cmpValue (FP.dcmp x y) op).toInt :: st) M Q := w_go hd rfl rfl
theorem w_i2l {x : Int} (hd : decode (xqc q) pc = .ok (.i2l, 1)) : Wp q pc lv (vI x :: st) M Q ↔ Wp q (pc + 1) lv (vJ (wr x) :: st) M Q := w_go hd rfl rfl
theorem w_l2i {x : Int} (hd : decode (xqc q) pc = .ok (.l2i, 1)) : Wp q pc lv (vJ x :: st) M Q ↔ Wp q (pc + 1) lv (vI x :: st) M Q := w_go hd rfl rfl
theorem w_i2d {x : Int} (hd : decode (xqc q) pc = .ok (.i2d, 1)) : Wp q pc lv (vI x :: st) M Q ↔ Wp q (pc + 1) lv (vD (FP.i2d (Int32.ofInt x)) :: st) M Q := w_go hd rfl rfl
theorem w_l2d {x : Int} (hd : decode (xqc q) pc = .ok (.l2d, 1)) : Wp q pc lv (vJ x :: st) M Q ↔ Wp q (pc + 1) lv (vD (FP.l2d (Int64.ofInt x)) :: st) M Q := w_go hd rfl rfl
theorem w_d2i {x : UInt64} (hd : decode (xqc q) pc = .ok (.d2i, 1)) : Wp q pc lv (vD x :: st) M Q ↔ Wp q (pc + 1) lv (vI (FP.d2i x).toInt :: st) M Q := w_go hd rfl rfl
theorem w_d2l {x : UInt64} (hd : decode (xqc q) pc = .ok (.d2l, 1)) : Wp q pc lv (vD x :: st) M Q ↔ Wp q (pc + 1) lv (vJ (FP.d2l x).toInt :: st) M Q := w_go hd rfl rfl
theorem w_d2f {x : UInt64} (hd : decode (xqc q) pc = .ok (.d2f, 1)) : Wp q pc lv (vD x :: st) M Q ↔ isNaN32 (FP.d2f x) = false ∧ Wp q (pc + 1) lv (vF (FP.d2f x) :: st) M Q := w_if hd rfl rfl
theorem w_f2d {x : UInt32} (hd : decode (xqc q) pc = .ok (.f2d, 1)) : Wp q pc lv (vF x :: st) M Q ↔ isNaN64 (FP.f2d x) = false ∧ Wp q (pc + 1) lv (vD (FP.f2d x) :: st) M Q := w_if hd rfl rfl
theorem w_iconst {x : Int} (hd : decode (xqc q) pc = .ok (.iconst x, 1)) : Wp q pc lv st M Q ↔ Wp q (pc + 1) lv (vI x :: st) M Q := w_go hd rfl rfl
theorem w_bipush {x y : Int} (h : (Int8.ofInt x).toInt32.toInt = y) (hd : decode (xqc q) pc = .ok (.bipush x, 2)) : Wp q pc lv st M Q ↔ Wp q (pc + 2) lv (vI y :: st) M Q := by
  rw [← h]
  exact w_go hd rfl rfl
theorem w_sipush {x y : Int} (h : (Int16.ofInt x).toInt32.toInt = y) (hd : decode (xqc q) pc = .ok (.sipush x, 3)) : Wp q pc lv st M Q ↔ Wp q (pc + 3) lv (vI y :: st) M Q := by
  rw [← h]
  exact w_go hd rfl rfl
theorem w_lconst0 (hd : decode (xqc q) pc = .ok (.lconst 0, 1)) : Wp q pc lv st M Q ↔ Wp q (pc + 1) lv (vJ 0 :: st) M Q := w_go hd rfl rfl
theorem w_lconst1 (hd : decode (xqc q) pc = .ok (.lconst 1, 1)) : Wp q pc lv st M Q ↔ Wp q (pc + 1) lv (vJ 1 :: st) M Q := w_go hd rfl rfl
theorem w_dconst0 (hd : decode (xqc q) pc = .ok (.dconst 0, 1)) : Wp q pc lv st M Q ↔ Wp q (pc + 1) lv (vD FP.dconst0 :: st) M Q := w_go hd rfl rfl
theorem w_dconst1 (hd : decode (xqc q) pc = .ok (.dconst 1, 1)) : Wp q pc lv st M Q ↔ Wp q (pc + 1) lv (vD FP.dconst1 :: st) M Q := w_go hd rfl rfl
theorem w_null (hd : decode (xqc q) pc = .ok (.aconst_null, 1)) : Wp q pc lv st M Q ↔ Wp q (pc + 1) lv (vR 0 :: st) M Q := w_go hd rfl rfl
theorem w_ldc {k : Nat} {x : Int} (hl : xlk xiL (xqk q) k = some x) (hd : decode (xqc q) pc = .ok (.ldc k, 2)) : Wp q pc lv st M Q ↔ Wp q (pc + 2) lv (vI x :: st) M Q := w_go hd rfl (by simp only [xins, hl])
theorem w_ldcw {k : Nat} {x : Int} (hl : xlk xiL (xqk q) k = some x) (hd : decode (xqc q) pc = .ok (.ldc_w k, 3)) : Wp q pc lv st M Q ↔ Wp q (pc + 3) lv (vI x :: st) M Q := w_go hd rfl (by simp only [xins, hl])
theorem w_ldc2d {k : Nat} {x : UInt64} (hl : xlk xdL (xqk q) k = some x) (hd : decode (xqc q) pc = .ok (.ldc2_w k, 3)) : Wp q pc lv st M Q ↔ Wp q (pc + 3) lv (vD x :: st) M Q := w_go hd rfl (by simp only [xins, hl])
theorem w_ldc2l {k : Nat} {x : Int} (hl : xlk xdL (xqk q) k = none ∧ xlk xjL (xqk q) k = some x) (hd : decode (xqc q) pc = .ok (.ldc2_w k, 3)) : Wp q pc lv st M Q ↔ Wp q (pc + 3) lv (vJ x :: st) M Q := w_go hd rfl (by simp only [xins, hl.1, hl.2])
theorem w_iload_n {k : Fin 4} {x : Int} (hg : gv (k : Nat) lv = vI x) (hd : decode (xqc q) pc = .ok (.iload_n k, 1)) : Wp q pc lv st M Q ↔ Wp q (pc + 1) lv (vI x :: st) M Q := w_go hd rfl (by show xld _ _ _ _ _ _ = _; unfold xld; rw [hg]; rfl)
theorem w_istore_n {k : Fin 4} {x : Int} {lv' : List xv} (hk : (k : Nat) < xqn q) (hg : st1 (k : Nat) (vI x) lv = lv') (hd : decode (xqc q) pc = .ok (.istore_n k, 1)) : Wp q pc lv (vI x :: st) M Q ↔ Wp q (pc + 1) lv' st M Q := by
  subst hg
  exact w_go hd rfl (if_pos ⟨rfl, hk⟩)
theorem w_iload {k : Nat} {x : Int} (hg : gv k lv = vI x) (hd : decode (xqc q) pc = .ok (.iload k, 2)) : Wp q pc lv st M Q ↔ Wp q (pc + 2) lv (vI x :: st) M Q := w_go hd rfl (by show xld _ _ _ _ _ _ = _; unfold xld; rw [hg]; rfl)
theorem w_istore {k : Nat} {x : Int} {lv' : List xv} (hk : k < xqn q) (hg : st1 k (vI x) lv = lv') (hd : decode (xqc q) pc = .ok (.istore k, 2)) : Wp q pc lv (vI x :: st) M Q ↔ Wp q (pc + 2) lv' st M Q := by
  subst hg
  exact w_go hd rfl (if_pos ⟨rfl, hk⟩)
theorem w_lload_n {k : Fin 4} {x : Int} (hg : gv (k : Nat) lv = vJ x) (hd : decode (xqc q) pc = .ok (.lload_n k, 1)) : Wp q pc lv st M Q ↔ Wp q (pc + 1) lv (vJ x :: st) M Q := w_go hd rfl (by show xld _ _ _ _ _ _ = _; unfold xld; rw [hg]; rfl)
theorem w_lstore_n {k : Fin 4} {x : Int} {lv' : List xv} (hk : (k : Nat) + 1 < xqn q) (hg : st2 (k : Nat) (vJ x) lv = lv') (hd : decode (xqc q) pc = .ok (.lstore_n k, 1)) : Wp q pc lv (vJ x :: st) M Q ↔ Wp q (pc + 1) lv' st M Q := by
  subst hg
  exact w_go hd rfl (if_pos ⟨rfl, hk⟩)
theorem w_lload {k : Nat} {x : Int} (hg : gv k lv = vJ x) (hd : decode (xqc q) pc = .ok (.lload k, 2)) : Wp q pc lv st M Q ↔ Wp q (pc + 2) lv (vJ x :: st) M Q := w_go hd rfl (by show xld _ _ _ _ _ _ = _; unfold xld; rw [hg]; rfl)
theorem w_lstore {k : Nat} {x : Int} {lv' : List xv} (hk : k + 1 < xqn q) (hg : st2 k (vJ x) lv = lv') (hd : decode (xqc q) pc = .ok (.lstore k, 2)) : Wp q pc lv (vJ x :: st) M Q ↔ Wp q (pc + 2) lv' st M Q := by
  subst hg
  exact w_go hd rfl (if_pos ⟨rfl, hk⟩)
theorem w_dload_n {k : Fin 4} {x : UInt64} (hg : gv (k : Nat) lv = vD x) (hd : decode (xqc q) pc = .ok (.dload_n k, 1)) : Wp q pc lv st M Q ↔ Wp q (pc + 1) lv (vD x :: st) M Q := w_go hd rfl (by show xld _ _ _ _ _ _ = _; unfold xld; rw [hg]; rfl)
theorem w_dstore_n {k : Fin 4} {x : UInt64} {lv' : List xv} (hk : (k : Nat) + 1 < xqn q) (hg : st2 (k : Nat) (vD x) lv = lv') (hd : decode (xqc q) pc = .ok (.dstore_n k, 1)) : Wp q pc lv (vD x :: st) M Q ↔ Wp q (pc + 1) lv' st M Q := by
  subst hg
  exact w_go hd rfl (if_pos ⟨rfl, hk⟩)
theorem w_dload {k : Nat} {x : UInt64} (hg : gv k lv = vD x) (hd : decode (xqc q) pc = .ok (.dload k, 2)) : Wp q pc lv st M Q ↔ Wp q (pc + 2) lv (vD x :: st) M Q := w_go hd rfl (by show xld _ _ _ _ _ _ = _; unfold xld; rw [hg]; rfl)
theorem w_dstore {k : Nat} {x : UInt64} {lv' : List xv} (hk : k + 1 < xqn q) (hg : st2 k (vD x) lv = lv') (hd : decode (xqc q) pc = .ok (.dstore k, 2)) : Wp q pc lv (vD x :: st) M Q ↔ Wp q (pc + 2) lv' st M Q := by
  subst hg
  exact w_go hd rfl (if_pos ⟨rfl, hk⟩)
theorem w_aload_n {k : Fin 4} {x : Nat} (hg : gv (k : Nat) lv = vR x) (hd : decode (xqc q) pc = .ok (.aload_n k, 1)) : Wp q pc lv st M Q ↔ Wp q (pc + 1) lv (vR x :: st) M Q := w_go hd rfl (by show xld _ _ _ _ _ _ = _; unfold xld; rw [hg]; rfl)
theorem w_astore_n {k : Fin 4} {x : Nat} {lv' : List xv} (hk : (k : Nat) < xqn q) (hg : st1 (k : Nat) (vR x) lv = lv') (hd : decode (xqc q) pc = .ok (.astore_n k, 1)) : Wp q pc lv (vR x :: st) M Q ↔ Wp q (pc + 1) lv' st M Q := by
  subst hg
  exact w_go hd rfl (if_pos ⟨rfl, hk⟩)
theorem w_aload {k : Nat} {x : Nat} (hg : gv k lv = vR x) (hd : decode (xqc q) pc = .ok (.aload k, 2)) : Wp q pc lv st M Q ↔ Wp q (pc + 2) lv (vR x :: st) M Q := w_go hd rfl (by show xld _ _ _ _ _ _ = _; unfold xld; rw [hg]; rfl)
theorem w_astore {k : Nat} {x : Nat} {lv' : List xv} (hk : k < xqn q) (hg : st1 k (vR x) lv = lv') (hd : decode (xqc q) pc = .ok (.astore k, 2)) : Wp q pc lv (vR x :: st) M Q ↔ Wp q (pc + 2) lv' st M Q := by
  subst hg
  exact w_go hd rfl (if_pos ⟨rfl, hk⟩)
theorem w_iinc {k : Nat} {x c : Int} {lv' : List xv} (hk : k < xqn q) (hv : gv k lv = vI x) (hg : st1 k (vI (x + c)) lv = lv') (hd : decode (xqc q) pc = .ok (.iinc k c, 3)) : Wp q pc lv st M Q ↔ Wp q (pc + 3) lv' st M Q := by
  subst hg
  refine w_go hd rfl ?_
  have hv : gv k lv = .inl x := hv
  simp only [xins, hv]
  exact if_pos hk
theorem w_dupR {x : Nat} (hd : decode (xqc q) pc = .ok (.dup, 1)) : Wp q pc lv (vR x :: st) M Q ↔ Wp q (pc + 1) lv (vR x :: vR x :: st) M Q := w_go hd rfl rfl
theorem w_dupI {x : Int} (hd : decode (xqc q) pc = .ok (.dup, 1)) : Wp q pc lv (vI x :: st) M Q ↔ Wp q (pc + 1) lv (vI x :: vI x :: st) M Q := w_go hd rfl rfl
theorem w_dup2 {x : Int} {y : Nat} (hd : decode (xqc q) pc = .ok (.dup2, 1)) : Wp q pc lv (vI x :: vR y :: st) M Q ↔ Wp q (pc + 1) lv (vI x :: vR y :: vI x :: vR y :: st) M Q := w_go hd rfl rfl
theorem w_popR {x : Nat} (hd : decode (xqc q) pc = .ok (.pop, 1)) : Wp q pc lv (vR x :: st) M Q ↔ Wp q (pc + 1) lv st M Q := w_go hd rfl rfl
theorem w_popI {x : Int} (hd : decode (xqc q) pc = .ok (.pop, 1)) : Wp q pc lv (vI x :: st) M Q ↔ Wp q (pc + 1) lv st M Q := w_go hd rfl rfl
theorem w_goto {off : Int} {t : Nat} (ht : (pc : Int) + off = (t : Int)) (hd : decode (xqc q) pc = .ok (.goto off, 3)) : Wp q pc lv st M Q ↔ Wp q t lv st M Q := w_jm hd rfl ht rfl
theorem w_ifCond_lt {x : Int} {off : Int} {t : Nat} (ht : (pc : Int) + off = (t : Int)) (hd : decode (xqc q) pc = .ok (.ifCond .lt off, 3)) : Wp q pc lv (vI x :: st) M Q ↔ if wr x < 0 then Wp q t lv st M Q else Wp q (pc + 3) lv st M Q := w_br hd rfl ht rfl (cnd_lt _ _)
theorem w_ifCond_gt {x : Int} {off : Int} {t : Nat} (ht : (pc : Int) + off = (t : Int)) (hd : decode (xqc q) pc = .ok (.ifCond .gt off, 3)) : Wp q pc lv (vI x :: st) M Q ↔ if 0 < wr x then Wp q t lv st M Q else Wp q (pc + 3) lv st M Q := w_br hd rfl ht rfl (cnd_gt _ _)
theorem w_ifCond_eq {x : Int} {off : Int} {t : Nat} (ht : (pc : Int) + off = (t : Int)) (hd : decode (xqc q) pc = .ok (.ifCond .eq off, 3)) : Wp q pc lv (vI x :: st) M Q ↔ if wr x = 0 then Wp q t lv st M Q else Wp q (pc + 3) lv st M Q := w_br hd rfl ht rfl (cnd_eq _ _)
theorem w_ifCond_ge {x : Int} {off : Int} {t : Nat} (ht : (pc : Int) + off = (t : Int)) (hd : decode (xqc q) pc = .ok (.ifCond .ge off, 3)) : Wp q pc lv (vI x :: st) M Q ↔ if wr x < 0 then Wp q (pc + 3) lv st M Q else Wp q t lv st M Q := w_brn hd rfl ht rfl (cnd_ge _ _)
theorem w_ifCond_le {x : Int} {off : Int} {t : Nat} (ht : (pc : Int) + off = (t : Int)) (hd : decode (xqc q) pc = .ok (.ifCond .le off, 3)) : Wp q pc lv (vI x :: st) M Q ↔ if 0 < wr x then Wp q (pc + 3) lv st M Q else Wp q t lv st M Q := w_brn hd rfl ht rfl (cnd_le _ _)
theorem w_ifCond_ne {x : Int} {off : Int} {t : Nat} (ht : (pc : Int) + off = (t : Int)) (hd : decode (xqc q) pc = .ok (.ifCond .ne off, 3)) : Wp q pc lv (vI x :: st) M Q ↔ if wr x = 0 then Wp q (pc + 3) lv st M Q else Wp q t lv st M Q := w_brn hd rfl ht rfl (cnd_ne _ _)
theorem w_if_icmp_lt {x y : Int} {off : Int} {t : Nat} (ht : (pc : Int) + off = (t : Int)) (hd : decode (xqc q) pc = .ok (.if_icmp .lt off, 3)) : Wp q pc lv (vI y :: vI x :: st) M Q ↔ if wr x < wr y then Wp q t lv st M Q else Wp q (pc + 3) lv st M Q := w_br hd rfl ht rfl (cnd_lt _ _)
theorem w_if_icmp_gt {x y : Int} {off : Int} {t : Nat} (ht : (pc : Int) + off = (t : Int)) (hd : decode (xqc q) pc = .ok (.if_icmp .gt off, 3)) : Wp q pc lv (vI y :: vI x :: st) M Q ↔ if wr y < wr x then Wp q t lv st M Q else Wp q (pc + 3) lv st M Q := w_br hd rfl ht rfl (cnd_gt _ _)
theorem w_if_icmp_eq {x y : Int} {off : Int} {t : Nat} (ht : (pc : Int) + off = (t : Int)) (hd : decode (xqc q) pc = .ok (.if_icmp .eq off, 3)) : Wp q pc lv (vI y :: vI x :: st) M Q ↔ if wr x = wr y then Wp q t lv st M Q else Wp q (pc + 3) lv st M Q := w_br hd rfl ht rfl (cnd_eq _ _)
theorem w_if_icmp_ge {x y : Int} {off : Int} {t : Nat} (ht : (pc : Int) + off = (t : Int)) (hd : decode (xqc q) pc = .ok (.if_icmp .ge off, 3)) : Wp q pc lv (vI y :: vI x :: st) M Q ↔ if wr x < wr y then Wp q (pc + 3) lv st M Q else Wp q t lv st M Q := w_brn hd rfl ht rfl (cnd_ge _ _)
theorem w_if_icmp_le {x y : Int} {off : Int} {t : Nat} (ht : (pc : Int) + off = (t : Int)) (hd : decode (xqc q) pc = .ok (.if_icmp .le off, 3)) : Wp q pc lv (vI y :: vI x :: st) M Q ↔ if wr y < wr x then Wp q (pc + 3) lv st M Q else Wp q t lv st M Q := w_brn hd rfl ht rfl (cnd_le _ _)
theorem w_if_icmp_ne {x y : Int} {off : Int} {t : Nat} (ht : (pc : Int) + off = (t : Int)) (hd : decode (xqc q) pc = .ok (.if_icmp .ne off, 3)) : Wp q pc lv (vI y :: vI x :: st) M Q ↔ if wr x = wr y then Wp q (pc + 3) lv st M Q else Wp q t lv st M Q := w_brn hd rfl ht rfl (cnd_ne _ _)
theorem w_ifnull {x : Nat} {off : Int} {t : Nat} (ht : (pc : Int) + off = (t : Int)) (hd : decode (xqc q) pc = .ok (.ifnull off, 3)) : Wp q pc lv (vR x :: st) M Q ↔ if x = 0 then Wp q t lv st M Q else Wp q (pc + 3) lv st M Q := w_br hd rfl ht rfl decide_eq_true_iff
theorem w_ifnonnull {x : Nat} {off : Int} {t : Nat} (ht : (pc : Int) + off = (t : Int)) (hd : decode (xqc q) pc = .ok (.ifnonnull off, 3)) : Wp q pc lv (vR x :: st) M Q ↔ if x = 0 then Wp q (pc + 3) lv st M Q else Wp q t lv st M Q := w_brn hd rfl ht rfl decide_eq_true_iff
theorem w_get0 {k ci j f x t : Nat} (hl : xlk xfL (xqk q) k = some (ci, j, 0, f) ∧ 1 + ci = t) (hd : decode (xqc q) pc = .ok (.getfield k, 3)) : Wp q pc lv (vR x :: st) M Q ↔ tg x = t ∧ Wp q (pc + 3) lv (vI (mA M x j) :: st) M Q := by
  obtain ⟨hl, rfl⟩ := hl
  exact (w_if hd rfl (by simp only [xins, hl]; rfl)).trans (and_tg (by omega))
theorem w_get1 {k ci j f x t : Nat} (hl : xlk xfL (xqk q) k = some (ci, j, 1, f) ∧ 1 + ci = t) (hd : decode (xqc q) pc = .ok (.getfield k, 3)) : Wp q pc lv (vR x :: st) M Q ↔ tg x = t ∧ Wp q (pc + 3) lv (vD (mB M x j) :: st) M Q := by
  obtain ⟨hl, rfl⟩ := hl
  exact (w_if hd rfl (by simp only [xins, hl]; rfl)).trans (and_tg (by omega))
theorem w_get2 {k ci j f x t : Nat} (hl : xlk xfL (xqk q) k = some (ci, j, 2, f) ∧ 1 + ci = t) (hd : decode (xqc q) pc = .ok (.getfield k, 3)) : Wp q pc lv (vR x :: st) M Q ↔ tg x = t ∧ Wp q (pc + 3) lv (vR (mR M x j) :: st) M Q := by
  obtain ⟨hl, rfl⟩ := hl
  exact (w_if hd rfl (by simp only [xins, hl]; rfl)).trans (and_tg (by omega))
theorem w_put0 {k ci j f y t : Nat} {x : Int} (hl : xlk xfL (xqk q) k = some (ci, j, 0, f) ∧ 1 + ci = t ∧ (f = 0 ∨ (f = 1 ∧ (xqy q).name = "<init>"))) (hd : decode (xqc q) pc = .ok (.putfield k, 3)) : Wp q pc lv (vI x :: vR y :: st) M Q ↔ tg y = t ∧ Wp q (pc + 3) lv st (wA M y j (wr x)) Q := by
  obtain ⟨hl, rfl, hf⟩ := hl
  exact (w_if hd rfl (by simp only [xins, hl, if_pos hf]; rfl)).trans (and_tg (by omega))
theorem w_put1 {k ci j f y t : Nat} {x : UInt64} (hl : xlk xfL (xqk q) k = some (ci, j, 1, f) ∧ 1 + ci = t ∧ (f = 0 ∨ (f = 1 ∧ (xqy q).name = "<init>"))) (hd : decode (xqc q) pc = .ok (.putfield k, 3)) : Wp q pc lv (vD x :: vR y :: st) M Q ↔ tg y = t ∧ Wp q (pc + 3) lv st (wB M y j x) Q := by
  obtain ⟨hl, rfl, hf⟩ := hl
  exact (w_if hd rfl (by simp only [xins, hl, if_pos hf]; rfl)).trans (and_tg (by omega))
theorem w_put2 {k ci j f y t : Nat} {x : Nat} (hl : xlk xfL (xqk q) k = some (ci, j, 2, f) ∧ 1 + ci = t ∧ (f = 0 ∨ (f = 1 ∧ (xqy q).name = "<init>"))) (hd : decode (xqc q) pc = .ok (.putfield k, 3)) : Wp q pc lv (vR x :: vR y :: st) M Q ↔ tg y = t ∧ Wp q (pc + 3) lv st (wR M y j x) Q := by
  obtain ⟨hl, rfl, hf⟩ := hl
  exact (w_if hd rfl (by simp only [xins, hl, if_pos hf]; rfl)).trans (and_tg (by omega))
theorem w_alen {x : Nat} (hd : decode (xqc q) pc = .ok (.arraylength, 1)) : Wp q pc lv (vR x :: st) M Q ↔ (32 ≤ tg x ∧ tg x < 39 ∧ ¬ x = 0) ∧ Wp q (pc + 1) lv (vI (ln x) :: st) M Q := w_if hd rfl rfl
theorem w_iaload {x : Int} {y : Nat} (hd : decode (xqc q) pc = .ok (.iaload, 1)) : Wp q pc lv (vI x :: vR y :: st) M Q ↔ (tg y = 32 ∧ 0 ≤ wr x ∧ wr x < ln y) ∧ Wp q (pc + 1) lv (vI (mA M y (wr x).toNat) :: st) M Q := w_if hd rfl rfl
theorem w_baload {x : Int} {y : Nat} (hd : decode (xqc q) pc = .ok (.baload, 1)) : Wp q pc lv (vI x :: vR y :: st) M Q ↔ (tg y = 34 ∧ 0 ≤ wr x ∧ wr x < ln y) ∧ Wp q (pc + 1) lv (vI (mA M y (wr x).toNat) :: st) M Q := w_if hd rfl rfl
theorem w_daload {x : Int} {y : Nat} (hd : decode (xqc q) pc = .ok (.daload, 1)) : Wp q pc lv (vI x :: vR y :: st) M Q ↔ (tg y = 33 ∧ 0 ≤ wr x ∧ wr x < ln y) ∧ Wp q (pc + 1) lv (vD (mB M y (wr x).toNat) :: st) M Q := w_if hd rfl rfl
theorem w_aaload {x : Int} {y : Nat} (hd : decode (xqc q) pc = .ok (.aaload, 1)) : Wp q pc lv (vI x :: vR y :: st) M Q ↔ ((35 ≤ tg y ∧ tg y < 39) ∧ 0 ≤ wr x ∧ wr x < ln y) ∧ Wp q (pc + 1) lv (vR (mR M y (wr x).toNat) :: st) M Q := w_if hd rfl rfl
theorem w_iastore {z : Int} {x : Int} {y : Nat} (hd : decode (xqc q) pc = .ok (.iastore, 1)) : Wp q pc lv (vI z :: vI x :: vR y :: st) M Q ↔ (tg y = 32 ∧ 0 ≤ wr x ∧ wr x < ln y) ∧ Wp q (pc + 1) lv st (wA M y (wr x).toNat (wr z)) Q := w_if hd rfl rfl
theorem w_bastore {z : Int} {x : Int} {y : Nat} (hd : decode (xqc q) pc = .ok (.bastore, 1)) : Wp q pc lv (vI z :: vI x :: vR y :: st) M Q ↔ (tg y = 34 ∧ 0 ≤ wr x ∧ wr x < ln y ∧ (z = 0 ∨ z = 1)) ∧ Wp q (pc + 1) lv st (wA M y (wr x).toNat z) Q := w_if hd rfl rfl
theorem w_dastore {z : UInt64} {x : Int} {y : Nat} (hd : decode (xqc q) pc = .ok (.dastore, 1)) : Wp q pc lv (vD z :: vI x :: vR y :: st) M Q ↔ (tg y = 33 ∧ 0 ≤ wr x ∧ wr x < ln y) ∧ Wp q (pc + 1) lv st (wB M y (wr x).toNat z) Q := w_if hd rfl rfl
theorem w_aastore {z : Nat} {x : Int} {y : Nat} (hd : decode (xqc q) pc = .ok (.aastore, 1)) : Wp q pc lv (vR z :: vI x :: vR y :: st) M Q ↔ ((35 ≤ tg y ∧ tg y < 38) ∧ 0 ≤ wr x ∧ wr x < ln y ∧ (z = 0 ∨ tg z = xel (tg y))) ∧ Wp q (pc + 1) lv st (wR M y (wr x).toNat z) Q := w_if hd rfl rfl
theorem w_new {k ci t sl col : Nat} (hl : xlk xnL (xqk q) k = some ci ∧ 1 + ci = t ∧ lz_nF ci = sl ∧ xcol q pc = col ∧ col < 131072) (hd : decode (xqc q) pc = .ok (.new k, 3)) : Wp q pc lv st M Q ↔ Wp q (pc + 3) lv (vR (na M t 0 col) :: st) (nw M t 0 col sl) Q := by
  obtain ⟨hl, rfl, rfl, rfl, hc⟩ := hl
  exact w_go hd rfl (by simp only [xins, hl, if_pos hc])
theorem w_newa_int {x : Int} {col : Nat} (hc : xcol q pc = col ∧ col < 131072) (hd : decode (xqc q) pc = .ok (.newarray .int, 2)) : Wp q pc lv (vI x :: st) M Q ↔ (0 ≤ wr x ∧ wr x < 32768) ∧ Wp q (pc + 2) lv (vR (na M 32 (wr x).toNat col) :: st) (nw M 32 (wr x).toNat col (wr x).toNat) Q := by
  obtain ⟨rfl, hc⟩ := hc
  exact (w_if hd rfl rfl).trans (and_congr_left' ⟨fun x => ⟨x.1, x.2.1⟩, fun x => ⟨x.1, x.2, hc⟩⟩)
theorem w_newa_double {x : Int} {col : Nat} (hc : xcol q pc = col ∧ col < 131072) (hd : decode (xqc q) pc = .ok (.newarray .double, 2)) : Wp q pc lv (vI x :: st) M Q ↔ (0 ≤ wr x ∧ wr x < 32768) ∧ Wp q (pc + 2) lv (vR (na M 33 (wr x).toNat col) :: st) (nw M 33 (wr x).toNat col (wr x).toNat) Q := by
  obtain ⟨rfl, hc⟩ := hc
  exact (w_if hd rfl rfl).trans (and_congr_left' ⟨fun x => ⟨x.1, x.2.1⟩, fun x => ⟨x.1, x.2, hc⟩⟩)
theorem w_newa_boolean {x : Int} {col : Nat} (hc : xcol q pc = col ∧ col < 131072) (hd : decode (xqc q) pc = .ok (.newarray .boolean, 2)) : Wp q pc lv (vI x :: st) M Q ↔ (0 ≤ wr x ∧ wr x < 32768) ∧ Wp q (pc + 2) lv (vR (na M 34 (wr x).toNat col) :: st) (nw M 34 (wr x).toNat col (wr x).toNat) Q := by
  obtain ⟨rfl, hc⟩ := hc
  exact (w_if hd rfl rfl).trans (and_congr_left' ⟨fun x => ⟨x.1, x.2.1⟩, fun x => ⟨x.1, x.2, hc⟩⟩)
theorem w_newq {k ty t col : Nat} {x : Int} (hl : xlk xaL (xqk q) k = some ty ∧ 32 + ty = t ∧ xcol q pc = col ∧ col < 131072) (hd : decode (xqc q) pc = .ok (.anewarray k, 3)) : Wp q pc lv (vI x :: st) M Q ↔ (0 ≤ wr x ∧ wr x < 32768) ∧ Wp q (pc + 3) lv (vR (na M t (wr x).toNat col) :: st) (nw M t (wr x).toNat col (wr x).toNat) Q := by
  obtain ⟨hl, rfl, rfl, hc⟩ := hl
  exact (w_if hd rfl (c := 0 ≤ wr x ∧ wr x < 32768 ∧ xcol q pc < 131072) (by simp only [xins, hl]; rfl)).trans (and_congr_left' ⟨fun x => ⟨x.1, x.2.1⟩, fun x => ⟨x.1, x.2, hc⟩⟩)
theorem w_multi {k col : Nat} {x y : Int} (hl : xlk xgL (xqk q) k = some () ∧ xcol q pc = col ∧ col < 131072) (hd : decode (xqc q) pc = .ok (.multianewarray k 2, 4)) : Wp q pc lv (vI y :: vI x :: st) M Q ↔ ((0 ≤ wr x ∧ wr x < 32768) ∧ 0 ≤ wr y ∧ wr y < 32768) ∧ Wp q (pc + 4) lv (vR (na M 38 (wr x).toNat col) :: st) (nws (nw M 38 (wr x).toNat col (wr x).toNat) (na M 38 (wr x).toNat col) (wr y).toNat col (wr x).toNat) Q := by
  obtain ⟨hl, rfl, hc⟩ := hl
  exact (w_if hd rfl (c := 2 = 2 ∧ (0 ≤ wr x ∧ wr x < 32768) ∧ (0 ≤ wr y ∧ wr y < 32768) ∧ xcol q pc < 131072) (by simp only [xins, hl]; rfl)).trans (and_congr_left' ⟨fun x => ⟨x.2.1, x.2.2.1⟩, fun x => ⟨rfl, x.1, x.2, hc⟩⟩)
theorem w_lreturn {x : Int} (hr : xqr q = some .long) (hd : decode (xqc q) pc = .ok (.lreturn, 1)) : Wp q pc lv [vJ x] M Q ↔ Q (some (vJ x)) M := w_rt hd rfl (by show (match xqr q with | some .long => xrt (some (vJ x)) M | _ => none) = _; rw [hr])
theorem w_dreturn {x : UInt64} (hr : xqr q = some .double) (hd : decode (xqc q) pc = .ok (.dreturn, 1)) : Wp q pc lv [vD x] M Q ↔ Q (some (vD x)) M := w_rt hd rfl (by show (match xqr q with | some .double => xrt (some (vD x)) M | _ => none) = _; rw [hr])
theorem w_areturn {x : Nat} {cn : String} (hr : xqr q = some (.object cn)) (hd : decode (xqc q) pc = .ok (.areturn, 1)) : Wp q pc lv [vR x] M Q ↔ Q (some (vR x)) M := w_rt hd rfl (by show (match xqr q with | some (.object _) => xrt (some (vR x)) M | _ => none) = _; rw [hr])
theorem w_ireturn {x : Int} (hr : xqr q = some .int) (hd : decode (xqc q) pc = .ok (.ireturn, 1)) : Wp q pc lv [vI x] M Q ↔ Q (some (vI x)) M := w_rt hd rfl (by show (match xqr q with | some .int => xrt (some (vI x)) M | some .boolean => if x = 0 ∨ x = 1 then xrt (some (vI x)) M else none | _ => none) = _; rw [hr])
theorem w_zreturn {x : Int} (hr : xqr q = some .boolean) (hd : decode (xqc q) pc = .ok (.ireturn, 1)) : Wp q pc lv [vI x] M Q ↔ (x = 0 ∨ x = 1) ∧ Q (some (vI x)) M := w_rti hd rfl (by show (match xqr q with | some .int => xrt (some (vI x)) M | some .boolean => if x = 0 ∨ x = 1 then xrt (some (vI x)) M else none | _ => none) = _; rw [hr])
theorem w_return (hr : xqr q = none) (hd : decode (xqc q) pc = .ok (.return_, 1)) : Wp q pc lv [] M Q ↔ Q none M := w_rt hd rfl (by show (match xqr q with | none => xrt none M | _ => none) = _; rw [hr])
theorem w_objInit {k x : Nat} (hl : xlk xoL (xqk q) k = some () ∧ 1 ≤ xqF q ∧ 12 ≤ xqW q) (hd : decode (xqc q) pc = .ok (.invokespecial k, 3)) : Wp q pc lv [vR x] M Q ↔ ¬ x = 0 ∧ Wp q (pc + 3) lv [] M Q := by
  obtain ⟨hl, h1, h2⟩ := hl
  have e := w_if (q := q) (pc := pc) (lv := lv) (st := [vR x]) (M := M) (Q := Q) hd rfl (c := ¬ x = 0 ∧ 1 ≤ xqF q ∧ cs [] + 12 ≤ xqW q) (by simp only [xins, hl]; rfl)
  exact e.trans (and_congr_left' ⟨fun z => z.1, fun z => ⟨z, h1, by show 0 + 12 ≤ _; omega⟩⟩)
theorem w_acopy {k x y : Nat} {n dp sp : Int} (hl : xlk xyL (xqk q) k = some () ∧ 1 ≤ xqF q ∧ 18 ≤ xqW q) (hd : decode (xqc q) pc = .ok (.invokestatic k, 3)) : Wp q pc lv [vI n, vI dp, vR y, vI sp, vR x] M Q ↔ (tg x = 32 ∧ tg y = 32 ∧ 0 ≤ wr sp ∧ 0 ≤ wr dp ∧ 0 ≤ wr n ∧ wr sp + wr n ≤ ln x ∧ wr dp + wr n ≤ ln y) ∧ Wp q (pc + 3) lv [] (wC M x (wr sp).toNat y (wr dp).toNat (wr n).toNat) Q := by
  obtain ⟨hl, h1, h2⟩ := hl
  have e := w_if (q := q) (pc := pc) (lv := lv) (st := [vI n, vI dp, vR y, vI sp, vR x]) (M := M) (Q := Q) hd rfl (c := (tg x = 32 ∧ tg y = 32 ∧ 0 ≤ wr sp ∧ 0 ≤ wr dp ∧ 0 ≤ wr n ∧ wr sp + wr n ≤ ln x ∧ wr dp + wr n ≤ ln y) ∧ 1 ≤ xqF q ∧ cs [] + 18 ≤ xqW q) (by simp only [xins, hl]; rfl)
  exact e.trans (and_congr_left' ⟨fun z => z.1, fun z => ⟨z, h1, by show 0 + 18 ≤ _; omega⟩⟩)
theorem w_callV {k na t x : Nat} {q1 : xq} {av lv0 : List xv} {stk : List xv} (hl : xlk xmL (xqk q) k = some (1, na, q1)) (hs : xtk na [] stk = some (av, vR x :: st)) (h0 : 1 + xqk q1 = t) (h1 : xqF q1 + 1 ≤ xqF q) (h2 : 8 + (xqn q1 + 11) + xqW q1 ≤ xqW q) (h3 : (xfl (vR x :: av)).length ≤ xqn q1) (h4 : xloc (vR x :: av) (xqn q1) = lv0) (hd : decode (xqc q) pc = .ok (.invokevirtual k, 3)) : Wp q pc lv stk M Q ↔ (tg x = t ∧ cs st ≤ 8) ∧ Wp q1 0 lv0 [] M (cont q (pc + 3) lv st Q) := by
  subst h0; subst h4
  refine w_cv hd rfl ?_ (by omega) h1 h2 h3
  show xinv q pc 1 1 true k lv stk M = _
  unfold xinv
  rw [hl]
  simp only [hs]
  rfl
theorem w_callI {k na t x kind : Nat} {q1 : xq} {av lv0 : List xv} {stk : List xv} (ho : xlk xoL (xqk q) k = none) (hl : xlk xmL (xqk q) k = some (kind, na, q1)) (hk : kind = 2 ∨ kind = 4) (hs : xtk na [] stk = some (av, vR x :: st)) (h0 : 1 + xqk q1 = t) (h1 : xqF q1 + 1 ≤ xqF q) (h2 : 8 + (xqn q1 + 11) + xqW q1 ≤ xqW q) (h3 : (xfl (vR x :: av)).length ≤ xqn q1) (h4 : xloc (vR x :: av) (xqn q1) = lv0) (hd : decode (xqc q) pc = .ok (.invokespecial k, 3)) : Wp q pc lv stk M Q ↔ (tg x = t ∧ cs st ≤ 8) ∧ Wp q1 0 lv0 [] M (cont q (pc + 3) lv st Q) := by
  subst h0; subst h4
  refine w_cv hd rfl ?_ (by omega) h1 h2 h3
  simp only [xins, ho]
  unfold xinv
  rw [hl]
  simp only [hs, if_pos hk]
  rfl
theorem w_callS {k na kind : Nat} {q1 : xq} {av lv0 : List xv} {stk : List xv} (ho : xlk xyL (xqk q) k = none) (hl : xlk xmL (xqk q) k = some (kind, na, q1)) (hk : kind = 0 ∨ kind = 3) (hs : xtk na [] stk = some (av, st)) (h1 : xqF q1 + 1 ≤ xqF q) (h2 : 8 + (xqn q1 + 11) + xqW q1 ≤ xqW q) (h3 : (xfl av).length ≤ xqn q1) (h4 : xloc av (xqn q1) = lv0) (hd : decode (xqc q) pc = .ok (.invokestatic k, 3)) : Wp q pc lv stk M Q ↔ cs st ≤ 8 ∧ Wp q1 0 lv0 [] M (cont q (pc + 3) lv st Q) := by
  subst h4
  refine (w_ca hd rfl (c := xqF q1 + 1 ≤ xqF q ∧ 8 + (xqn q1 + 11) + xqW q1 ≤ xqW q ∧ cs st ≤ 8 ∧ (xfl av).length ≤ xqn q1) ?_).trans (and_congr_left' (room_s h1 h2 h3))
  simp only [xins, ho]
  unfold xinv
  rw [hl]
  simp only [hs, if_pos hk]
  rfl
end WI
