/-! 13.xstep: the small machine's steps, its runs, and Wp -/
def xcol (q : xq) (pc : Nat) : Nat := 512 * xqi q + pc
def xld (chk : xv → Bool) (k pc : Nat) (lv st : List xv) (M : xm) : Option xo := if chk (gv k lv) = true then xgo pc lv (gv k lv :: st) M else none
def xst (chk : xv → Bool) (k pc nL : Nat) (lv st : List xv) (M : xm) : Option xo := match st with
  | v :: t => if chk v = true ∧ k < nL then xgo pc (st1 k v lv) t M else none
  | [] => none
def xsw (chk : xv → Bool) (k pc nL : Nat) (lv st : List xv) (M : xm) : Option xo := match st with
  | v :: t => if chk v = true ∧ k + 1 < nL then xgo pc (st2 k v lv) t M else none
  | [] => none
def xbr (c : Bool) (pc : Nat) (off : Int) (lv st : List xv) (M : xm) : Option xo := if 0 ≤ (pc : Int) + off then xgo (if c = true then ((pc : Int) + off).toNat else pc + 3) lv st M else none
def xtk : Nat → List xv → List xv → Option (List xv × List xv)
  | 0, acc, st => some (acc, st)
  | n + 1, acc, v :: st => xtk n (v :: acc) st
  | _ + 1, _, [] => none
def xcall (q q1 : xq) (pc : Nat) (av lv rest : List xv) (M : xm) : Option xo :=
  if xqF q1 + 1 ≤ xqF q ∧ 8 + (xqn q1 + 11) + xqW q1 ≤ xqW q ∧ cs rest ≤ 8 ∧ (xfl av).length ≤ xqn q1 then some (.inr (.inr (q1, xloc av (xqn q1), (pc + 3, lv, rest, M)))) else none
/-- a call of the kind kd (or its nest mate's kind kn), with a receiver or without -/
def xinv (q : xq) (pc kd kn : Nat) (rcv : Bool) (idx : Nat) (lv st : List xv) (M : xm) : Option xo := match xlk xmL (xqk q) idx with
  | some (kind, na, q1) => if kind = kd ∨ kind = kn then (match xtk na [] st with
    | some (av, rest) => if rcv = true then xR1 rest (fun L rest => if tg L = 1 + xqk q1 ∧ ¬ L = 0 then xcall q q1 pc (vR L :: av) lv rest M else none) else xcall q q1 pc av lv rest M
    | none => none) else none
  | none => none
def xlen (i : Instr) (n : Nat) : Nat := match i with
  | .iload _ | .lload _ | .dload _ | .aload _ | .istore _ | .lstore _ | .dstore _ | .astore _ | .bipush _ | .ldc _ | .newarray _ => 2
  | .sipush _ | .ldc_w _ | .ldc2_w _ | .iinc _ _ | .ifCond _ _ | .if_icmp _ _ | .ifnull _ | .ifnonnull _ | .goto _ | .getfield _ | .putfield _ | .invokevirtual _ | .invokespecial _ | .invokestatic _ | .new _ | .anewarray _ => 3
  | .multianewarray _ _ => 4
  | .tableswitch _ _ _ _ => n
  | _ => 1
def xins (q : xq) (pc : Nat) (lv st : List xv) (M : xm) (i : Instr) : Option xo := match i with
  | .iload_n k => xld isI k (pc + 1) lv st M
  | .iload k => xld isI k (pc + 2) lv st M
  | .lload_n k => xld isJ k (pc + 1) lv st M
  | .lload k => xld isJ k (pc + 2) lv st M
  | .dload_n k => xld isD k (pc + 1) lv st M
  | .dload k => xld isD k (pc + 2) lv st M
  | .aload_n k => xld isR k (pc + 1) lv st M
  | .aload k => xld isR k (pc + 2) lv st M
  | .istore_n k => xst isI k (pc + 1) (xqn q) lv st M
  | .istore k => xst isI k (pc + 2) (xqn q) lv st M
  | .astore_n k => xst isR k (pc + 1) (xqn q) lv st M
  | .astore k => xst isR k (pc + 2) (xqn q) lv st M
  | .lstore_n k => xsw isJ k (pc + 1) (xqn q) lv st M
  | .lstore k => xsw isJ k (pc + 2) (xqn q) lv st M
  | .dstore_n k => xsw isD k (pc + 1) (xqn q) lv st M
  | .dstore k => xsw isD k (pc + 2) (xqn q) lv st M
  | .iinc k c => (match gv k lv with
    | .inl x => if k < xqn q then xgo (pc + 3) (st1 k (vI (x + c)) lv) st M else none
    | _ => none)
  | .iadd => xI2 st (fun a b t => xgo (pc + 1) lv (vI (a + b) :: t) M)
  | .isub => xI2 st (fun a b t => xgo (pc + 1) lv (vI (a - b) :: t) M)
  | .imul => xI2 st (fun a b t => xgo (pc + 1) lv (vI (a * b) :: t) M)
  | .iand => xI2 st (fun a b t => xgo (pc + 1) lv (vI (xiand a b) :: t) M)
  | .ior => xI2 st (fun a b t => xgo (pc + 1) lv (vI (xior a b) :: t) M)
  | .ixor => xI2 st (fun a b t => xgo (pc + 1) lv (vI (xixor a b) :: t) M)
  | .ishl => xI2 st (fun a b t => xgo (pc + 1) lv (vI (xishl a b) :: t) M)
  | .ishr => xI2 st (fun a b t => xgo (pc + 1) lv (vI (xishr a b) :: t) M)
  | .iushr => xI2 st (fun a b t => xgo (pc + 1) lv (vI (xiushr a b) :: t) M)
  | .irem => xI2 st (fun a b t => if wr b = 0 then none else xgo (pc + 1) lv (vI ((wr a).tmod (wr b)) :: t) M)
  | .ineg => xI1 st (fun a t => xgo (pc + 1) lv (vI (-a) :: t) M)
  | .ladd => xJ2 st (fun a b t => xgo (pc + 1) lv (vJ (a + b) :: t) M)
  | .lsub => xJ2 st (fun a b t => xgo (pc + 1) lv (vJ (a - b) :: t) M)
  | .lneg => xJ1 st (fun a t => xgo (pc + 1) lv (vJ (-a) :: t) M)
  | .ldiv => xJ2 st (fun a b t => if w64 b = 0 then none else xgo (pc + 1) lv (vJ ((w64 a).tdiv (w64 b)) :: t) M)
  | .lcmp => xJ2 st (fun a b t => xgo (pc + 1) lv (vI (xlcmp (w64 a) (w64 b)) :: t) M)
  | .dadd => xD2 st (fun a b t => if isNaN64 (FP.dadd a b) = false then xgo (pc + 1) lv (vD (FP.dadd a b) :: t) M else none)
  | .dmul => xD2 st (fun a b t => if isNaN64 (FP.dmul a b) = false then xgo (pc + 1) lv (vD (FP.dmul a b) :: t) M else none)
  | .ddiv => xD2 st (fun a b t => if isNaN64 (FP.ddiv a b) = false then xgo (pc + 1) lv (vD (FP.ddiv a b) :: t) M else none)
  | .dcmp op => xD2 st (fun a b t => xgo (pc + 1) lv (vI (Op.cmpValue (FP.dcmp a b) op).toInt :: t) M)
  | .i2l => xI1 st (fun a t => xgo (pc + 1) lv (vJ (wr a) :: t) M)
  | .l2i => xJ1 st (fun a t => xgo (pc + 1) lv (vI a :: t) M)
  | .i2d => xI1 st (fun a t => xgo (pc + 1) lv (vD (FP.i2d (Int32.ofInt a)) :: t) M)
  | .l2d => xJ1 st (fun a t => xgo (pc + 1) lv (vD (FP.l2d (Int64.ofInt a)) :: t) M)
  | .d2i => xD1 st (fun a t => xgo (pc + 1) lv (vI (FP.d2i a).toInt :: t) M)
  | .d2l => xD1 st (fun a t => xgo (pc + 1) lv (vJ (FP.d2l a).toInt :: t) M)
  | .d2f => xD1 st (fun a t => if isNaN32 (FP.d2f a) = false then xgo (pc + 1) lv (vF (FP.d2f a) :: t) M else none)
  | .f2d => xF1 st (fun a t => if isNaN64 (FP.f2d a) = false then xgo (pc + 1) lv (vD (FP.f2d a) :: t) M else none)
  | .iconst c => xgo (pc + 1) lv (vI c :: st) M
  | .bipush c => xgo (pc + 2) lv (vI (Int8.ofInt c).toInt32.toInt :: st) M
  | .sipush c => xgo (pc + 3) lv (vI (Int16.ofInt c).toInt32.toInt :: st) M
  | .lconst c => xgo (pc + 1) lv (vJ (c : Nat) :: st) M
  | .dconst c => xgo (pc + 1) lv (vD (if (c : Nat) = 0 then FP.dconst0 else FP.dconst1) :: st) M
  | .aconst_null => xgo (pc + 1) lv (vR 0 :: st) M
  | .ldc k => (match xlk xiL (xqk q) k with
    | some v => xgo (pc + 2) lv (vI v :: st) M
    | none => none)
  | .ldc_w k => (match xlk xiL (xqk q) k with
    | some v => xgo (pc + 3) lv (vI v :: st) M
    | none => none)
  | .ldc2_w k => (match xlk xdL (xqk q) k with
    | some v => xgo (pc + 3) lv (vD v :: st) M
    | none => (match xlk xjL (xqk q) k with
      | some v => xgo (pc + 3) lv (vJ v :: st) M
      | none => none))
  | .dup => (match st with
    | v :: t => if xc2 v = false then xgo (pc + 1) lv (v :: v :: t) M else none
    | [] => none)
  | .dup2 => (match st with
    | v :: u :: t => if xc2 v = false ∧ xc2 u = false then xgo (pc + 1) lv (v :: u :: v :: u :: t) M else none
    | _ => none)
  | .pop => (match st with
    | v :: t => if xc2 v = false then xgo (pc + 1) lv t M else none
    | [] => none)
  | .goto off => xjmp pc off lv st M
  | .ifCond c off => xI1 st (fun a t => xbr (xcnd c (wr a) 0) pc off lv t M)
  | .if_icmp c off => xI2 st (fun a b t => xbr (xcnd c (wr a) (wr b)) pc off lv t M)
  | .ifnull off => xR1 st (fun L t => xbr (decide (L = 0)) pc off lv t M)
  | .ifnonnull off => xR1 st (fun L t => xbr (decide (¬ L = 0)) pc off lv t M)
  | .tableswitch dflt lo hi offs => xI1 st (fun a t => if lo ≤ wr a ∧ wr a ≤ hi then (match offs[(wr a - lo).toNat]? with
    | some off => xjmp pc off lv t M
    | none => none) else xjmp pc dflt lv t M)
  | .getfield k => (match xlk xfL (xqk q) k with
    | some (ci, j, kd, _) => xR1 st (fun L t => if tg L = 1 + ci ∧ ¬ L = 0 then (match kd with
      | 0 => xgo (pc + 3) lv (vI (mA M L j) :: t) M
      | 1 => xgo (pc + 3) lv (vD (mB M L j) :: t) M
      | _ => xgo (pc + 3) lv (vR (mR M L j) :: t) M) else none)
    | none => none)
  | .putfield k => (match xlk xfL (xqk q) k with
    | some (ci, j, kd, fin) => if fin = 0 ∨ (fin = 1 ∧ (xqy q).name = "<init>") then (match kd with
      | 0 => xI1 st (fun x t => xR1 t (fun L t => if tg L = 1 + ci ∧ ¬ L = 0 then xgo (pc + 3) lv t (wA M L j (wr x)) else none))
      | 1 => xD1 st (fun x t => xR1 t (fun L t => if tg L = 1 + ci ∧ ¬ L = 0 then xgo (pc + 3) lv t (wB M L j x) else none))
      | _ => xR1 st (fun x t => xR1 t (fun L t => if tg L = 1 + ci ∧ ¬ L = 0 then xgo (pc + 3) lv t (wR M L j x) else none))) else none
    | none => none)
  | .arraylength => xR1 st (fun L t => if 32 ≤ tg L ∧ tg L < 39 ∧ ¬ L = 0 then xgo (pc + 1) lv (vI (ln L) :: t) M else none)
  | .iaload => xI1 st (fun i t => xR1 t (fun L t => if tg L = 32 ∧ 0 ≤ wr i ∧ wr i < ln L then xgo (pc + 1) lv (vI (mA M L (wr i).toNat) :: t) M else none))
  | .baload => xI1 st (fun i t => xR1 t (fun L t => if tg L = 34 ∧ 0 ≤ wr i ∧ wr i < ln L then xgo (pc + 1) lv (vI (mA M L (wr i).toNat) :: t) M else none))
  | .daload => xI1 st (fun i t => xR1 t (fun L t => if tg L = 33 ∧ 0 ≤ wr i ∧ wr i < ln L then xgo (pc + 1) lv (vD (mB M L (wr i).toNat) :: t) M else none))
  | .aaload => xI1 st (fun i t => xR1 t (fun L t => if (35 ≤ tg L ∧ tg L < 39) ∧ 0 ≤ wr i ∧ wr i < ln L then xgo (pc + 1) lv (vR (mR M L (wr i).toNat) :: t) M else none))
  | .iastore => xI1 st (fun x t => xI1 t (fun i t => xR1 t (fun L t => if tg L = 32 ∧ 0 ≤ wr i ∧ wr i < ln L then xgo (pc + 1) lv t (wA M L (wr i).toNat (wr x)) else none)))
  | .bastore => xI1 st (fun x t => xI1 t (fun i t => xR1 t (fun L t => if tg L = 34 ∧ 0 ≤ wr i ∧ wr i < ln L ∧ (x = 0 ∨ x = 1) then xgo (pc + 1) lv t (wA M L (wr i).toNat x) else none)))
  | .dastore => xD1 st (fun x t => xI1 t (fun i t => xR1 t (fun L t => if tg L = 33 ∧ 0 ≤ wr i ∧ wr i < ln L then xgo (pc + 1) lv t (wB M L (wr i).toNat x) else none)))
  | .aastore => xR1 st (fun x t => xI1 t (fun i t => xR1 t (fun L t => if (35 ≤ tg L ∧ tg L < 38) ∧ 0 ≤ wr i ∧ wr i < ln L ∧ (x = 0 ∨ tg x = xel (tg L)) then xgo (pc + 1) lv t (wR M L (wr i).toNat x) else none)))
  | .new k => (match xlk xnL (xqk q) k with
    | some ci => if xcol q pc < 131072 then xgo (pc + 3) lv (vR (na M (1 + ci) 0 (xcol q pc)) :: st) (nw M (1 + ci) 0 (xcol q pc) (lz_nF ci)) else none
    | none => none)
  | .newarray .int => xI1 st (fun x t => if 0 ≤ wr x ∧ wr x < 32768 ∧ xcol q pc < 131072 then xgo (pc + 2) lv (vR (na M 32 (wr x).toNat (xcol q pc)) :: t) (nw M 32 (wr x).toNat (xcol q pc) (wr x).toNat) else none)
  | .newarray .double => xI1 st (fun x t => if 0 ≤ wr x ∧ wr x < 32768 ∧ xcol q pc < 131072 then xgo (pc + 2) lv (vR (na M 33 (wr x).toNat (xcol q pc)) :: t) (nw M 33 (wr x).toNat (xcol q pc) (wr x).toNat) else none)
  | .newarray .boolean => xI1 st (fun x t => if 0 ≤ wr x ∧ wr x < 32768 ∧ xcol q pc < 131072 then xgo (pc + 2) lv (vR (na M 34 (wr x).toNat (xcol q pc)) :: t) (nw M 34 (wr x).toNat (xcol q pc) (wr x).toNat) else none)
  | .anewarray k => (match xlk xaL (xqk q) k with
    | some ty => xI1 st (fun x t => if 0 ≤ wr x ∧ wr x < 32768 ∧ xcol q pc < 131072 then xgo (pc + 3) lv (vR (na M (32 + ty) (wr x).toNat (xcol q pc)) :: t) (nw M (32 + ty) (wr x).toNat (xcol q pc) (wr x).toNat) else none)
    | none => none)
  | .multianewarray k d => (match xlk xgL (xqk q) k with
    | some _ => xI2 st (fun x y t => if d = 2 ∧ (0 ≤ wr x ∧ wr x < 32768) ∧ (0 ≤ wr y ∧ wr y < 32768) ∧ xcol q pc < 131072 then xgo (pc + 4) lv (vR (na M 38 (wr x).toNat (xcol q pc)) :: t) (nws (nw M 38 (wr x).toNat (xcol q pc) (wr x).toNat) (na M 38 (wr x).toNat (xcol q pc)) (wr y).toNat (xcol q pc) (wr x).toNat) else none)
    | none => none)
  | .ireturn => (match st with
    | [.inl x] => (match xqr q with
      | some .int => xrt (some (vI x)) M
      | some .boolean => if x = 0 ∨ x = 1 then xrt (some (vI x)) M else none
      | _ => none)
    | _ => none)
  | .lreturn => (match st with
    | [.inr (.inl x)] => (match xqr q with
      | some .long => xrt (some (vJ x)) M
      | _ => none)
    | _ => none)
  | .dreturn => (match st with
    | [.inr (.inr (.inl x))] => (match xqr q with
      | some .double => xrt (some (vD x)) M
      | _ => none)
    | _ => none)
  | .areturn => (match st with
    | [.inr (.inr (.inr (.inr (.inl x))))] => (match xqr q with
      | some (.object _) => xrt (some (vR x)) M
      | _ => none)
    | _ => none)
  | .return_ => (match st with
    | [] => (match xqr q with
      | none => xrt none M
      | _ => none)
    | _ => none)
  | .invokevirtual k => xinv q pc 1 1 true k lv st M
  | .invokestatic k => (match xlk xyL (xqk q) k with
    | some _ => (match st with
      | .inl n :: .inl dp :: .inr (.inr (.inr (.inr (.inl Ld)))) :: .inl sp :: .inr (.inr (.inr (.inr (.inl Ls)))) :: t => if (tg Ls = 32 ∧ tg Ld = 32 ∧ 0 ≤ wr sp ∧ 0 ≤ wr dp ∧ 0 ≤ wr n ∧ wr sp + wr n ≤ ln Ls ∧ wr dp + wr n ≤ ln Ld) ∧ 1 ≤ xqF q ∧ cs t + 18 ≤ xqW q then xgo (pc + 3) lv t (wC M Ls (wr sp).toNat Ld (wr dp).toNat (wr n).toNat) else none
      | _ => none)
    | none => xinv q pc 0 3 false k lv st M)
  | .invokespecial k => (match xlk xoL (xqk q) k with
    | some _ => xR1 st (fun L t => if ¬ L = 0 ∧ 1 ≤ xqF q ∧ cs t + 12 ≤ xqW q then xgo (pc + 3) lv t M else none)
    | none => xinv q pc 2 4 true k lv st M)
  | _ => none
def xstep (q : xq) (pc : Nat) (lv st : List xv) (M : xm) : Option xo := match decode (xqc q) pc with
  | .ok (i, n) => if n = xlen i n then xins q pc lv st M i else none
  | .error _ => none
def xex : Nat → xq → Nat → List xv → List xv → xm → Option (Option xv × xm)
  | 0, _, _, _, _, _ => none
  | f + 1, q, pc, lv, st, M => match xstep q pc lv st M with
    | none => none
    | some (.inl (pc', lv', st', M')) => xex f q pc' lv' st' M'
    | some (.inr (.inl r)) => some r
    | some (.inr (.inr (q', lv0, (pc', lv', st', M')))) => match xex f q' 0 lv0 [] M' with
      | none => none
      | some (r, M1) => xex f q pc' lv' (r.toList ++ st') M1
theorem xex_mono : ∀ (f : Nat) (q : xq) (pc : Nat) (lv st : List xv) (M : xm) (x : Option xv × xm), xex f q pc lv st M = some x → xex (f + 1) q pc lv st M = some x
  | 0, _, _, _, _, _, _, h => by cases h
  | f + 1, q, pc, lv, st, M, x, h => by
    rw [xex] at h ⊢
    cases hs : xstep q pc lv st M with
    | none => rw [hs] at h; cases h
    | some o =>
      rw [hs] at h
      rcases o with ⟨pc', lv', st', M'⟩ | r | ⟨q', lv0, pc', lv', st', M'⟩
      · exact xex_mono f _ _ _ _ _ _ h
      · exact h
      · simp only [] at h ⊢
        cases h1 : xex f q' 0 lv0 [] M' with
        | none => rw [h1] at h; cases h
        | some y =>
          rw [h1] at h
          rw [xex_mono f _ _ _ _ _ _ h1]
          exact xex_mono f _ _ _ _ _ _ h
theorem xex_le {f g : Nat} (hfg : f ≤ g) {q : xq} {pc : Nat} {lv st : List xv} {M : xm} {x : Option xv × xm} (h : xex f q pc lv st M = some x) : xex g q pc lv st M = some x := by
  induction hfg with
  | refl => exact h
  | step _ ih => exact xex_mono _ _ _ _ _ _ _ ih
def Wp (q : xq) (pc : Nat) (lv st : List xv) (M : xm) (Q : Option xv → xm → Prop) : Prop := ∃ (f : Nat) (r : Option xv) (M' : xm), xex f q pc lv st M = some (r, M') ∧ Q r M'
def cont (q : xq) (pc : Nat) (lv st : List xv) (Q : Option xv → xm → Prop) (r : Option xv) (M : xm) : Prop := Wp q pc lv (r.toList ++ st) M Q
theorem cont_n {q : xq} {pc : Nat} {lv st : List xv} {Q : Option xv → xm → Prop} {M : xm} : cont q pc lv st Q none M ↔ Wp q pc lv st M Q := Iff.rfl
theorem cont_s {q : xq} {pc : Nat} {lv st : List xv} {Q : Option xv → xm → Prop} {M : xm} {v : xv} : cont q pc lv st Q (some v) M ↔ Wp q pc lv (v :: st) M Q := Iff.rfl
theorem Wp_mono {q : xq} {pc : Nat} {lv st : List xv} {M : xm} {Q Q' : Option xv → xm → Prop} (h : Wp q pc lv st M Q) (hq : ∀ r M', Q r M' → Q' r M') : Wp q pc lv st M Q' := by
  obtain ⟨f, r, M', h1, h2⟩ := h
  exact ⟨f, r, M', h1, hq r M' h2⟩
theorem Wp_go {q : xq} {pc pc' : Nat} {lv st lv' st' : List xv} {M M' : xm} {Q : Option xv → xm → Prop} (h : xstep q pc lv st M = xgo pc' lv' st' M') : Wp q pc lv st M Q ↔ Wp q pc' lv' st' M' Q := by
  constructor
  · rintro ⟨f, r, M1, h1, h2⟩
    cases f with
    | zero => cases h1
    | succ f =>
      rw [xex, h] at h1
      exact ⟨f, r, M1, h1, h2⟩
  · rintro ⟨f, r, M1, h1, h2⟩
    refine ⟨f + 1, r, M1, ?_, h2⟩
    rw [xex, h]
    exact h1
theorem Wp_no {q : xq} {pc : Nat} {lv st : List xv} {M : xm} {Q : Option xv → xm → Prop} (h : xstep q pc lv st M = none) : ¬ Wp q pc lv st M Q := by
  rintro ⟨f, r, M1, h1, h2⟩
  cases f with
  | zero => cases h1
  | succ f =>
    rw [xex, h] at h1
    cases h1
theorem Wp_ret {q : xq} {pc : Nat} {lv st : List xv} {M M' : xm} {r : Option xv} {Q : Option xv → xm → Prop} (h : xstep q pc lv st M = xrt r M') : Wp q pc lv st M Q ↔ Q r M' := by
  constructor
  · rintro ⟨f, r, M1, h1, h2⟩
    cases f with
    | zero => cases h1
    | succ f =>
      rw [xex, h] at h1
      cases h1
      exact h2
  · intro h2
    refine ⟨1, r, M', ?_, h2⟩
    rw [xex, h]
    rfl
theorem Wp_call {q q1 : xq} {pc pc' : Nat} {lv st lv0 lv' st' : List xv} {M M' : xm} {Q : Option xv → xm → Prop} (h : xstep q pc lv st M = some (.inr (.inr (q1, lv0, (pc', lv', st', M'))))) : Wp q pc lv st M Q ↔ Wp q1 0 lv0 [] M' (cont q pc' lv' st' Q) := by
  constructor
  · rintro ⟨f, r, M1, h1, h2⟩
    cases f with
    | zero => cases h1
    | succ f =>
      rw [xex, h] at h1
      simp only [] at h1
      cases h3 : xex f q1 0 lv0 [] M' with
      | none => rw [h3] at h1; cases h1
      | some y =>
        rw [h3] at h1
        exact ⟨f, y.1, y.2, h3, f, r, M1, h1, h2⟩
  · rintro ⟨f, r1, M1, h1, g, r, M2, h2, h3⟩
    refine ⟨f + g + 1, r, M2, ?_, h3⟩
    rw [xex, h]
    simp only []
    rw [xex_le (Nat.le_add_right f g) h1]
    exact xex_le (Nat.le_add_left g f) h2
theorem Wp_if {q : xq} {pc pc' : Nat} {lv st lv' st' : List xv} {M M' : xm} {Q : Option xv → xm → Prop} {c : Prop} [Decidable c] (h : xstep q pc lv st M = if c then xgo pc' lv' st' M' else none) : Wp q pc lv st M Q ↔ c ∧ Wp q pc' lv' st' M' Q := by
  by_cases hc : c
  · rw [if_pos hc] at h
    rw [Wp_go h]
    exact ⟨fun x => ⟨hc, x⟩, fun x => x.2⟩
  · rw [if_neg hc] at h
    exact ⟨fun x => absurd x (Wp_no h), fun x => absurd x.1 hc⟩
