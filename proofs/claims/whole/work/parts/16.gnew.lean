/-! 16.gnew: new cells, arraycopy, over the small machine's state -/
theorem na_key {M : xm} {t n c : Nat} (ht : t < 64) (hn : n < 32768) (hc : c < 131072) : na M t n c % 64 = t ∧ na M t n c / 64 % 32768 = n ∧ na M t n c % 274877906944 = ky t n c ∧ na M t n c / 274877906944 = mC M (ky t n c) := by
  unfold na ad
  generalize hk : mC M (ky t n c) = k
  unfold ky
  omega
theorem xT_na {M : xm} {t n c : Nat} (ht : t < 64) (hn : n < 32768) (hc : c < 131072) : (xT M (na M t n c)).1 = 0 := by
  obtain ⟨h1, h2, h3, h4⟩ := na_key (M := M) ht hn hc
  unfold xT
  rw [h3, h4, if_neg (fun z => absurd z.2 (Nat.lt_irrefl _))]
theorem xT_nw {M : xm} {t n c sl : Nat} (h0 : 0 < t) (ht : t < 64) (hn : n < 32768) (hc : c < 131072) : xT (nw M t n c sl) = lz_upT (xT M) (na M t n c) (t, n) := by
  obtain ⟨h1, h2, h3, h4⟩ := na_key (M := M) ht hn hc
  funext l
  unfold lz_upT
  by_cases hl : l = na M t n c
  · rw [if_pos hl, hl]
    unfold xT
    rw [h1, h2, h3, h4, if_pos]
    refine ⟨by omega, ?_⟩
    show mC M (ky t n c) < if ky t n c = ky t n c then mC M (ky t n c) + 1 else mC M (ky t n c)
    rw [if_pos rfl]
    omega
  · rw [if_neg hl]
    unfold xT
    have hm : mC (nw M t n c sl) (l % 274877906944) = if l % 274877906944 = ky t n c then mC M (l % 274877906944) + 1 else mC M (l % 274877906944) := rfl
    rw [hm]
    by_cases hk : l % 274877906944 = ky t n c
    · rw [if_pos hk]
      have hne : l / 274877906944 ≠ mC M (ky t n c) := fun z => hl (by
        have e1 := Nat.div_add_mod l 274877906944
        have e2 := Nat.div_add_mod (na M t n c) 274877906944
        rw [h3, h4] at e2
        rw [hk, z] at e1
        exact e1.symm.trans e2)
      rw [hk]
      by_cases hq : l % 64 ≠ 0 ∧ l / 274877906944 < mC M (ky t n c)
      · rw [if_pos hq, if_pos ⟨hq.1, by omega⟩]
      · rw [if_neg hq, if_neg (fun z => hq ⟨z.1, by omega⟩)]
    · rw [if_neg hk]
section GN
variable {p : Program} {l : Launch} {e : Env} {Rm : Room} {s : State} {m : MethodId} {args : Array Value} {below : List Frame} {meth : Method} {c : Code} {D : va_G} {dA : Nat → ClassId} {b nL : Nat} {T0 : lz_T} {ad0 : Nat → Nat} {Q : State → Prop} {kc ks : Nat} {M : xm} {pc : Nat} {lv st : List xv} {q : xq}
theorem lz_asmZ {T : lz_T} {A : lz_A} {B : lz_B} {R : lz_R} {lz : List (Nat × Value)} {vs : List Value} (h : (∀ L, (T L).1 = 0 → A L = (fun _ => 0) ∧ B L = (fun _ => 0) ∧ R L = fun _ => none) → lz_Z p l e Rm s m args below meth c D dA b nL T0 ad0 Q kc ks T A B R pc lz vs) : lz_Z p l e Rm s m args below meth c D dA b nL T0 ad0 Q kc ks T A B R pc lz vs :=
  fun H locs la cells slots ad h1 h2 h3 h4 h5 h6 h7 h8 => h (by obtain ⟨Ls, hmem, hP, hD, hcl, hz⟩ := id h3; exact hz) H locs la cells slots ad h1 h2 h3 h4 h5 h6 h7 h8
/-- the memory behind a new cell is, for the machine, the one before it, but for T -/
theorem xnw_same {t n c sl : Nat} (ht : t < 64) (hn : n < 32768) (hc : c < 131072) (hz : ∀ L, (xT M L).1 = 0 → xA M L = (fun _ => 0) ∧ mB M L = (fun _ => 0) ∧ xR M L = fun _ => none) : xA (nw M t n c sl) = xA M ∧ mB (nw M t n c sl) = mB M ∧ xR (nw M t n c sl) = xR M := by
  obtain ⟨z1, z2, z3⟩ := hz _ (xT_na (M := M) ht hn hc)
  refine ⟨?_, ?_, ?_⟩
  · funext L j
    show Int32.ofInt (if L = na M t n c then 0 else M.2.1 L j) = _
    by_cases hL : L = na M t n c
    · rw [if_pos hL, hL, z1]; rfl
    · rw [if_neg hL]; rfl
  · funext L j
    show (if L = na M t n c then 0 else M.2.2.1 L j) = _
    by_cases hL : L = na M t n c
    · rw [if_pos hL, hL, z2]
    · rw [if_neg hL]; rfl
  · funext L j
    show (if (if L = na M t n c then 0 else M.2.2.2.1 L j) = 0 then none else some (if L = na M t n c then 0 else M.2.2.2.1 L j)) = _
    by_cases hL : L = na M t n c
    · rw [if_pos hL, if_pos rfl, hL, z3]
    · rw [if_neg hL]; rfl
theorem na_ne {t n c : Nat} (h0 : 0 < t) (ht : t < 64) (hn : n < 32768) (hc : c < 131072) : ¬ na M t n c = 0 := fun z => by
  have := (na_key (M := M) ht hn hc).1
  rw [z] at this
  omega
theorem g_new (C : ZC q p s m args meth c D dA b) {k ci : Nat} (F : lz_N (xqy q).cls k ci) (hcol : xcol q pc < 131072) (hc : kc + 1 ≤ Rm.cells) (hs : ks + lz_nF ci ≤ Rm.slots) (hd : decode (xqc q) pc = .ok (.new k, 3))
    (kk : ZZ q p l e Rm s m args below meth c D dA b T0 ad0 Q (kc + 1) (ks + lz_nF ci) (nw M (1 + ci) 0 (xcol q pc) (lz_nF ci)) (pc + 3) lv (vR (na M (1 + ci) 0 (xcol q pc)) :: st)) : ZZ q p l e Rm s m args below meth c D dA b T0 ad0 Q kc ks M pc lv st := by
  have hci : ci < 11 := F.1
  refine lz_asmZ (fun hz => ?_)
  obtain ⟨s1, s2, s3⟩ := xnw_same (M := M) (t := 1 + ci) (n := 0) (c := xcol q pc) (sl := lz_nF ci) (by omega) (by omega) hcol hz
  refine z_new C (na M (1 + ci) 0 (xcol q pc)) F (xT_na (by omega) (by omega) hcol) hc hs hd ?_
  unfold ZZ at kk
  rw [s1, s2, s3, xT_nw (by omega) (by omega) (by omega) hcol, List.map_cons, xval_r (na_ne (by omega) (by omega) (by omega) hcol)] at kk
  exact kk
theorem g_newa (C : ZC q p s m args meth c D dA b) {at0 : ArrayType} {ty : FieldType} {t : Nat} {x : Int} (hw : Cond.arrayClass ty ∈ lw_tb2) (hty : newarray.typeOf at0 = ty) (ht : ∀ dA : Nat → ClassId, (lz_tys dA)[t]? = some (dA t, ty)) (ht3 : t < 3) (hdef : ∀ (L N : Nat) (ad : Nat → Nat) (cA : ClassId), vp_cell cA (lz_ar ad (fun _ _ => 0) (fun _ _ => 0) (fun _ _ => none) L t N) = arrV cA N (fun _ => defaultValue ty)) (hcb : componentBytes ty ≤ 8) (hcol : xcol q pc < 131072) (h1 : 0 ≤ wr x) (h2 : wr x < 32768) (hc : kc + 1 ≤ Rm.cells) (hs : ks + (wr x).toNat ≤ Rm.slots) (hd : decode (xqc q) pc = .ok (.newarray at0, 2))
    (kk : ZZ q p l e Rm s m args below meth c D dA b T0 ad0 Q (kc + 1) (ks + (wr x).toNat) (nw M (32 + t) (wr x).toNat (xcol q pc) (wr x).toNat) (pc + 2) lv (vR (na M (32 + t) (wr x).toNat (xcol q pc)) :: st)) : ZZ q p l e Rm s m args below meth c D dA b T0 ad0 Q kc ks M pc lv (vI x :: st) := by
  refine lz_asmZ (fun hz => ?_)
  obtain ⟨s1, s2, s3⟩ := xnw_same (M := M) (t := 32 + t) (n := (wr x).toNat) (c := xcol q pc) (sl := (wr x).toNat) (by omega) (by omega) hcol hz
  have hN : (wr x).toNat * componentBytes ty ≤ 536870912 := Nat.le_trans (Nat.mul_le_mul (show (wr x).toNat ≤ 32768 by omega) hcb) (by decide)
  refine z_newa C (t := t) (na M (32 + t) (wr x).toNat (xcol q pc)) hw hty ht (fun ad cA => hdef _ _ ad cA) (xnI h1) hN (by omega) (xT_na (by omega) (by omega) hcol) hc hs hd ?_
  unfold ZZ at kk
  rw [s1, s2, s3, xT_nw (by omega) (by omega) (by omega) hcol, List.map_cons, xval_r (na_ne (by omega) (by omega) (by omega) hcol)] at kk
  exact kk
theorem g_newq (C : ZC q p s m args meth c D dA b) {k t : Nat} {x : Int} {cn : String} (hao : ∀ U, lz_K D dA U → va_AO cn U) (hw : Cond.classLink (xqy q).cls k cn ∈ lw_tb2) (ht : ∀ dA : Nat → ClassId, (lz_tys dA)[t]? = some (dA t, .object cn)) (ht3 : 3 ≤ t) (ht6 : t < 7) (hcol : xcol q pc < 131072) (h1 : 0 ≤ wr x) (h2 : wr x < 32768) (hc : kc + 1 ≤ Rm.cells) (hs : ks + (wr x).toNat ≤ Rm.slots) (hd : decode (xqc q) pc = .ok (.anewarray k, 3))
    (kk : ZZ q p l e Rm s m args below meth c D dA b T0 ad0 Q (kc + 1) (ks + (wr x).toNat) (nw M (32 + t) (wr x).toNat (xcol q pc) (wr x).toNat) (pc + 3) lv (vR (na M (32 + t) (wr x).toNat (xcol q pc)) :: st)) : ZZ q p l e Rm s m args below meth c D dA b T0 ad0 Q kc ks M pc lv (vI x :: st) := by
  refine lz_asmZ (fun hz => ?_)
  obtain ⟨s1, s2, s3⟩ := xnw_same (M := M) (t := 32 + t) (n := (wr x).toNat) (c := xcol q pc) (sl := (wr x).toNat) (by omega) (by omega) hcol hz
  refine z_newq C (t := t) (na M (32 + t) (wr x).toNat (xcol q pc)) hao hw ht ht3 (xnI h1) (by omega) (by omega) (xT_na (by omega) (by omega) hcol) hc hs hd ?_
  unfold ZZ at kk
  rw [s1, s2, s3, xT_nw (by omega) (by omega) (by omega) hcol, List.map_cons, xval_r (na_ne (by omega) (by omega) (by omega) hcol)] at kk
  exact kk
theorem z_acopy {T : lz_T} {A : lz_A} {B : lz_B} {R : lz_R} {lz : List (Nat × Value)} {rest : List Value} {y : MethodName} {cc : ByteArray} {ret : Option FieldType} (C : lz_C p s m args meth c D dA b y cc nL ret) {Ls Ld n0 n1 idx sp dp n : Nat} {spi dpi ni : Int32} (G : Cond.methodLink y.cls idx arraycopyName ∈ lw_tb2) (G2 : Cond.native arraycopyName ∈ lw_tb2 ∧ Cond.static arraycopyName ∈ lw_tb2 ∧ Cond.initialized "java/lang/System" ∈ lw_tb2) (hT0 : T Ls = (32 + 0, n0)) (hT1 : T Ld = (32 + 0, n1))
    (e1 : spi = nI sp) (e2 : dpi = nI dp) (e3 : ni = nI n) (h4' : sp + n ≤ n0) (h5' : dp + n ≤ n1) (b0 : n0 < 2 ^ 31) (b1 : n1 < 2 ^ 31) (hF : 1 ≤ Rm.frames) (hW : (rest.map fun v => v.category).sum + 18 ≤ Rm.locals) (hdg : decode cc pc = .ok (.invokestatic idx, 3))
    (kk : lz_Z p l e Rm s m args below meth c D dA b nL T0 ad0 Q kc ks T (fun a j => if a = Ld ∧ dp ≤ j ∧ j < dp + n then A Ls (sp + (j - dp)) else A a j) B R (pc + 3) lz rest) : lz_Z p l e Rm s m args below meth c D dA b nL T0 ad0 Q kc ks T A B R pc lz (.int ni :: .int dpi :: .ref Ld :: .int spi :: .ref Ls :: rest) := by
  intro H locs la cells slots ad h1 h2 h3 h4 h5 h6 h7 h8
  obtain ⟨Ls', hmem, hP, hD, hcl, hz⟩ := id h3
  obtain ⟨k0, hk0⟩ := lz_pos hmem (lz_tag_a hT0)
  obtain ⟨k1, hk1⟩ := lz_pos hmem (lz_tag_a hT1)
  have he0 := lz_ws_at (dA := dA) (ad := ad) (T := T) (A := A) (B := B) (R := R) hk0
  have he1 := lz_ws_at (dA := dA) (ad := ad) (T := T) (A := A) (B := B) (R := R) hk1
  rw [lz_cell_a hT0] at he0
  rw [lz_cell_a hT1] at he1
  subst e1; subst e2; subst e3
  have c1 : (nI sp).toNatClampNeg = sp := nI_clamp (by omega)
  have c2 : (nI dp).toNatClampNeg = dp := nI_clamp (by omega)
  have c3 : (nI n).toNatClampNeg = n := nI_clamp (by omega)
  refine va_copyi (ty := .int) C.1 C.2.1 (by rw [C.2.2.1, h6.1]) C.2.2.2.1 (C.2.2.2.2.1 _ G) (C.2.2.2.2.1 _ G2.1) (C.2.2.2.2.1 _ G2.2.1) (C.2.2.2.2.1 _ G2.2.2) C.2.2.2.2.2.1.1 hP hD h5 k0 k1 0 0 he0 he1 rfl rfl rfl (nI_pos (by omega)) (nI_pos (by omega)) (nI_pos (by omega)) (by rw [c1, c3]; exact h4') (by rw [c2, c3]; exact h5') (fun i _ => rfl) hF ?_ hdg (fun H1 locs1 hP1 hD1 hS1 => ?_)
  · rw [lz_catsum, show nativeFrameWords "java/lang/System" "arraycopy" 5 = 7 by decide]
    exact hW
  · rw [c1, c2, c3] at hP1 hD1
    refine kk H1 locs1 la cells slots ad h1 h2 (lz_H_set hmem hD hz hk1 (lz_tag_a hT1) (fun a ha => ⟨?_, rfl, rfl⟩) hcl ?_ hP1 hD1) h4 hS1 h6 h7 (lz_oks_cons.mp (lz_oks_cons.mp (lz_oks_cons.mp (lz_oks_cons.mp (lz_oks_cons.mp h8).2).2).2).2).2
    · funext j
      exact if_neg (fun z => ha z.1)
    · rw [lz_cell_a hT1]
      congr 2
      show (n1, Sum.inl _) = (n1, Sum.inl _)
      congr 2
      funext j
      by_cases hj : dp ≤ j ∧ j < dp + n
      · rw [pk_cpy_in hj.1 hj.2]
        exact if_pos ⟨rfl, hj⟩
      · rw [pk_cpy_out (by omega)]
        exact if_neg (fun z => hj z.2)
theorem g_acopy (C : ZC q p s m args meth c D dA b) {Ls Ld idx : Nat} {sp dp n : Int} (G : Cond.methodLink (xqy q).cls idx arraycopyName ∈ lw_tb2) (t0 : tg Ls = 32) (t1 : tg Ld = 32) (a1 : 0 ≤ wr sp) (a2 : 0 ≤ wr dp) (a3 : 0 ≤ wr n) (a4 : wr sp + wr n ≤ ln Ls) (a5 : wr dp + wr n ≤ ln Ld) (hF : 1 ≤ Rm.frames) (hW : cs st + 18 ≤ Rm.locals) (hd : decode (xqc q) pc = .ok (.invokestatic idx, 3))
    (kk : ZZ q p l e Rm s m args below meth c D dA b T0 ad0 Q kc ks (wC M Ls (wr sp).toNat Ld (wr dp).toNat (wr n).toNat) (pc + 3) lv st) : ZZ q p l e Rm s m args below meth c D dA b T0 ad0 Q kc ks M pc lv (vI n :: vI dp :: vR Ld :: vI sp :: vR Ls :: st) := by
  refine g_asm (fun hz => ?_)
  refine g_stk (by rw [List.map_cons, List.map_cons, List.map_cons, List.map_cons, List.map_cons, xval_r (tg_ne t0 (by omega)), xval_r (tg_ne t1 (by omega))]; rfl) (z_acopy C G xy_ok2 (xT_tag (zs_hd (zs_tl (zs_tl (zs_tl (zs_tl hz))))) t0 (by omega)) (xT_tag (zs_hd (zs_tl (zs_tl hz))) t1 (by omega)) (xnI a1) (xnI a2) (xnI a3) (by omega) (by omega) (ln_lt Ls) (ln_lt Ld) hF (by rw [cs_sum]; exact hW) hd ?_)
  have hA : xA (wC M Ls (wr sp).toNat Ld (wr dp).toNat (wr n).toNat) = fun a j => if a = Ld ∧ (wr dp).toNat ≤ j ∧ j < (wr dp).toNat + (wr n).toNat then xA M Ls ((wr sp).toNat + (j - (wr dp).toNat)) else xA M a j := by
    funext a j
    show Int32.ofInt (if a = Ld ∧ (wr dp).toNat ≤ j ∧ j < (wr dp).toNat + (wr n).toNat then M.2.1 Ls ((wr sp).toNat + (j - (wr dp).toNat)) else M.2.1 a j) = _
    split <;> rfl
  rw [← hA]
  exact kk
end GN
