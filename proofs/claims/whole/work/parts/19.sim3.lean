/-! 19.sim3: THE THEOREM (written by wip/whole/sim3.py) -/
theorem xI1_some {st : List xv} {f : Int → List xv → Option xo} {z : xo} (h : xI1 st f = some z) : ∃ a t, st = vI a :: t ∧ f a t = some z := by
  unfold xI1 at h
  split at h
  · exact ⟨_, _, rfl, h⟩
  · cases h
theorem xI2_some {st : List xv} {f : Int → Int → List xv → Option xo} {z : xo} (h : xI2 st f = some z) : ∃ a b t, st = vI b :: vI a :: t ∧ f a b t = some z := by
  unfold xI2 at h
  split at h
  · exact ⟨_, _, _, rfl, h⟩
  · cases h
theorem xJ1_some {st : List xv} {f : Int → List xv → Option xo} {z : xo} (h : xJ1 st f = some z) : ∃ a t, st = vJ a :: t ∧ f a t = some z := by
  unfold xJ1 at h
  split at h
  · exact ⟨_, _, rfl, h⟩
  · cases h
theorem xJ2_some {st : List xv} {f : Int → Int → List xv → Option xo} {z : xo} (h : xJ2 st f = some z) : ∃ a b t, st = vJ b :: vJ a :: t ∧ f a b t = some z := by
  unfold xJ2 at h
  split at h
  · exact ⟨_, _, _, rfl, h⟩
  · cases h
theorem xD1_some {st : List xv} {f : UInt64 → List xv → Option xo} {z : xo} (h : xD1 st f = some z) : ∃ a t, st = vD a :: t ∧ f a t = some z := by
  unfold xD1 at h
  split at h
  · exact ⟨_, _, rfl, h⟩
  · cases h
theorem xD2_some {st : List xv} {f : UInt64 → UInt64 → List xv → Option xo} {z : xo} (h : xD2 st f = some z) : ∃ a b t, st = vD b :: vD a :: t ∧ f a b t = some z := by
  unfold xD2 at h
  split at h
  · exact ⟨_, _, _, rfl, h⟩
  · cases h
theorem xF1_some {st : List xv} {f : UInt32 → List xv → Option xo} {z : xo} (h : xF1 st f = some z) : ∃ a t, st = vF a :: t ∧ f a t = some z := by
  unfold xF1 at h
  split at h
  · exact ⟨_, _, rfl, h⟩
  · cases h
theorem xR1_some {st : List xv} {f : Nat → List xv → Option xo} {z : xo} (h : xR1 st f = some z) : ∃ a t, st = vR a :: t ∧ f a t = some z := by
  unfold xR1 at h
  split at h
  · exact ⟨_, _, rfl, h⟩
  · cases h
theorem xgo_some {pc : Nat} {lv st : List xv} {M : xm} {z : xo} (h : xgo pc lv st M = some z) : z = .inl (pc, lv, st, M) := (Option.some.inj h).symm
theorem xrt_some {r : Option xv} {M : xm} {z : xo} (h : xrt r M = some z) : z = .inr (.inl (r, M)) := (Option.some.inj h).symm
theorem xif_some {c : Prop} [Decidable c] {a : Option xo} {z : xo} (h : (if c then a else none) = some z) : c ∧ a = some z := by
  split at h
  · exact ⟨by assumption, h⟩
  · cases h
theorem xni_some {c : Prop} [Decidable c] {a : Option xo} {z : xo} (h : (if c then none else a) = some z) : ¬ c ∧ a = some z := by
  split at h
  · cases h
  · exact ⟨by assumption, h⟩
theorem xld_some {chk : xv → Bool} {k pc : Nat} {lv st : List xv} {M : xm} {z : xo} (h : xld chk k pc lv st M = some z) : chk (gv k lv) = true ∧ z = .inl (pc, lv, gv k lv :: st, M) := by
  obtain ⟨h1, h2⟩ := xif_some (show (if chk (gv k lv) = true then xgo pc lv (gv k lv :: st) M else none) = some z from h)
  exact ⟨h1, xgo_some h2⟩
theorem xst_some {chk : xv → Bool} {k pc nL : Nat} {lv st : List xv} {M : xm} {z : xo} (h : xst chk k pc nL lv st M = some z) : ∃ v t, st = v :: t ∧ chk v = true ∧ k < nL ∧ z = .inl (pc, st1 k v lv, t, M) := by
  cases st with
  | nil => cases h
  | cons v t =>
    obtain ⟨h1, h2⟩ := xif_some (show (if chk v = true ∧ k < nL then xgo pc (st1 k v lv) t M else none) = some z from h)
    exact ⟨v, t, rfl, h1.1, h1.2, xgo_some h2⟩
theorem xsw_some {chk : xv → Bool} {k pc nL : Nat} {lv st : List xv} {M : xm} {z : xo} (h : xsw chk k pc nL lv st M = some z) : ∃ v t, st = v :: t ∧ chk v = true ∧ k + 1 < nL ∧ z = .inl (pc, st2 k v lv, t, M) := by
  cases st with
  | nil => cases h
  | cons v t =>
    obtain ⟨h1, h2⟩ := xif_some (show (if chk v = true ∧ k + 1 < nL then xgo pc (st2 k v lv) t M else none) = some z from h)
    exact ⟨v, t, rfl, h1.1, h1.2, xgo_some h2⟩
theorem xbr_some {c : Bool} {pc : Nat} {off : Int} {lv st : List xv} {M : xm} {z : xo} (h : xbr c pc off lv st M = some z) : 0 ≤ (pc : Int) + off ∧ z = .inl (if c = true then ((pc : Int) + off).toNat else pc + 3, lv, st, M) := by
  obtain ⟨h1, h2⟩ := xif_some (show (if 0 ≤ (pc : Int) + off then xgo (if c = true then ((pc : Int) + off).toNat else pc + 3) lv st M else none) = some z from h)
  exact ⟨h1, xgo_some h2⟩
theorem xjmp_some {pc : Nat} {off : Int} {lv st : List xv} {M : xm} {z : xo} (h : xjmp pc off lv st M = some z) : 0 ≤ (pc : Int) + off ∧ z = .inl (((pc : Int) + off).toNat, lv, st, M) := by
  obtain ⟨h1, h2⟩ := xif_some (show (if 0 ≤ (pc : Int) + off then xgo ((pc : Int) + off).toNat lv st M else none) = some z from h)
  exact ⟨h1, xgo_some h2⟩
theorem lz_F_of {q : xq} (ok : xq_ok q) {k ci j kd fin : Nat} (h : xlk xfL (xqk q) k = some (ci, j, kd, fin)) : lz_F (xqy q).cls k ci j kd := by
  obtain ⟨r, a1, a2, a3, a4, a5, a6, a7, -⟩ := xf_ok _ (xlk_in h)
  rw [ok.1]
  exact ⟨a2, r, a1, a3, a4, a5, a6, a7⟩
theorem lz_G_of {q : xq} (ok : xq_ok q) {k ci j kd fin : Nat} (h : xlk xfL (xqk q) k = some (ci, j, kd, fin)) (hf : fin = 0 ∨ (fin = 1 ∧ (xqy q).name = "<init>")) : lz_G (xqy q) k ci j kd := by
  obtain ⟨r, a1, a2, a3, a4, a5, a6, a7, a8, a9, b1, b2, b3⟩ := xf_ok _ (xlk_in h)
  refine ⟨a2, r, a1, a3, a4, a5, by rw [ok.1]; exact a6, a7, a8, a9, ?_, fun x hk => ?_, fun x hk => ?_, fun x hk => ?_⟩
  · rcases hf with hf | ⟨hf, hn⟩
    · exact Or.inl (b1 hf)
    · exact Or.inr ⟨(b2 hf).1, hn, by rw [ok.1]; exact (b2 hf).2⟩
  all_goals
    have c7 : lz_kd (lz_ty ci j) = kd := a7
    have c3 : lz_ty ci j = .int ∨ lz_ty ci j = .double ∨ refKind (lz_ty ci j) = true := b3
    clear a7 b3
    generalize lz_ty ci j = ty at c7 c3 ⊢
    subst c7
  · cases ty <;> first | exact ⟨rfl, rfl⟩ | (exfalso; revert hk; unfold lz_kd; intro hk; cases hk)
  · cases ty <;> first | exact ⟨rfl, rfl⟩ | (exfalso; revert hk; unfold lz_kd; intro hk; cases hk)
  · rcases c3 with z | z | z
    · subst z
      exact absurd hk (by decide)
    · subst z
      exact absurd hk (by decide)
    · cases ty <;> first | (exact absurd z (by decide)) | (cases x <;> exact ⟨rfl, rfl⟩)
theorem arr_I : Cond.arrayClass .int ∈ lw_tb2 := lw_at 116 (by decide +kernel) rfl
theorem arr_D : Cond.arrayClass .double ∈ lw_tb2 := lw_at 495 (by decide +kernel) rfl
theorem arr_Z : Cond.arrayClass .boolean ∈ lw_tb2 := lw_at 117 (by decide +kernel) rfl
theorem sim_args {av : List xv} {rest : List xv} {st : List xv} {na : Nat} (h : xtk na [] st = some (av, rest)) : st.map xval = (av.map xval).reverse ++ rest.map xval ∧ av.length = na := by
  obtain ⟨h1, h2⟩ := xtk_st na [] st av rest h
  refine ⟨?_, by rw [h2, List.length_nil, Nat.zero_add]⟩
  have h1 : st = av.reverse ++ rest := h1
  rw [h1, List.map_append, List.map_reverse]
theorem xcall_some {q q1 : xq} {pc : Nat} {av lv rest : List xv} {M : xm} {z : xo} (h : xcall q q1 pc av lv rest M = some z) : (xqF q1 + 1 ≤ xqF q ∧ 8 + (xqn q1 + 11) + xqW q1 ≤ xqW q ∧ cs rest ≤ 8 ∧ (xfl av).length ≤ xqn q1) ∧ z = .inr (.inr (q1, xloc av (xqn q1), (pc + 3, lv, rest, M))) := by
  unfold xcall at h
  split at h
  · exact ⟨by assumption, (Option.some.inj h).symm⟩
  · cases h
theorem sim_iV {q : xq} {pc idx : Nat} {lv st : List xv} {M M' : xm} {r : Option xv} {z : xo} (ok : xq_ok q) (hd : decode (xqc q) pc = .ok (.invokevirtual idx, 3)) (ho : xinv q pc 1 1 true idx lv st M = some z)
    (ca : ∀ q1 lv0 pc' lv' st' M1, z = .inr (.inr (q1, lv0, (pc', lv', st', M1))) → xq_ok q1 → ∃ r1 M2, SG q1 r1 M2 0 lv0 [] M1 ∧ SG q r M' pc' lv' (r1.toList ++ st') M2) : SG q r M' pc lv st M := by
  unfold xinv at ho
  cases hl : xlk xmL (xqk q) idx with
  | none => rw [hl] at ho; cases ho
  | some v =>
    obtain ⟨kind, na, q1⟩ := v
    rw [hl] at ho
    obtain ⟨hk, ho⟩ := xif_some ho
    cases htk : xtk na [] st with
    | none => rw [htk] at ho; cases ho
    | some v =>
      obtain ⟨av, rest⟩ := v
      rw [htk] at ho
      have ho : xR1 rest (fun L rest => if tg L = 1 + xqk q1 ∧ ¬ L = 0 then xcall q q1 pc (vR L :: av) lv rest M else none) = some z := ho
      obtain ⟨L, t, rfl, h⟩ := xR1_some ho
      obtain ⟨h0, h⟩ := xif_some h
      obtain ⟨hr, rfl⟩ := xcall_some h
      obtain ⟨p1, p2, -, p4, -, -, -⟩ := xm_ok _ (xlk_in hl)
      obtain ⟨b1, b2, b3, b4, r1, b5, b6⟩ := p4 (by rcases hk with z | z <;> exact z)
      obtain ⟨rv, M2, g1, g2⟩ := ca _ _ _ _ _ _ rfl p1
      obtain ⟨e1, e2⟩ := sim_args htk
      refine SG.call g1 g2 (fun C hF hW hc hl kk => ?_)
      refine g_asm (fun hz => ?_)
      have hzL : lz_ok (xT M) (xval (vR L)) := by
        have hz' : lz_oks (xT M) (List.map xval st) := hz
        rw [e1] at hz'
        exact zs_hd (st := t) (lz_oks_app.mp hz').2
      exact g_stk (by rw [e1, List.map_cons, xval_r h0.2]) (z_callV (ci := xqk q1) (z := ln L) C b5 b4 (show lz_M _ _ _ _ _ (.ref L :: av.map xval) _ _ _ _ _ by have := SG.met p1 hr.2.2.2 g1; rw [List.map_cons, xval_r h0.2] at this; exact this) ⟨by rw [ok.1]; exact b1, p1.2.2.1, p1.2.2.2.1, p1.2.2.2.2.1, p1.2.2.2.2.2, p2⟩ b2 (by rw [← b6]; exact b3) (xT_tag hzL h0.1 (by omega)) (by rw [List.length_map]; exact e2) ⟨Nat.le_trans hr.1 hF, Nat.le_trans hr.2.1 hW⟩ (by rw [cs_sum]; exact hr.2.2.1) hc hl hd kk)
theorem sim_iS {q : xq} {pc idx : Nat} {lv st : List xv} {M M' : xm} {r : Option xv} {z : xo} (ok : xq_ok q) (hd : decode (xqc q) pc = .ok (.invokestatic idx, 3)) (ho : xinv q pc 0 3 false idx lv st M = some z)
    (ca : ∀ q1 lv0 pc' lv' st' M1, z = .inr (.inr (q1, lv0, (pc', lv', st', M1))) → xq_ok q1 → ∃ r1 M2, SG q1 r1 M2 0 lv0 [] M1 ∧ SG q r M' pc' lv' (r1.toList ++ st') M2) : SG q r M' pc lv st M := by
  unfold xinv at ho
  cases hl : xlk xmL (xqk q) idx with
  | none => rw [hl] at ho; cases ho
  | some v =>
    obtain ⟨kind, na, q1⟩ := v
    rw [hl] at ho
    obtain ⟨hk, ho⟩ := xif_some ho
    cases htk : xtk na [] st with
    | none => rw [htk] at ho; cases ho
    | some v =>
      obtain ⟨av, rest⟩ := v
      rw [htk] at ho
      have ho : xcall q q1 pc av lv rest M = some z := ho
      obtain ⟨hr, rfl⟩ := xcall_some ho
      obtain ⟨p1, p2, p3, -, -, p6, -⟩ := xm_ok _ (xlk_in hl)
      obtain ⟨rv, M2, g1, g2⟩ := ca _ _ _ _ _ _ rfl p1
      obtain ⟨e1, e2⟩ := sim_args htk
      refine SG.call g1 g2 (fun C hF hW hc hl kk => ?_)
      rcases hk with hk | hk
      · obtain ⟨b1, b2⟩ := p3 hk
        exact g_stk e1 (z_callS C (SG.met p1 hr.2.2.2 g1) ⟨by rw [ok.1]; exact b1, p1.2.2.1, p1.2.2.2.1, p1.2.2.2.2.1, p1.2.2.2.2.2, p2⟩ b2 (by rw [List.length_map]; exact e2) ⟨Nat.le_trans hr.1 hF, Nat.le_trans hr.2.1 hW⟩ (by rw [cs_sum]; exact hr.2.2.1) hc hl hd kk)
      · obtain ⟨b1, b2⟩ := p6 hk
        exact g_stk e1 (z_callSN C (SG.met p1 hr.2.2.2 g1) ⟨by rw [ok.1]; exact b1, p1.2.2.1, p1.2.2.2.1, p1.2.2.2.2.1, p1.2.2.2.2.2, p2⟩ b2 (by rw [List.length_map]; exact e2) ⟨Nat.le_trans hr.1 hF, Nat.le_trans hr.2.1 hW⟩ (by rw [cs_sum]; exact hr.2.2.1) hc hl hd kk)
theorem sim_iI {q : xq} {pc idx : Nat} {lv st : List xv} {M M' : xm} {r : Option xv} {z : xo} (ok : xq_ok q) (hd : decode (xqc q) pc = .ok (.invokespecial idx, 3)) (ho : xinv q pc 2 4 true idx lv st M = some z)
    (ca : ∀ q1 lv0 pc' lv' st' M1, z = .inr (.inr (q1, lv0, (pc', lv', st', M1))) → xq_ok q1 → ∃ r1 M2, SG q1 r1 M2 0 lv0 [] M1 ∧ SG q r M' pc' lv' (r1.toList ++ st') M2) : SG q r M' pc lv st M := by
  unfold xinv at ho
  cases hl : xlk xmL (xqk q) idx with
  | none => rw [hl] at ho; cases ho
  | some v =>
    obtain ⟨kind, na, q1⟩ := v
    rw [hl] at ho
    obtain ⟨hk, ho⟩ := xif_some ho
    cases htk : xtk na [] st with
    | none => rw [htk] at ho; cases ho
    | some v =>
      obtain ⟨av, rest⟩ := v
      rw [htk] at ho
      have ho : xR1 rest (fun L rest => if tg L = 1 + xqk q1 ∧ ¬ L = 0 then xcall q q1 pc (vR L :: av) lv rest M else none) = some z := ho
      obtain ⟨L, t, rfl, h⟩ := xR1_some ho
      obtain ⟨h0, h⟩ := xif_some h
      obtain ⟨hr, rfl⟩ := xcall_some h
      obtain ⟨p1, p2, -, -, p5, -, p7⟩ := xm_ok _ (xlk_in hl)
      obtain ⟨rv, M2, g1, g2⟩ := ca _ _ _ _ _ _ rfl p1
      obtain ⟨e1, e2⟩ := sim_args htk
      have hM := SG.met p1 hr.2.2.2 g1
      rw [List.map_cons, xval_r h0.2] at hM
      refine SG.call g1 g2 (fun C hF hW hc hl kk => ?_)
      rcases hk with hk | hk
      · obtain ⟨b1, b2, b3, b4⟩ := p5 hk
        have b4 : xqr q1 = none := b4
        have hc1 := p1.2.2.2.1
        rw [b4] at hM hc1
        exact g_stk (by rw [e1, List.map_cons, xval_r h0.2]) (z_callI C hM ⟨by rw [ok.1]; exact b1, p1.2.2.1, hc1, p1.2.2.2.2.1, p1.2.2.2.2.2, p2⟩ b2 b3 (by rw [List.length_map]; exact e2) ⟨Nat.le_trans hr.1 hF, Nat.le_trans hr.2.1 hW⟩ (by rw [cs_sum]; exact hr.2.2.1) hc hl hd kk)
      · obtain ⟨b1, b2, b3, b4⟩ := p7 hk
        have b4 : xqr q1 = none := b4
        have hc1 := p1.2.2.2.1
        rw [b4] at hM hc1
        exact g_stk (by rw [e1, List.map_cons, xval_r h0.2]) (z_callIN C hM ⟨by rw [ok.1]; exact b1, p1.2.2.1, hc1, p1.2.2.2.2.1, p1.2.2.2.2.2, p2⟩ b2 b3 (by rw [List.length_map]; exact e2) ⟨Nat.le_trans hr.1 hF, Nat.le_trans hr.2.1 hW⟩ (by rw [cs_sum]; exact hr.2.2.1) hc hl hd kk)
theorem sim_ins {q : xq} {pc n : Nat} {lv st : List xv} {M M' : xm} {r : Option xv} {i : Instr} {z : xo} (ok : xq_ok q) (hd : decode (xqc q) pc = .ok (i, n)) (hn : n = xlen i n) (ho : xins q pc lv st M i = some z)
    (go : ∀ pc' lv' st' M1, z = .inl (pc', lv', st', M1) → SG q r M' pc' lv' st' M1) (rt : ∀ x, z = .inr (.inl x) → x = (r, M'))
    (ca : ∀ q1 lv0 pc' lv' st' M1, z = .inr (.inr (q1, lv0, (pc', lv', st', M1))) → xq_ok q1 → ∃ r1 M2, SG q1 r1 M2 0 lv0 [] M1 ∧ SG q r M' pc' lv' (r1.toList ++ st') M2) : SG q r M' pc lv st M := by
  cases i with
  | iadd =>
    obtain rfl : n = 1 := hn
    obtain ⟨a, b, t, rfl, h⟩ := xI2_some ho
    obtain rfl := xgo_some h
    exact SG.of (go _ _ _ _ rfl) rfl rfl (fun C _ _ kk => g_iadd C hd kk)
  | isub =>
    obtain rfl : n = 1 := hn
    obtain ⟨a, b, t, rfl, h⟩ := xI2_some ho
    obtain rfl := xgo_some h
    exact SG.of (go _ _ _ _ rfl) rfl rfl (fun C _ _ kk => g_isub C hd kk)
  | imul =>
    obtain rfl : n = 1 := hn
    obtain ⟨a, b, t, rfl, h⟩ := xI2_some ho
    obtain rfl := xgo_some h
    exact SG.of (go _ _ _ _ rfl) rfl rfl (fun C _ _ kk => g_imul C hd kk)
  | iand =>
    obtain rfl : n = 1 := hn
    obtain ⟨a, b, t, rfl, h⟩ := xI2_some ho
    obtain rfl := xgo_some h
    exact SG.of (go _ _ _ _ rfl) rfl rfl (fun C _ _ kk => g_iand C hd kk)
  | ior =>
    obtain rfl : n = 1 := hn
    obtain ⟨a, b, t, rfl, h⟩ := xI2_some ho
    obtain rfl := xgo_some h
    exact SG.of (go _ _ _ _ rfl) rfl rfl (fun C _ _ kk => g_ior C hd kk)
  | ixor =>
    obtain rfl : n = 1 := hn
    obtain ⟨a, b, t, rfl, h⟩ := xI2_some ho
    obtain rfl := xgo_some h
    exact SG.of (go _ _ _ _ rfl) rfl rfl (fun C _ _ kk => g_ixor C hd kk)
  | ishl =>
    obtain rfl : n = 1 := hn
    obtain ⟨a, b, t, rfl, h⟩ := xI2_some ho
    obtain rfl := xgo_some h
    exact SG.of (go _ _ _ _ rfl) rfl rfl (fun C _ _ kk => g_ishl C hd kk)
  | ishr =>
    obtain rfl : n = 1 := hn
    obtain ⟨a, b, t, rfl, h⟩ := xI2_some ho
    obtain rfl := xgo_some h
    exact SG.of (go _ _ _ _ rfl) rfl rfl (fun C _ _ kk => g_ishr C hd kk)
  | iushr =>
    obtain rfl : n = 1 := hn
    obtain ⟨a, b, t, rfl, h⟩ := xI2_some ho
    obtain rfl := xgo_some h
    exact SG.of (go _ _ _ _ rfl) rfl rfl (fun C _ _ kk => g_iushr C hd kk)
  | irem =>
    obtain rfl : n = 1 := hn
    obtain ⟨a, b, t, rfl, h⟩ := xI2_some ho
    obtain ⟨h0, h⟩ := xni_some h
    obtain rfl := xgo_some h
    exact SG.of (go _ _ _ _ rfl) rfl rfl (fun C _ _ kk => g_irem C hd h0 kk)
  | ineg =>
    obtain rfl : n = 1 := hn
    obtain ⟨a, t, rfl, h⟩ := xI1_some ho
    obtain rfl := xgo_some h
    exact SG.of (go _ _ _ _ rfl) rfl rfl (fun C _ _ kk => g_ineg C hd kk)
  | ladd =>
    obtain rfl : n = 1 := hn
    obtain ⟨a, b, t, rfl, h⟩ := xJ2_some ho
    obtain rfl := xgo_some h
    exact SG.of (go _ _ _ _ rfl) rfl rfl (fun C _ _ kk => g_ladd C hd kk)
  | lsub =>
    obtain rfl : n = 1 := hn
    obtain ⟨a, b, t, rfl, h⟩ := xJ2_some ho
    obtain rfl := xgo_some h
    exact SG.of (go _ _ _ _ rfl) rfl rfl (fun C _ _ kk => g_lsub C hd kk)
  | lneg =>
    obtain rfl : n = 1 := hn
    obtain ⟨a, t, rfl, h⟩ := xJ1_some ho
    obtain rfl := xgo_some h
    exact SG.of (go _ _ _ _ rfl) rfl rfl (fun C _ _ kk => g_lneg C hd kk)
  | ldiv =>
    obtain rfl : n = 1 := hn
    obtain ⟨a, b, t, rfl, h⟩ := xJ2_some ho
    obtain ⟨h0, h⟩ := xni_some h
    obtain rfl := xgo_some h
    exact SG.of (go _ _ _ _ rfl) rfl rfl (fun C _ _ kk => g_ldiv C hd h0 kk)
  | lcmp =>
    obtain rfl : n = 1 := hn
    obtain ⟨a, b, t, rfl, h⟩ := xJ2_some ho
    obtain rfl := xgo_some h
    exact SG.of (go _ _ _ _ rfl) rfl rfl (fun C _ _ kk => g_lcmp C hd kk)
  | dadd =>
    obtain rfl : n = 1 := hn
    obtain ⟨a, b, t, rfl, h⟩ := xD2_some ho
    obtain ⟨h0, h⟩ := xif_some h
    obtain rfl := xgo_some h
    exact SG.of (go _ _ _ _ rfl) rfl rfl (fun C _ _ kk => g_dadd C hd h0 kk)
  | dmul =>
    obtain rfl : n = 1 := hn
    obtain ⟨a, b, t, rfl, h⟩ := xD2_some ho
    obtain ⟨h0, h⟩ := xif_some h
    obtain rfl := xgo_some h
    exact SG.of (go _ _ _ _ rfl) rfl rfl (fun C _ _ kk => g_dmul C hd h0 kk)
  | ddiv =>
    obtain rfl : n = 1 := hn
    obtain ⟨a, b, t, rfl, h⟩ := xD2_some ho
    obtain ⟨h0, h⟩ := xif_some h
    obtain rfl := xgo_some h
    exact SG.of (go _ _ _ _ rfl) rfl rfl (fun C _ _ kk => g_ddiv C hd h0 kk)
  | dcmp op =>
    obtain rfl : n = 1 := hn
    obtain ⟨a, b, t, rfl, h⟩ := xD2_some ho
    obtain rfl := xgo_some h
    exact SG.of (go _ _ _ _ rfl) rfl rfl (fun C _ _ kk => g_dcmp C hd kk)
  | i2l =>
    obtain rfl : n = 1 := hn
    obtain ⟨a, t, rfl, h⟩ := xI1_some ho
    obtain rfl := xgo_some h
    exact SG.of (go _ _ _ _ rfl) rfl rfl (fun C _ _ kk => g_i2l C hd kk)
  | i2d =>
    obtain rfl : n = 1 := hn
    obtain ⟨a, t, rfl, h⟩ := xI1_some ho
    obtain rfl := xgo_some h
    exact SG.of (go _ _ _ _ rfl) rfl rfl (fun C _ _ kk => g_i2d C hd kk)
  | l2i =>
    obtain rfl : n = 1 := hn
    obtain ⟨a, t, rfl, h⟩ := xJ1_some ho
    obtain rfl := xgo_some h
    exact SG.of (go _ _ _ _ rfl) rfl rfl (fun C _ _ kk => g_l2i C hd kk)
  | l2d =>
    obtain rfl : n = 1 := hn
    obtain ⟨a, t, rfl, h⟩ := xJ1_some ho
    obtain rfl := xgo_some h
    exact SG.of (go _ _ _ _ rfl) rfl rfl (fun C _ _ kk => g_l2d C hd kk)
  | d2i =>
    obtain rfl : n = 1 := hn
    obtain ⟨a, t, rfl, h⟩ := xD1_some ho
    obtain rfl := xgo_some h
    exact SG.of (go _ _ _ _ rfl) rfl rfl (fun C _ _ kk => g_d2i C hd kk)
  | d2l =>
    obtain rfl : n = 1 := hn
    obtain ⟨a, t, rfl, h⟩ := xD1_some ho
    obtain rfl := xgo_some h
    exact SG.of (go _ _ _ _ rfl) rfl rfl (fun C _ _ kk => g_d2l C hd kk)
  | d2f =>
    obtain rfl : n = 1 := hn
    obtain ⟨a, t, rfl, h⟩ := xD1_some ho
    obtain ⟨h0, h⟩ := xif_some h
    obtain rfl := xgo_some h
    exact SG.of (go _ _ _ _ rfl) rfl rfl (fun C _ _ kk => g_d2f C hd h0 kk)
  | f2d =>
    obtain rfl : n = 1 := hn
    obtain ⟨a, t, rfl, h⟩ := xF1_some ho
    obtain ⟨h0, h⟩ := xif_some h
    obtain rfl := xgo_some h
    exact SG.of (go _ _ _ _ rfl) rfl rfl (fun C _ _ kk => g_f2d C hd h0 kk)
  | iconst x =>
    obtain rfl : n = 1 := hn
    obtain rfl := xgo_some ho
    exact SG.of (go _ _ _ _ rfl) rfl rfl (fun C _ _ kk => g_iconst C hd kk)
  | bipush x =>
    obtain rfl : n = 2 := hn
    obtain rfl := xgo_some ho
    exact SG.of (go _ _ _ _ rfl) rfl rfl (fun C _ _ kk => g_bipush C hd kk)
  | sipush x =>
    obtain rfl : n = 3 := hn
    obtain rfl := xgo_some ho
    exact SG.of (go _ _ _ _ rfl) rfl rfl (fun C _ _ kk => g_sipush C hd kk)
  | lconst x =>
    obtain rfl : n = 1 := hn
    obtain rfl := xgo_some ho
    exact SG.of (go _ _ _ _ rfl) rfl rfl (fun C _ _ kk => g_lconst C hd kk)
  | dconst x =>
    obtain rfl : n = 1 := hn
    obtain rfl := xgo_some ho
    exact SG.of (go _ _ _ _ rfl) rfl rfl (fun C _ _ kk => g_dconst C hd kk)
  | aconst_null =>
    obtain rfl : n = 1 := hn
    obtain rfl := xgo_some ho
    exact SG.of (go _ _ _ _ rfl) rfl rfl (fun C _ _ kk => g_null C hd kk)
  | ldc k =>
    obtain rfl : n = 2 := hn
    cases hl : xlk xiL (xqk q) k with
    | none => simp only [xins, hl] at ho; cases ho
    | some v =>
      simp only [xins, hl] at ho
      obtain rfl := xgo_some ho
      exact SG.of (go _ _ _ _ rfl) rfl rfl (fun C _ _ kk => g_ldc C hd (by rw [ok.1]; exact xi_ok _ (xlk_in hl)) kk)
  | ldc_w k =>
    obtain rfl : n = 3 := hn
    cases hl : xlk xiL (xqk q) k with
    | none => simp only [xins, hl] at ho; cases ho
    | some v =>
      simp only [xins, hl] at ho
      obtain rfl := xgo_some ho
      exact SG.of (go _ _ _ _ rfl) rfl rfl (fun C _ _ kk => g_ldcw C hd (by rw [ok.1]; exact xi_ok _ (xlk_in hl)) kk)
  | ldc2_w k =>
    obtain rfl : n = 3 := hn
    cases hl : xlk xdL (xqk q) k with
    | some v =>
      simp only [xins, hl] at ho
      obtain rfl := xgo_some ho
      exact SG.of (go _ _ _ _ rfl) rfl rfl (fun C _ _ kk => g_ldc2d C hd (by rw [ok.1]; exact xd_ok _ (xlk_in hl)) kk)
    | none =>
      cases hl2 : xlk xjL (xqk q) k with
      | none => simp only [xins, hl, hl2] at ho; cases ho
      | some v =>
        simp only [xins, hl, hl2] at ho
        obtain rfl := xgo_some ho
        exact SG.of (go _ _ _ _ rfl) rfl rfl (fun C _ _ kk => g_ldc2l C hd (by rw [ok.1]; exact xj_ok _ (xlk_in hl2)) kk)
  | iload_n k =>
    obtain rfl : n = 1 := hn
    obtain ⟨h0, rfl⟩ := xld_some ho
    exact SG.of (go _ _ _ _ rfl) rfl rfl (fun C _ _ kk => g_iload_n C hd h0 kk)
  | istore_n k =>
    obtain rfl : n = 1 := hn
    obtain ⟨v, t, rfl, h0, h1, rfl⟩ := xst_some ho
    exact SG.of (go _ _ _ _ rfl) rfl rfl (fun C _ _ kk => g_istore_n C hd h0 h1 kk)
  | iload k =>
    obtain rfl : n = 2 := hn
    obtain ⟨h0, rfl⟩ := xld_some ho
    exact SG.of (go _ _ _ _ rfl) rfl rfl (fun C _ _ kk => g_iload C hd h0 kk)
  | istore k =>
    obtain rfl : n = 2 := hn
    obtain ⟨v, t, rfl, h0, h1, rfl⟩ := xst_some ho
    exact SG.of (go _ _ _ _ rfl) rfl rfl (fun C _ _ kk => g_istore C hd h0 h1 kk)
  | lload_n k =>
    obtain rfl : n = 1 := hn
    obtain ⟨h0, rfl⟩ := xld_some ho
    exact SG.of (go _ _ _ _ rfl) rfl rfl (fun C _ _ kk => g_lload_n C hd h0 kk)
  | lstore_n k =>
    obtain rfl : n = 1 := hn
    obtain ⟨v, t, rfl, h0, h1, rfl⟩ := xsw_some ho
    exact SG.of (go _ _ _ _ rfl) rfl rfl (fun C _ _ kk => g_lstore_n C hd h0 h1 kk)
  | lload k =>
    obtain rfl : n = 2 := hn
    obtain ⟨h0, rfl⟩ := xld_some ho
    exact SG.of (go _ _ _ _ rfl) rfl rfl (fun C _ _ kk => g_lload C hd h0 kk)
  | lstore k =>
    obtain rfl : n = 2 := hn
    obtain ⟨v, t, rfl, h0, h1, rfl⟩ := xsw_some ho
    exact SG.of (go _ _ _ _ rfl) rfl rfl (fun C _ _ kk => g_lstore C hd h0 h1 kk)
  | dload_n k =>
    obtain rfl : n = 1 := hn
    obtain ⟨h0, rfl⟩ := xld_some ho
    exact SG.of (go _ _ _ _ rfl) rfl rfl (fun C _ _ kk => g_dload_n C hd h0 kk)
  | dstore_n k =>
    obtain rfl : n = 1 := hn
    obtain ⟨v, t, rfl, h0, h1, rfl⟩ := xsw_some ho
    exact SG.of (go _ _ _ _ rfl) rfl rfl (fun C _ _ kk => g_dstore_n C hd h0 h1 kk)
  | dload k =>
    obtain rfl : n = 2 := hn
    obtain ⟨h0, rfl⟩ := xld_some ho
    exact SG.of (go _ _ _ _ rfl) rfl rfl (fun C _ _ kk => g_dload C hd h0 kk)
  | dstore k =>
    obtain rfl : n = 2 := hn
    obtain ⟨v, t, rfl, h0, h1, rfl⟩ := xsw_some ho
    exact SG.of (go _ _ _ _ rfl) rfl rfl (fun C _ _ kk => g_dstore C hd h0 h1 kk)
  | aload_n k =>
    obtain rfl : n = 1 := hn
    obtain ⟨h0, rfl⟩ := xld_some ho
    exact SG.of (go _ _ _ _ rfl) rfl rfl (fun C _ _ kk => g_aload_n C hd h0 kk)
  | astore_n k =>
    obtain rfl : n = 1 := hn
    obtain ⟨v, t, rfl, h0, h1, rfl⟩ := xst_some ho
    exact SG.of (go _ _ _ _ rfl) rfl rfl (fun C _ _ kk => g_astore_n C hd h0 h1 kk)
  | aload k =>
    obtain rfl : n = 2 := hn
    obtain ⟨h0, rfl⟩ := xld_some ho
    exact SG.of (go _ _ _ _ rfl) rfl rfl (fun C _ _ kk => g_aload C hd h0 kk)
  | astore k =>
    obtain rfl : n = 2 := hn
    obtain ⟨v, t, rfl, h0, h1, rfl⟩ := xst_some ho
    exact SG.of (go _ _ _ _ rfl) rfl rfl (fun C _ _ kk => g_astore C hd h0 h1 kk)
  | iinc k x =>
    obtain rfl : n = 3 := hn
    cases hg : gv k lv with
    | inl a =>
      simp only [xins, hg] at ho
      obtain ⟨h0, h⟩ := xif_some ho
      obtain rfl := xgo_some h
      exact SG.of (go _ _ _ _ rfl) rfl rfl (fun C _ _ kk => g_iinc C hd hg h0 kk)
    | inr a => simp only [xins, hg] at ho; cases ho
  | dup =>
    obtain rfl : n = 1 := hn
    cases st with
    | nil => cases ho
    | cons v t =>
      obtain ⟨h0, h⟩ := xif_some (show (if xc2 v = false then xgo (pc + 1) lv (v :: v :: t) M else none) = some z from ho)
      obtain rfl := xgo_some h
      exact SG.of (go _ _ _ _ rfl) rfl rfl (fun C _ _ kk => g_dup C hd h0 kk)
  | pop =>
    obtain rfl : n = 1 := hn
    cases st with
    | nil => cases ho
    | cons v t =>
      obtain ⟨h0, h⟩ := xif_some (show (if xc2 v = false then xgo (pc + 1) lv t M else none) = some z from ho)
      obtain rfl := xgo_some h
      exact SG.of (go _ _ _ _ rfl) rfl rfl (fun C _ _ kk => g_pop C hd h0 kk)
  | dup2 =>
    obtain rfl : n = 1 := hn
    match st, ho with
    | [], ho => cases ho
    | [v], ho => cases ho
    | v :: u :: t, ho =>
      obtain ⟨h0, h⟩ := xif_some (show (if xc2 v = false ∧ xc2 u = false then xgo (pc + 1) lv (v :: u :: v :: u :: t) M else none) = some z from ho)
      obtain rfl := xgo_some h
      exact SG.of (go _ _ _ _ rfl) rfl rfl (fun C _ _ kk => g_dup2 C hd h0.1 h0.2 kk)
  | goto off =>
    obtain rfl : n = 3 := hn
    obtain ⟨h0, rfl⟩ := xjmp_some ho
    exact SG.of (go _ _ _ _ rfl) rfl rfl (fun C _ _ kk => g_goto C hd h0 kk)
  | ifCond c off =>
    obtain rfl : n = 3 := hn
    obtain ⟨a, t, rfl, h⟩ := xI1_some ho
    obtain ⟨h0, rfl⟩ := xbr_some h
    cases c with
    | eq =>
      by_cases hc : wr a = 0
      · have hb : (if xcnd .eq (wr a) 0 = true then ((pc : Int) + off).toNat else pc + 3) = ((pc : Int) + off).toNat := if_pos (decide_eq_true hc)
        rw [hb] at go
        exact SG.of (go _ _ _ _ rfl) rfl rfl (fun C _ _ kk => g_if_eq C hd h0 (fun _ => kk) (fun z => absurd hc z))
      · have hb : (if xcnd .eq (wr a) 0 = true then ((pc : Int) + off).toNat else pc + 3) = pc + 3 := if_neg (fun z => hc (of_decide_eq_true z))
        rw [hb] at go
        exact SG.of (go _ _ _ _ rfl) rfl rfl (fun C _ _ kk => g_if_eq C hd h0 (fun z => absurd z hc) (fun _ => kk))
    | ne =>
      by_cases hc : ¬ wr a = 0
      · have hb : (if xcnd .ne (wr a) 0 = true then ((pc : Int) + off).toNat else pc + 3) = ((pc : Int) + off).toNat := if_pos (decide_eq_true hc)
        rw [hb] at go
        exact SG.of (go _ _ _ _ rfl) rfl rfl (fun C _ _ kk => g_if_ne C hd h0 (fun _ => kk) (fun z => absurd hc z))
      · have hb : (if xcnd .ne (wr a) 0 = true then ((pc : Int) + off).toNat else pc + 3) = pc + 3 := if_neg (fun z => hc (of_decide_eq_true z))
        rw [hb] at go
        exact SG.of (go _ _ _ _ rfl) rfl rfl (fun C _ _ kk => g_if_ne C hd h0 (fun z => absurd z hc) (fun _ => kk))
    | lt =>
      by_cases hc : wr a < 0
      · have hb : (if xcnd .lt (wr a) 0 = true then ((pc : Int) + off).toNat else pc + 3) = ((pc : Int) + off).toNat := if_pos (decide_eq_true hc)
        rw [hb] at go
        exact SG.of (go _ _ _ _ rfl) rfl rfl (fun C _ _ kk => g_if_lt C hd h0 (fun _ => kk) (fun z => absurd hc z))
      · have hb : (if xcnd .lt (wr a) 0 = true then ((pc : Int) + off).toNat else pc + 3) = pc + 3 := if_neg (fun z => hc (of_decide_eq_true z))
        rw [hb] at go
        exact SG.of (go _ _ _ _ rfl) rfl rfl (fun C _ _ kk => g_if_lt C hd h0 (fun z => absurd z hc) (fun _ => kk))
    | ge =>
      by_cases hc : 0 ≤ wr a
      · have hb : (if xcnd .ge (wr a) 0 = true then ((pc : Int) + off).toNat else pc + 3) = ((pc : Int) + off).toNat := if_pos (decide_eq_true hc)
        rw [hb] at go
        exact SG.of (go _ _ _ _ rfl) rfl rfl (fun C _ _ kk => g_if_ge C hd h0 (fun _ => kk) (fun z => absurd hc z))
      · have hb : (if xcnd .ge (wr a) 0 = true then ((pc : Int) + off).toNat else pc + 3) = pc + 3 := if_neg (fun z => hc (of_decide_eq_true z))
        rw [hb] at go
        exact SG.of (go _ _ _ _ rfl) rfl rfl (fun C _ _ kk => g_if_ge C hd h0 (fun z => absurd z hc) (fun _ => kk))
    | gt =>
      by_cases hc : 0 < wr a
      · have hb : (if xcnd .gt (wr a) 0 = true then ((pc : Int) + off).toNat else pc + 3) = ((pc : Int) + off).toNat := if_pos (decide_eq_true hc)
        rw [hb] at go
        exact SG.of (go _ _ _ _ rfl) rfl rfl (fun C _ _ kk => g_if_gt C hd h0 (fun _ => kk) (fun z => absurd hc z))
      · have hb : (if xcnd .gt (wr a) 0 = true then ((pc : Int) + off).toNat else pc + 3) = pc + 3 := if_neg (fun z => hc (of_decide_eq_true z))
        rw [hb] at go
        exact SG.of (go _ _ _ _ rfl) rfl rfl (fun C _ _ kk => g_if_gt C hd h0 (fun z => absurd z hc) (fun _ => kk))
    | le =>
      by_cases hc : wr a ≤ 0
      · have hb : (if xcnd .le (wr a) 0 = true then ((pc : Int) + off).toNat else pc + 3) = ((pc : Int) + off).toNat := if_pos (decide_eq_true hc)
        rw [hb] at go
        exact SG.of (go _ _ _ _ rfl) rfl rfl (fun C _ _ kk => g_if_le C hd h0 (fun _ => kk) (fun z => absurd hc z))
      · have hb : (if xcnd .le (wr a) 0 = true then ((pc : Int) + off).toNat else pc + 3) = pc + 3 := if_neg (fun z => hc (of_decide_eq_true z))
        rw [hb] at go
        exact SG.of (go _ _ _ _ rfl) rfl rfl (fun C _ _ kk => g_if_le C hd h0 (fun z => absurd z hc) (fun _ => kk))
  | if_icmp c off =>
    obtain rfl : n = 3 := hn
    obtain ⟨a, b, t, rfl, h⟩ := xI2_some ho
    obtain ⟨h0, rfl⟩ := xbr_some h
    cases c with
    | eq =>
      by_cases hc : wr a = (wr b)
      · have hb : (if xcnd .eq (wr a) (wr b) = true then ((pc : Int) + off).toNat else pc + 3) = ((pc : Int) + off).toNat := if_pos (decide_eq_true hc)
        rw [hb] at go
        exact SG.of (go _ _ _ _ rfl) rfl rfl (fun C _ _ kk => g_icmp_eq C hd h0 (fun _ => kk) (fun z => absurd hc z))
      · have hb : (if xcnd .eq (wr a) (wr b) = true then ((pc : Int) + off).toNat else pc + 3) = pc + 3 := if_neg (fun z => hc (of_decide_eq_true z))
        rw [hb] at go
        exact SG.of (go _ _ _ _ rfl) rfl rfl (fun C _ _ kk => g_icmp_eq C hd h0 (fun z => absurd z hc) (fun _ => kk))
    | ne =>
      by_cases hc : ¬ wr a = (wr b)
      · have hb : (if xcnd .ne (wr a) (wr b) = true then ((pc : Int) + off).toNat else pc + 3) = ((pc : Int) + off).toNat := if_pos (decide_eq_true hc)
        rw [hb] at go
        exact SG.of (go _ _ _ _ rfl) rfl rfl (fun C _ _ kk => g_icmp_ne C hd h0 (fun _ => kk) (fun z => absurd hc z))
      · have hb : (if xcnd .ne (wr a) (wr b) = true then ((pc : Int) + off).toNat else pc + 3) = pc + 3 := if_neg (fun z => hc (of_decide_eq_true z))
        rw [hb] at go
        exact SG.of (go _ _ _ _ rfl) rfl rfl (fun C _ _ kk => g_icmp_ne C hd h0 (fun z => absurd z hc) (fun _ => kk))
    | lt =>
      by_cases hc : wr a < (wr b)
      · have hb : (if xcnd .lt (wr a) (wr b) = true then ((pc : Int) + off).toNat else pc + 3) = ((pc : Int) + off).toNat := if_pos (decide_eq_true hc)
        rw [hb] at go
        exact SG.of (go _ _ _ _ rfl) rfl rfl (fun C _ _ kk => g_icmp_lt C hd h0 (fun _ => kk) (fun z => absurd hc z))
      · have hb : (if xcnd .lt (wr a) (wr b) = true then ((pc : Int) + off).toNat else pc + 3) = pc + 3 := if_neg (fun z => hc (of_decide_eq_true z))
        rw [hb] at go
        exact SG.of (go _ _ _ _ rfl) rfl rfl (fun C _ _ kk => g_icmp_lt C hd h0 (fun z => absurd z hc) (fun _ => kk))
    | ge =>
      by_cases hc : (wr b) ≤ wr a
      · have hb : (if xcnd .ge (wr a) (wr b) = true then ((pc : Int) + off).toNat else pc + 3) = ((pc : Int) + off).toNat := if_pos (decide_eq_true hc)
        rw [hb] at go
        exact SG.of (go _ _ _ _ rfl) rfl rfl (fun C _ _ kk => g_icmp_ge C hd h0 (fun _ => kk) (fun z => absurd hc z))
      · have hb : (if xcnd .ge (wr a) (wr b) = true then ((pc : Int) + off).toNat else pc + 3) = pc + 3 := if_neg (fun z => hc (of_decide_eq_true z))
        rw [hb] at go
        exact SG.of (go _ _ _ _ rfl) rfl rfl (fun C _ _ kk => g_icmp_ge C hd h0 (fun z => absurd z hc) (fun _ => kk))
    | gt =>
      by_cases hc : (wr b) < wr a
      · have hb : (if xcnd .gt (wr a) (wr b) = true then ((pc : Int) + off).toNat else pc + 3) = ((pc : Int) + off).toNat := if_pos (decide_eq_true hc)
        rw [hb] at go
        exact SG.of (go _ _ _ _ rfl) rfl rfl (fun C _ _ kk => g_icmp_gt C hd h0 (fun _ => kk) (fun z => absurd hc z))
      · have hb : (if xcnd .gt (wr a) (wr b) = true then ((pc : Int) + off).toNat else pc + 3) = pc + 3 := if_neg (fun z => hc (of_decide_eq_true z))
        rw [hb] at go
        exact SG.of (go _ _ _ _ rfl) rfl rfl (fun C _ _ kk => g_icmp_gt C hd h0 (fun z => absurd z hc) (fun _ => kk))
    | le =>
      by_cases hc : wr a ≤ (wr b)
      · have hb : (if xcnd .le (wr a) (wr b) = true then ((pc : Int) + off).toNat else pc + 3) = ((pc : Int) + off).toNat := if_pos (decide_eq_true hc)
        rw [hb] at go
        exact SG.of (go _ _ _ _ rfl) rfl rfl (fun C _ _ kk => g_icmp_le C hd h0 (fun _ => kk) (fun z => absurd hc z))
      · have hb : (if xcnd .le (wr a) (wr b) = true then ((pc : Int) + off).toNat else pc + 3) = pc + 3 := if_neg (fun z => hc (of_decide_eq_true z))
        rw [hb] at go
        exact SG.of (go _ _ _ _ rfl) rfl rfl (fun C _ _ kk => g_icmp_le C hd h0 (fun z => absurd z hc) (fun _ => kk))
  | ifnull off =>
    obtain rfl : n = 3 := hn
    obtain ⟨a, t, rfl, h⟩ := xR1_some ho
    obtain ⟨h0, rfl⟩ := xbr_some h
    by_cases hc : a = 0
    · have hb : (if decide (a = 0) = true then ((pc : Int) + off).toNat else pc + 3) = ((pc : Int) + off).toNat := if_pos (decide_eq_true hc)
      rw [hb] at go
      exact SG.of (go _ _ _ _ rfl) rfl rfl (fun C _ _ kk => g_ifnull C hd h0 (fun _ => kk) (fun z => absurd hc z))
    · have hb : (if decide (a = 0) = true then ((pc : Int) + off).toNat else pc + 3) = pc + 3 := if_neg (fun z => hc (of_decide_eq_true z))
      rw [hb] at go
      exact SG.of (go _ _ _ _ rfl) rfl rfl (fun C _ _ kk => g_ifnull C hd h0 (fun z => absurd z hc) (fun _ => kk))
  | ifnonnull off =>
    obtain rfl : n = 3 := hn
    obtain ⟨a, t, rfl, h⟩ := xR1_some ho
    obtain ⟨h0, rfl⟩ := xbr_some h
    by_cases hc : ¬ a = 0
    · have hb : (if decide (¬ a = 0) = true then ((pc : Int) + off).toNat else pc + 3) = ((pc : Int) + off).toNat := if_pos (decide_eq_true hc)
      rw [hb] at go
      exact SG.of (go _ _ _ _ rfl) rfl rfl (fun C _ _ kk => g_ifnonnull C hd h0 (fun _ => kk) (fun z => absurd z hc))
    · have hb : (if decide (¬ a = 0) = true then ((pc : Int) + off).toNat else pc + 3) = pc + 3 := if_neg (fun z => hc (of_decide_eq_true z))
      rw [hb] at go
      exact SG.of (go _ _ _ _ rfl) rfl rfl (fun C _ _ kk => g_ifnonnull C hd h0 (fun z => absurd z hc) (fun _ => kk))
  | tableswitch dflt lo hi offs =>
    skip
    obtain ⟨a, t, rfl, h⟩ := xI1_some ho
    by_cases hc : lo ≤ wr a ∧ wr a ≤ hi
    · simp only [if_pos hc] at h
      cases hof : offs[(wr a - lo).toNat]? with
      | none => simp only [hof] at h; cases h
      | some off =>
        simp only [hof] at h
        obtain ⟨h0, rfl⟩ := xjmp_some h
        exact SG.of (go _ _ _ _ rfl) rfl rfl (fun C _ _ kk => g_tableIn C hd hc.1 hc.2 hof h0 kk)
    · simp only [if_neg hc] at h
      obtain ⟨h0, rfl⟩ := xjmp_some h
      exact SG.of (go _ _ _ _ rfl) rfl rfl (fun C _ _ kk => g_tableOut C hd hc h0 kk)
  | getfield k =>
    obtain rfl : n = 3 := hn
    cases hl : xlk xfL (xqk q) k with
    | none => simp only [xins, hl] at ho; cases ho
    | some v =>
      obtain ⟨ci, j, kd, fin⟩ := v
      simp only [xins, hl] at ho
      obtain ⟨L, t, rfl, h⟩ := xR1_some ho
      obtain ⟨h0, h⟩ := xif_some h
      have F := lz_F_of ok hl
      match kd, h, F with
      | 0, h, F =>
        obtain rfl := xgo_some h
        exact SG.of (go _ _ _ _ rfl) rfl rfl (fun C _ _ kk => g_get0 C F hd h0.1 kk)
      | 1, h, F =>
        obtain rfl := xgo_some h
        exact SG.of (go _ _ _ _ rfl) rfl rfl (fun C _ _ kk => g_get1 C F hd h0.1 kk)
      | kd + 2, h, F =>
        obtain rfl := xgo_some h
        have hk : kd + 2 = 2 := by
          obtain ⟨-, r, -, -, -, -, -, a7⟩ := id F
          have a8 : lz_kd (lz_ty ci j) ≤ 2 := by
            cases lz_ty ci j <;> simp [lz_kd]
          omega
        rw [hk] at F
        exact SG.of (go _ _ _ _ rfl) rfl rfl (fun C _ _ kk => g_get2 C F hd h0.1 kk)
  | putfield k =>
    obtain rfl : n = 3 := hn
    cases hl : xlk xfL (xqk q) k with
    | none => simp only [xins, hl] at ho; cases ho
    | some v =>
      obtain ⟨ci, j, kd, fin⟩ := v
      simp only [xins, hl] at ho
      obtain ⟨hf, ho⟩ := xif_some ho
      have F := lz_G_of ok hl hf
      match kd, ho, F with
      | 0, ho, F =>
        obtain ⟨x, t, rfl, h⟩ := xI1_some ho
        obtain ⟨L, t, rfl, h⟩ := xR1_some h
        obtain ⟨h0, h⟩ := xif_some h
        obtain rfl := xgo_some h
        exact SG.of (go _ _ _ _ rfl) rfl rfl (fun C _ _ kk => g_put0 C F hd h0.1 kk)
      | 1, ho, F =>
        obtain ⟨x, t, rfl, h⟩ := xD1_some ho
        obtain ⟨L, t, rfl, h⟩ := xR1_some h
        obtain ⟨h0, h⟩ := xif_some h
        obtain rfl := xgo_some h
        exact SG.of (go _ _ _ _ rfl) rfl rfl (fun C _ _ kk => g_put1 C F hd h0.1 kk)
      | kd + 2, ho, F =>
        obtain ⟨x, t, rfl, h⟩ := xR1_some ho
        obtain ⟨L, t, rfl, h⟩ := xR1_some h
        obtain ⟨h0, h⟩ := xif_some h
        obtain rfl := xgo_some h
        have hk : kd + 2 = 2 := by
          obtain ⟨-, r, -, -, -, -, -, a7, -⟩ := id F
          have a8 : lz_kd (lz_ty ci j) ≤ 2 := by
            cases lz_ty ci j <;> simp [lz_kd]
          omega
        rw [hk] at F
        exact SG.of (go _ _ _ _ rfl) rfl rfl (fun C _ _ kk => g_put2 C F hd h0.1 kk)
  | arraylength =>
    obtain rfl : n = 1 := hn
    obtain ⟨L, t, rfl, h⟩ := xR1_some ho
    obtain ⟨h0, h⟩ := xif_some h
    obtain rfl := xgo_some h
    exact SG.of (go _ _ _ _ rfl) rfl rfl (fun C _ _ kk => g_alen C hd h0.1 h0.2.1 kk)
  | iaload =>
    obtain rfl : n = 1 := hn
    obtain ⟨i, t, rfl, h⟩ := xI1_some ho
    obtain ⟨L, t, rfl, h⟩ := xR1_some h
    obtain ⟨h0, h⟩ := xif_some h
    obtain rfl := xgo_some h
    exact SG.of (go _ _ _ _ rfl) rfl rfl (fun C _ _ kk => g_iald C hd h0.1 h0.2.1 h0.2.2 kk)
  | baload =>
    obtain rfl : n = 1 := hn
    obtain ⟨i, t, rfl, h⟩ := xI1_some ho
    obtain ⟨L, t, rfl, h⟩ := xR1_some h
    obtain ⟨h0, h⟩ := xif_some h
    obtain rfl := xgo_some h
    exact SG.of (go _ _ _ _ rfl) rfl rfl (fun C _ _ kk => g_zald C hd h0.1 h0.2.1 h0.2.2 kk)
  | daload =>
    obtain rfl : n = 1 := hn
    obtain ⟨i, t, rfl, h⟩ := xI1_some ho
    obtain ⟨L, t, rfl, h⟩ := xR1_some h
    obtain ⟨h0, h⟩ := xif_some h
    obtain rfl := xgo_some h
    exact SG.of (go _ _ _ _ rfl) rfl rfl (fun C _ _ kk => g_dald C hd h0.1 h0.2.1 h0.2.2 kk)
  | aaload =>
    obtain rfl : n = 1 := hn
    obtain ⟨i, t, rfl, h⟩ := xI1_some ho
    obtain ⟨L, t, rfl, h⟩ := xR1_some h
    obtain ⟨h0, h⟩ := xif_some h
    obtain rfl := xgo_some h
    exact SG.of (go _ _ _ _ rfl) rfl rfl (fun C _ _ kk => g_aald C hd h0.1.1 h0.1.2 h0.2.1 h0.2.2 kk)
  | iastore =>
    obtain rfl : n = 1 := hn
    obtain ⟨x, t, rfl, h⟩ := xI1_some ho
    obtain ⟨i, t, rfl, h⟩ := xI1_some h
    obtain ⟨L, t, rfl, h⟩ := xR1_some h
    obtain ⟨h0, h⟩ := xif_some h
    obtain rfl := xgo_some h
    exact SG.of (go _ _ _ _ rfl) rfl rfl (fun C _ _ kk => g_iast C hd h0.1 h0.2.1 h0.2.2 kk)
  | bastore =>
    obtain rfl : n = 1 := hn
    obtain ⟨x, t, rfl, h⟩ := xI1_some ho
    obtain ⟨i, t, rfl, h⟩ := xI1_some h
    obtain ⟨L, t, rfl, h⟩ := xR1_some h
    obtain ⟨h0, h⟩ := xif_some h
    obtain rfl := xgo_some h
    exact SG.of (go _ _ _ _ rfl) rfl rfl (fun C _ _ kk => g_zast C hd h0.1 h0.2.1 h0.2.2.1 h0.2.2.2 kk)
  | dastore =>
    obtain rfl : n = 1 := hn
    obtain ⟨x, t, rfl, h⟩ := xD1_some ho
    obtain ⟨i, t, rfl, h⟩ := xI1_some h
    obtain ⟨L, t, rfl, h⟩ := xR1_some h
    obtain ⟨h0, h⟩ := xif_some h
    obtain rfl := xgo_some h
    exact SG.of (go _ _ _ _ rfl) rfl rfl (fun C _ _ kk => g_dast C hd h0.1 h0.2.1 h0.2.2 kk)
  | aastore =>
    obtain rfl : n = 1 := hn
    obtain ⟨x, t, rfl, h⟩ := xR1_some ho
    obtain ⟨i, t, rfl, h⟩ := xI1_some h
    obtain ⟨L, t, rfl, h⟩ := xR1_some h
    obtain ⟨h0, h⟩ := xif_some h
    obtain rfl := xgo_some h
    exact SG.of (go _ _ _ _ rfl) rfl rfl (fun C _ _ kk => g_aast C hd h0.1.1 h0.1.2 h0.2.1 h0.2.2.1 h0.2.2.2 kk)
  | new k =>
    obtain rfl : n = 3 := hn
    cases hl : xlk xnL (xqk q) k with
    | none => simp only [xins, hl] at ho; cases ho
    | some ci =>
      simp only [xins, hl] at ho
      obtain ⟨h0, h⟩ := xif_some ho
      obtain rfl := xgo_some h
      have hg := go _ _ _ _ rfl
      have hg1 := hg.1
      have hk : mK M + 1 ≤ mK M' := hg1.1
      have hs : mS M + lz_nF ci ≤ mS M' := hg1.2
      refine ⟨⟨by omega, by omega⟩, fun p l e Rm s m args below meth c D dA b T0 ad0 kc ks C hF hW hc hl9 => ?_⟩
      refine g_new (ci := ci) C (by rw [ok.1]; exact xn_ok _ (xlk_in hl)) h0 (by omega) (by omega) hd ?_
      exact hg.2 p l e Rm s m args below meth c D dA b T0 ad0 (kc + 1) (ks + lz_nF ci) C hF hW (by show kc + 1 + (mK M' - (mK M + 1)) ≤ _; omega) (by show ks + lz_nF ci + (mS M' - (mS M + lz_nF ci)) ≤ _; omega)
  | newarray ty =>
    obtain rfl : n = 2 := hn
    cases ty with
    | int =>
      obtain ⟨x, t, rfl, h⟩ := xI1_some ho
      obtain ⟨h0, h⟩ := xif_some h
      obtain rfl := xgo_some h
      have hg := go _ _ _ _ rfl
      have hg1 := hg.1
      have hk : mK M + 1 ≤ mK M' := hg1.1
      have hs : mS M + (wr x).toNat ≤ mS M' := hg1.2
      refine ⟨⟨by omega, by omega⟩, fun p l e Rm s m args below meth c D dA b T0 ad0 kc ks C hF hW hc hl9 => ?_⟩
      refine g_newa C (t := 0) (ty := .int) arr_I rfl (fun _ => rfl) (by omega) (fun L N ad cA => rfl) (by decide) h0.2.2 h0.1 h0.2.1 (by omega) (by omega) hd ?_
      exact hg.2 p l e Rm s m args below meth c D dA b T0 ad0 (kc + 1) (ks + (wr x).toNat) C hF hW (by show kc + 1 + (mK M' - (mK M + 1)) ≤ _; omega) (by show ks + (wr x).toNat + (mS M' - (mS M + (wr x).toNat)) ≤ _; omega)
    | double =>
      obtain ⟨x, t, rfl, h⟩ := xI1_some ho
      obtain ⟨h0, h⟩ := xif_some h
      obtain rfl := xgo_some h
      have hg := go _ _ _ _ rfl
      have hg1 := hg.1
      have hk : mK M + 1 ≤ mK M' := hg1.1
      have hs : mS M + (wr x).toNat ≤ mS M' := hg1.2
      refine ⟨⟨by omega, by omega⟩, fun p l e Rm s m args below meth c D dA b T0 ad0 kc ks C hF hW hc hl9 => ?_⟩
      refine g_newa C (t := 1) (ty := .double) arr_D rfl (fun _ => rfl) (by omega) (fun L N ad cA => rfl) (by decide) h0.2.2 h0.1 h0.2.1 (by omega) (by omega) hd ?_
      exact hg.2 p l e Rm s m args below meth c D dA b T0 ad0 (kc + 1) (ks + (wr x).toNat) C hF hW (by show kc + 1 + (mK M' - (mK M + 1)) ≤ _; omega) (by show ks + (wr x).toNat + (mS M' - (mS M + (wr x).toNat)) ≤ _; omega)
    | boolean =>
      obtain ⟨x, t, rfl, h⟩ := xI1_some ho
      obtain ⟨h0, h⟩ := xif_some h
      obtain rfl := xgo_some h
      have hg := go _ _ _ _ rfl
      have hg1 := hg.1
      have hk : mK M + 1 ≤ mK M' := hg1.1
      have hs : mS M + (wr x).toNat ≤ mS M' := hg1.2
      refine ⟨⟨by omega, by omega⟩, fun p l e Rm s m args below meth c D dA b T0 ad0 kc ks C hF hW hc hl9 => ?_⟩
      refine g_newa C (t := 2) (ty := .boolean) arr_Z rfl (fun _ => rfl) (by omega) (fun L N ad cA => rfl) (by decide) h0.2.2 h0.1 h0.2.1 (by omega) (by omega) hd ?_
      exact hg.2 p l e Rm s m args below meth c D dA b T0 ad0 (kc + 1) (ks + (wr x).toNat) C hF hW (by show kc + 1 + (mK M' - (mK M + 1)) ≤ _; omega) (by show ks + (wr x).toNat + (mS M' - (mS M + (wr x).toNat)) ≤ _; omega)
    | _ => cases ho
  | anewarray k =>
    obtain rfl : n = 3 := hn
    cases hl : xlk xaL (xqk q) k with
    | none => simp only [xins, hl] at ho; cases ho
    | some ty =>
      simp only [xins, hl] at ho
      obtain ⟨x, t, rfl, h⟩ := xI1_some ho
      obtain ⟨h0, h⟩ := xif_some h
      obtain rfl := xgo_some h
      obtain ⟨g1, g2, g3⟩ := xa_ok _ (xlk_in hl)
      have g1 : Cond.classLink (xcls (xqk q)) k (xaC ty) ∈ lw_tb2 := g1
      have g2 : 3 ≤ ty := g2
      have g3 : ty < 6 := g3
      have hg := go _ _ _ _ rfl
      have hg1 := hg.1
      have hk : mK M + 1 ≤ mK M' := hg1.1
      have hs : mS M + (wr x).toNat ≤ mS M' := hg1.2
      refine ⟨⟨by omega, by omega⟩, fun p l e Rm s m args below meth c D dA b T0 ad0 kc ks C hF hW hc hl9 => ?_⟩
      refine g_newq C (t := ty) (cn := xaC ty) (fun U hU => ?_) (by rw [ok.1]; exact g1) (fun dA => ?_) g2 (by omega) h0.2.2 h0.1 h0.2.1 (by omega) (by omega) hd ?_
      · rcases (show ty = 3 ∨ ty = 4 ∨ ty = 5 by omega) with rfl | rfl | rfl
        · exact hU.2.1
        · exact hU.2.2.1
        · exact hU.2.2.2.1
      · rcases (show ty = 3 ∨ ty = 4 ∨ ty = 5 by omega) with rfl | rfl | rfl <;> rfl
      · exact hg.2 p l e Rm s m args below meth c D dA b T0 ad0 (kc + 1) (ks + (wr x).toNat) C hF hW (by show kc + 1 + (mK M' - (mK M + 1)) ≤ _; omega) (by show ks + (wr x).toNat + (mS M' - (mS M + (wr x).toNat)) ≤ _; omega)
  | multianewarray k d =>
    obtain rfl : n = 4 := hn
    cases hl : xlk xgL (xqk q) k with
    | none => simp only [xins, hl] at ho; cases ho
    | some u =>
      simp only [xins, hl] at ho
      obtain ⟨x, y, t, rfl, h⟩ := xI2_some ho
      obtain ⟨⟨hd2, hx, hy, hcol⟩, hgo⟩ := xif_some h
      subst hd2
      obtain rfl := xgo_some hgo
      have hg := go _ _ _ _ rfl
      have hks := nws_KS (nw M 38 (wr x).toNat (xcol q pc) (wr x).toNat) (na M 38 (wr x).toNat (xcol q pc)) (wr y).toNat (xcol q pc) (wr x).toNat
      have hK0 : mK (nw M 38 (wr x).toNat (xcol q pc) (wr x).toNat) = mK M + 1 := rfl
      have hS0 : mS (nw M 38 (wr x).toNat (xcol q pc) (wr x).toNat) = mS M + (wr x).toNat := rfl
      have hg1 := hg.1
      rw [hks.1, hks.2, hK0, hS0] at hg1
      refine ⟨⟨by omega, by omega⟩, fun p l e Rm s m args below meth c D dA b T0 ad0 kc ks C hF hW hc hl2 => ?_⟩
      refine g_multi C (by rw [ok.1]; exact xg_ok _ (xlk_in hl)) arr_I hcol hx.1 hx.2 hy.1 hy.2 (by omega) (by omega) hd ?_
      exact hg.2 p l e Rm s m args below meth c D dA b T0 ad0 _ _ C hF hW (by rw [hks.1, hK0]; omega) (by rw [hks.2, hS0]; omega)
  | ireturn =>
    obtain rfl : n = 1 := hn
    match st, ho with
    | [.inl x], ho =>
      simp only [xins] at ho
      cases hr : xqr q with
      | none => simp only [hr] at ho; cases ho
      | some ty =>
        have hx : narrow ty (.int (Int32.ofInt x)) = .int (Int32.ofInt x) ∧ xrt (some (vI x)) M = some z := by
          cases ty with
          | int => simp only [hr] at ho; exact ⟨rfl, ho⟩
          | boolean =>
            simp only [hr] at ho
            obtain ⟨h0, h⟩ := xif_some ho
            exact ⟨by rcases h0 with rfl | rfl <;> rfl, h⟩
          | _ => simp only [hr] at ho; cases ho
        obtain rfl := xrt_some hx.2
        cases rt _ rfl
        exact ⟨⟨Nat.le_refl _, Nat.le_refl _⟩, fun p l e Rm s m args below meth c D dA b T0 ad0 kc ks C hF hW hc hl => z_iret C hr hx.1 (by omega) (by omega) hd ⟨rfl, rfl, rfl, rfl, rfl⟩⟩
    | [], ho => cases ho
    | .inr _ :: _, ho => cases ho
    | .inl _ :: _ :: _, ho => cases ho
  | lreturn =>
    obtain rfl : n = 1 := hn
    match st, ho with
    | [.inr (.inl x)], ho =>
      simp only [xins] at ho
      cases hr : xqr q with
      | none => simp only [hr] at ho; cases ho
      | some ty =>
        cases ty with
        | long =>
          simp only [hr] at ho
          obtain rfl := xrt_some ho
          cases rt _ rfl
          exact ⟨⟨Nat.le_refl _, Nat.le_refl _⟩, fun p l e Rm s m args below meth c D dA b T0 ad0 kc ks C hF hW hc hl => z_lret C hr (by omega) (by omega) hd ⟨rfl, rfl, rfl, rfl, rfl⟩⟩
        | _ => simp only [hr] at ho; cases ho
    | [], ho => cases ho
    | .inl _ :: _, ho => cases ho
    | .inr (.inr _) :: _, ho => cases ho
    | .inr (.inl _) :: _ :: _, ho => cases ho
  | dreturn =>
    obtain rfl : n = 1 := hn
    match st, ho with
    | [.inr (.inr (.inl x))], ho =>
      simp only [xins] at ho
      cases hr : xqr q with
      | none => simp only [hr] at ho; cases ho
      | some ty =>
        cases ty with
        | double =>
          simp only [hr] at ho
          obtain rfl := xrt_some ho
          cases rt _ rfl
          exact ⟨⟨Nat.le_refl _, Nat.le_refl _⟩, fun p l e Rm s m args below meth c D dA b T0 ad0 kc ks C hF hW hc hl => z_dret C hr (by omega) (by omega) hd ⟨rfl, rfl, rfl, rfl, rfl⟩⟩
        | _ => simp only [hr] at ho; cases ho
    | [], ho => cases ho
    | .inl _ :: _, ho => cases ho
    | .inr (.inl _) :: _, ho => cases ho
    | .inr (.inr (.inr _)) :: _, ho => cases ho
    | .inr (.inr (.inl _)) :: _ :: _, ho => cases ho
  | areturn =>
    obtain rfl : n = 1 := hn
    match st, ho with
    | [.inr (.inr (.inr (.inr (.inl x))))], ho =>
      simp only [xins] at ho
      cases hr : xqr q with
      | none => simp only [hr] at ho; cases ho
      | some ty =>
        cases ty with
        | object cn =>
          simp only [hr] at ho
          obtain rfl := xrt_some ho
          cases rt _ rfl
          refine ⟨⟨Nat.le_refl _, Nat.le_refl _⟩, fun p l e Rm s m args below meth c D dA b T0 ad0 kc ks C hF hW hc hl => ?_⟩
          by_cases hx : x = 0
          · subst hx
            exact z_aretN C hr (by omega) (by omega) hd ⟨rfl, rfl, rfl, rfl, rfl⟩
          · refine g_stk (st := [vR x]) (by rw [List.map_cons, xval_r hx]; rfl) (z_aret C hr (by omega) (by omega) hd ⟨?_, rfl, rfl, rfl, rfl⟩)
            show some (Value.ref x) = some (xval (vR x))
            rw [xval_r hx]
        | _ => simp only [hr] at ho; cases ho
    | [], ho => cases ho
    | .inl _ :: _, ho => cases ho
    | .inr (.inl _) :: _, ho => cases ho
    | .inr (.inr (.inl _)) :: _, ho => cases ho
    | .inr (.inr (.inr (.inl _))) :: _, ho => cases ho
    | .inr (.inr (.inr (.inr (.inr _)))) :: _, ho => cases ho
    | .inr (.inr (.inr (.inr (.inl _)))) :: _ :: _, ho => cases ho
  | return_ =>
    obtain rfl : n = 1 := hn
    match st, ho with
    | [], ho =>
      simp only [xins] at ho
      cases hr : xqr q with
      | some ty => simp only [hr] at ho; cases ho
      | none =>
        simp only [hr] at ho
        obtain rfl := xrt_some ho
        cases rt _ rfl
        exact ⟨⟨Nat.le_refl _, Nat.le_refl _⟩, fun p l e Rm s m args below meth c D dA b T0 ad0 kc ks C hF hW hc hl => z_vret C hr (by omega) (by omega) hd ⟨rfl, rfl, rfl, rfl, rfl⟩⟩
    | _ :: _, ho => cases ho
  | invokevirtual k =>
    obtain rfl : n = 3 := hn
    exact sim_iV ok hd ho ca
  | invokestatic k =>
    obtain rfl : n = 3 := hn
    cases hl : xlk xyL (xqk q) k with
    | none =>
      simp only [xins, hl] at ho
      exact sim_iS ok hd ho ca
    | some u =>
      simp only [xins, hl] at ho
      split at ho
      · obtain ⟨h0, h⟩ := xif_some ho
        obtain rfl := xgo_some h
        exact SG.of (go _ _ _ _ rfl) rfl rfl (fun C hF hW kk => g_acopy C (by rw [ok.1]; exact xy_ok _ (xlk_in hl)) h0.1.1 h0.1.2.1 h0.1.2.2.1 h0.1.2.2.2.1 h0.1.2.2.2.2.1 h0.1.2.2.2.2.2.1 h0.1.2.2.2.2.2.2 (Nat.le_trans h0.2.1 hF) (Nat.le_trans h0.2.2 hW) hd kk)
      · cases ho
  | invokespecial k =>
    obtain rfl : n = 3 := hn
    cases hl : xlk xoL (xqk q) k with
    | none =>
      simp only [xins, hl] at ho
      exact sim_iI ok hd ho ca
    | some u =>
      simp only [xins, hl] at ho
      obtain ⟨L, t, rfl, h⟩ := xR1_some ho
      obtain ⟨h0, h⟩ := xif_some h
      obtain rfl := xgo_some h
      exact SG.of (go _ _ _ _ rfl) rfl rfl (fun C hF hW kk => g_stk (by rw [List.map_cons, xval_r h0.1]) (z_objInit C (by rw [ok.1]; exact xo_ok _ (xlk_in hl)) xo_ok2.1 xo_ok2.2 (Nat.le_trans h0.2.1 hF) (by rw [cs_sum]; exact Nat.le_trans h0.2.2 hW) hd kk))
  | _ => cases ho
theorem sim : ∀ (f : Nat) (q : xq) (pc : Nat) (lv st : List xv) (M : xm) (r : Option xv) (M' : xm), xq_ok q → xex f q pc lv st M = some (r, M') → SG q r M' pc lv st M
  | 0, _, _, _, _, _, _, _, _, h => by cases h
  | f + 1, q, pc, lv, st, M, r, M', ok, h => by
    rw [xex] at h
    cases hs : xstep q pc lv st M with
    | none => rw [hs] at h; cases h
    | some z =>
      rw [hs] at h
      unfold xstep at hs
      cases hd : decode (xqc q) pc with
      | error _ => rw [hd] at hs; cases hs
      | ok v =>
        obtain ⟨i, n⟩ := v
        rw [hd] at hs
        obtain ⟨hn, ho⟩ := xif_some (show (if n = xlen i n then xins q pc lv st M i else none) = some z from hs)
        refine sim_ins ok hd hn ho (fun pc' lv' st' M1 e => ?_) (fun x e => ?_) (fun q1 lv0 pc' lv' st' M1 e ok1 => ?_)
        · subst e
          exact sim f q pc' lv' st' M1 r M' ok h
        · subst e
          exact Option.some.inj h
        · subst e
          simp only [] at h
          cases h1 : xex f q1 0 lv0 [] M1 with
          | none => rw [h1] at h; cases h
          | some y =>
            rw [h1] at h
            exact ⟨y.1, y.2, sim f q1 0 lv0 [] M1 y.1 y.2 ok1 h1, sim f q pc' lv' _ y.2 r M' ok h⟩
/-- THE CONTRACT of a method, out of a run of the small machine -/
theorem Wp_met {q : xq} {av : List xv} {M : xm} {Q : Option xv → xm → Prop} (ok : xq_ok q) (hn : (xfl av).length ≤ xqn q) (h : Wp q 0 (xloc av (xqn q)) [] M Q) : ∃ r M', Q r M' ∧ (mK M ≤ mK M' ∧ mS M ≤ mS M') ∧ lz_M (xqy q) (xqc q) (xqn q) (xqr q) ({ frames := xqF q, cells := mK M' - mK M, slots := mS M' - mS M, locals := xqW q } : Room) (av.map xval) (xT M) (xA M) (mB M) (xR M) (xPost r M') := by
  obtain ⟨f, r, M', h1, h2⟩ := h
  have hg := sim f q 0 _ [] M r M' ok h1
  exact ⟨r, M', h2, hg.1, SG.met ok hn hg⟩
