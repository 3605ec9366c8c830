/-! 17.multi: new int[n][k] -/
def lz_upTs (T : lz_T) (Li : Nat → Nat) (K : Nat) : Nat → lz_T
  | 0 => T
  | i + 1 => lz_upT (lz_upTs T Li K i) (Li i) (32, K)
theorem va_D_one {P : Nat → Prop} {x : Nat × va_E} (h : P x.1) : va_D P [x] := by
  refine ⟨fun i j a c hi hj _ => ?_, fun k a hk => ?_⟩
  · have h1 : i < 1 := (List.getElem?_eq_some_iff.mp hi).1
    have h2 : j < 1 := (List.getElem?_eq_some_iff.mp hj).1
    omega
  · have h1 : k < 1 := (List.getElem?_eq_some_iff.mp hk).1
    rw [show k = 0 by omega] at hk
    cases hk
    exact h
theorem lz_ws_in {dA : Nat → ClassId} {ad : Nat → Nat} {T : lz_T} {A : lz_A} {B : lz_B} {R : lz_R} {Ls : List Nat} {k : Nat} {x : Nat × va_E} (h : (lz_ws dA ad T A B R Ls)[k]? = some x) : ∃ L, L ∈ Ls ∧ x.1 = ad L := by
  unfold lz_ws at h
  obtain ⟨L, hL, rfl⟩ := List.mem_map.mp (List.mem_of_getElem? h)
  exact ⟨L, hL, rfl⟩
/-- a cell that is there already, not yet listed, comes to the logical address L -/
theorem lz_H_more {D : va_G} {dA : Nat → ClassId} {b : Nat} {ad : Nat → Nat} {T : lz_T} {A : lz_A} {B : lz_B} {R R' : lz_R} {H1 : Heap} {L q : Nat} {x : Nat × Nat} {cA : ClassId} {a : vp_A} (h3 : lz_H D dA b ad T A B R H1) (hL : (T L).1 = 0) (hx : x.1 ≠ 0) (ho : ∀ l, l ≠ L → R' l = R l) (hcl' : ∀ k q', R' L k = some q' → (T q').1 ≠ 0) (hen : lz_cell dA (va_up ad L q) (lz_upT T L x) A B R' L = .inl (cA, a)) (hat : H1[q]? = some (vp_cell cA a)) (hb : b ≤ q) (hnew : ∀ l, (T l).1 ≠ 0 → ad l ≠ q) : lz_H D dA b (va_up ad L q) (lz_upT T L x) A B R' H1 := by
  obtain ⟨Ls, hmem, hP, hD, hcl, hz⟩ := h3
  have hP1 : va_P D vwCl (lz_ws dA ad T A B R Ls ++ [(q, .inl (cA, a))]) H1 := hP.app (fun k9 y hy => by
    have h0 : k9 < 1 := (List.getElem?_eq_some_iff.mp hy).1
    rw [show k9 = 0 by omega] at hy
    cases hy
    exact hat)
  have hD1 : va_D (fun q => b ≤ q) (lz_ws dA ad T A B R Ls ++ [(q, .inl (cA, a))]) := va_D.app hD (va_D_one hb) (fun i j u v hu hv => by
    have h0 : j < 1 := (List.getElem?_eq_some_iff.mp hv).1
    rw [show j = 0 by omega] at hv
    cases hv
    obtain ⟨l, hl, e⟩ := lz_ws_in hu
    rw [e]
    exact hnew l ((hmem l).mp hl))
  have hw : lz_ws dA ad T A B R Ls ++ [(q, .inl (cA, a))] = lz_ws dA (va_up ad L q) (lz_upT T L x) A B R' (Ls ++ [L]) := by
    unfold lz_ws
    rw [List.map_append]
    congr 1
    · apply List.map_congr_left
      intro l hl
      have hne : l ≠ L := fun z => (hmem l).mp hl (by rw [z]; exact hL)
      have hc : lz_cell dA (va_up ad L q) (lz_upT T L x) A B R' l = lz_cell dA ad T A B R l := by
        rw [lz_cell_row (A := A) (B := B) (R := R) rfl rfl (ho l hne)]
        exact lz_cell_ad (lz_upT_ne T x hne) (fun k q' hq' => by
          have h1 : q' ≠ L := fun z => hcl l k q' hq' (by rw [z]; exact hL)
          simp [va_up, h1])
      rw [hc]
      simp [va_up, hne]
    · show [(q, Sum.inl (cA, a))] = [(va_up ad L q L, _)]
      rw [hen]
      simp [va_up]
  rw [hw] at hP1 hD1
  refine ⟨Ls ++ [L], fun l => ?_, hP1, hD1, fun l k q' hq' => ?_, fun l hl => ?_⟩
  · by_cases hl : l = L
    · subst hl
      rw [lz_upT_eq]
      simp [hx]
    · rw [lz_upT_ne T x hl, List.mem_append, List.mem_singleton, hmem]
      simp [hl]
  · have h0 : (T q').1 ≠ 0 := by
      by_cases hl : l = L
      · rw [hl] at hq'; exact hcl' k q' hq'
      · rw [ho l hl] at hq'; exact hcl l k q' hq'
    have h1 : q' ≠ L := fun z => h0 (by rw [z]; exact hL)
    rw [lz_upT_ne T x h1]
    exact h0
  · by_cases h1 : l = L
    · subst h1
      rw [lz_upT_eq] at hl
      exact absurd hl hx
    · rw [lz_upT_ne T x h1] at hl
      obtain ⟨z1, z2, z3⟩ := hz l hl
      exact ⟨z1, z2, by rw [ho l h1]; exact z3⟩
theorem lz_upTs_ne {T : lz_T} {Li : Nat → Nat} {K l : Nat} : ∀ i, (∀ j, j < i → l ≠ Li j) → lz_upTs T Li K i l = T l
  | 0, _ => rfl
  | i + 1, h => by
    unfold lz_upTs
    rw [lz_upT_ne _ _ (h i (by omega))]
    exact lz_upTs_ne i (fun j hj => h j (by omega))
theorem lz_pushN {D : va_G} {dA : Nat → ClassId} {b : Nat} {ad : Nat → Nat} {T : lz_T} {A : lz_A} {B : lz_B} {R : lz_R} {H H1 : Heap} {Li : Nat → Nat} {N K : Nat} (h3 : lz_H D dA b ad T A B R H1) (hold : ∀ l, (T l).1 ≠ 0 → ad l < H.size) (hz : ∀ L, (T L).1 = 0 → A L = (fun _ => 0) ∧ B L = (fun _ => 0) ∧ R L = fun _ => none) (hfi : ∀ i, i < N → (T (Li i)).1 = 0) (hinj : ∀ i j, i < N → j < N → Li i = Li j → i = j) (hb : b ≤ H.size) (hrow : ∀ j, j < N → H1[H.size + 1 + j]? = some (vp_cell (dA 0) (K, .inl (fun _ => 0)))) :
    ∀ i, i ≤ N → ∃ ad' : Nat → Nat, lz_H D dA b ad' (lz_upTs T Li K i) A B R H1 ∧ lz_E T ad (lz_upTs T Li K i) ad' ∧ (∀ j, j < i → ad' (Li j) = H.size + 1 + j) ∧ ∀ l, (lz_upTs T Li K i l).1 ≠ 0 → ad' l ≠ H.size ∧ ad' l < H.size + 1 + i
  | 0, _ => ⟨ad, h3, lz_E.refl T ad, fun j hj => absurd hj (Nat.not_lt_zero j), fun l hl => by have := hold l hl; omega⟩
  | i + 1, hi => by
    obtain ⟨ad', g1, g2, g3, g4⟩ := lz_pushN h3 hold hz hfi hinj hb hrow i (by omega)
    have hT0 : (lz_upTs T Li K i (Li i)).1 = 0 := by
      rw [lz_upTs_ne i (fun j hj z => by have := hinj i j (by omega) (by omega) z; omega)]
      exact hfi i (by omega)
    obtain ⟨z1, z2, z3⟩ := hz (Li i) (hfi i (by omega))
    have hnew : ∀ l, (lz_upTs T Li K i l).1 ≠ 0 → ad' l ≠ H.size + 1 + i := fun l hl => by have := (g4 l hl).2; omega
    have hE : lz_E (lz_upTs T Li K i) ad' (lz_upT (lz_upTs T Li K i) (Li i) (32, K)) (va_up ad' (Li i) (H.size + 1 + i)) := lz_E_new hT0
    refine ⟨va_up ad' (Li i) (H.size + 1 + i), lz_H_more (x := (32, K)) (cA := dA 0) (a := (K, .inl (fun _ => 0))) g1 hT0 (by simp) (fun _ _ => rfl) (fun k q' hq' => by rw [z3] at hq'; cases hq') ?_ (hrow i (by omega)) (by omega) hnew, g2.trans hE, fun j hj => ?_, fun l hl => ?_⟩
    · rw [lz_cell_a (show lz_upT (lz_upTs T Li K i) (Li i) (32, K) (Li i) = (32 + 0, K) from lz_upT_eq _ _ _)]
      show Sum.inl (dA 0, K, Sum.inl (A (Li i))) = _
      rw [z1]
    · by_cases hji : j = i
      · subst hji
        simp [va_up]
      · have hne : Li j ≠ Li i := fun z => hji (hinj j i (by omega) (by omega) z)
        have := g3 j (by omega)
        simp [va_up, hne, this]
    · by_cases hli : l = Li i
      · subst hli
        have : va_up ad' (Li i) (H.size + 1 + i) (Li i) = H.size + 1 + i := by simp [va_up]
        rw [this]
        omega
      · have hl' : (lz_upTs T Li K i l).1 ≠ 0 := by
          unfold lz_upTs at hl
          rwa [lz_upT_ne _ _ hli] at hl
        have := g4 l hl'
        have h2 : va_up ad' (Li i) (H.size + 1 + i) l = ad' l := by simp [va_up, hli]
        rw [h2]
        omega
theorem lz_outer (c : ClassId) (N h0 : Nat) : ∀ i : Nat, Jvm.Free.Multi.outerC c N h0 i = arrV c N (fun j => va_rf (if j < i then some (h0 + 1 + j) else none))
  | 0 => by
    show ({ cls := c, slots := Array.replicate N .null, vm := .none } : Cell) = _
    rw [arrV_new]
    refine congrArg (arrV c N) (funext fun j => ?_)
    simp [va_rf]
  | i + 1 => by
    show (Jvm.Free.Multi.outerC c N h0 i).setSlot i (.ref (h0 + 1 + i)) = _
    rw [lz_outer c N h0 i, arrV_store]
    refine congrArg (arrV c N) (funext fun j => ?_)
    by_cases e : j = i
    · subst e
      simp [updV, va_rf]
    · by_cases h : j < i
      · simp [updV, e, h, Nat.lt_succ_of_lt h]
      · simp [updV, e, h, show ¬ j < i + 1 by omega]
section ZM
variable {p : Program} {l : Launch} {e : Env} {Rm : Room} {s : State} {m : MethodId} {args : Array Value} {below : List Frame} {meth : Method} {c : Code} {D : va_G} {dA : Nat → ClassId} {b nL : Nat} {T0 : lz_T} {ad0 : Nat → Nat} {Q : State → Prop} {kc ks : Nat} {T : lz_T} {A : lz_A} {B : lz_B} {R : lz_R} {y : MethodName} {cc : ByteArray} {ret : Option FieldType} {pc : Nat} {lv : List (Nat × Value)} {rest : List Value}
theorem z_multi (C : lz_C p s m args meth c D dA b y cc nL ret) {idx N K : Nat} (L0 : Nat) (Li : Nat → Nat) (hf0 : (T L0).1 = 0) (hfi : ∀ i, i < N → (T (Li i)).1 = 0) (hinj : ∀ i j, i < N → j < N → Li i = Li j → i = j) (hne : ∀ i, i < N → Li i ≠ L0) (G : Cond.classLink y.cls idx ("[" ++ (FieldType.array .int).toString) ∈ lw_tb2) (G2 : Cond.arrayClass .int ∈ lw_tb2) (hN : N < 32768) (hK : K < 32768) (hc : kc + (1 + N) ≤ Rm.cells) (hs : ks + (N + N * K) ≤ Rm.slots) (hdg : decode cc pc = .ok (.multianewarray idx 2, 4))
    (kk : lz_Z p l e Rm s m args below meth c D dA b nL T0 ad0 Q (kc + (1 + N)) (ks + (N + N * K)) (lz_upT (lz_upTs T Li K N) L0 (38, N)) A B (fun a j => if a = L0 then (if j < N then some (Li j) else none) else R a j) (pc + 4) lv (.ref L0 :: rest)) : lz_Z p l e Rm s m args below meth c D dA b nL T0 ad0 Q kc ks T A B R pc lv (.int (nI K) :: .int (nI N) :: rest) := by
  intro H locs la cells slots ad h1 h2 h3 h4 h5 h6 h7 h8
  have cN : (nI N).toNatClampNeg = N := nI_clamp (by omega)
  have cK : (nI K).toNatClampNeg = K := nI_clamp (by omega)
  intro U hU Xs
  obtain ⟨vm₁, cA, comp, -, fA, fC, -, -, X', step⟩ := Xs.multianewarray2F (ty := .int) C.1 C.2.2.2.1 (C.2.2.2.2.1 _ G) (show (Cond.arrayOver (.array .int)).before args s = true from C.2.2.2.2.2.1.2.2.2.2.1) (C.2.2.2.2.1 _ G2) (g := F0 m pc la (.int (nI K) :: .int (nI N) :: rest.map (lz_iv ad))) rfl (by rw [C.2.1]; exact hdg) rfl (nI_pos (by omega)) (nI_pos (by omega)) (by rw [cN]; omega) (by rw [cK]; show K * 4 ≤ _; omega) (by rw [cK]; omega) rfl rfl (by rw [cN]; omega) (by rw [cN, cK]; omega)
  rw [cN, cK] at X' step
  have hcA : cA = dA 6 := lz_dA0 C rfl fA
  have hco : comp = dA 0 := lz_dA0 C (t := 0) (ty := .int) rfl fC
  subst hcA; subst hco
  generalize hF : Jvm.Free.Multi.fill (U.setVm vm₁) (dA 6) (dA 0) N K (defaultValue .int) N = F at X' step
  have hTh : (U.setVm vm₁).heap = H := hU
  obtain ⟨f1, f2, -, -⟩ := Jvm.Free.Multi.fill_facts (U.setVm vm₁) (dA 6) (dA 0) N K (defaultValue .int) N
  rw [hF, hTh] at f1 f2
  have hold : ∀ x : Nat, x < H.size → F.heap[x]? = H[x]? := fun x hx => by
    have := Jvm.Free.Multi.fill_old (U.setVm vm₁) (dA 6) (dA 0) N K (defaultValue .int) (a := x) (by rw [hTh]; exact hx) N
    rw [hF, hTh] at this
    exact this
  have hrow : ∀ j : Nat, j < N → F.heap[H.size + 1 + j]? = some (vp_cell (dA 0) (K, .inl (fun _ => 0))) := fun j hj => by
    have := Jvm.Free.Multi.fill_inner (U.setVm vm₁) (dA 6) (dA 0) N K (defaultValue .int) N j hj
    rw [hF, hTh] at this
    rw [this, vp_cell_i]
    show some ({ cls := dA 0, slots := Array.replicate K (.int 0), vm := .none } : Cell) = _
    rw [arrV_new]
  rw [lz_outer] at f2
  obtain ⟨Ls, hmem, hP, hD, hcl, hz⟩ := id h3
  have hlt : ∀ a, (T a).1 ≠ 0 → ad a < H.size := fun a ha => by
    obtain ⟨k0, hk0⟩ := lz_pos hmem ha
    exact (hP k0 _ (lz_ws_at hk0)).lt
  have h3' : lz_H D dA b ad T A B R F.heap := ⟨Ls, hmem, hP.kept (fun k9 x hx => hold x.1 ((hP k9 x hx).lt)), hD, hcl, hz⟩
  have hbH : b ≤ H.size := Nat.le_trans C.2.2.2.2.2.2.2.2.1 h5.1
  obtain ⟨ad', g1, g2, g3, g4⟩ := lz_pushN (N := N) (K := K) (Li := Li) (H := H) h3' hlt hz hfi hinj hbH hrow N (Nat.le_refl N)
  have hT0 : (lz_upTs T Li K N L0).1 = 0 := by
    rw [lz_upTs_ne N (fun j hj z => hne j hj z.symm)]
    exact hf0
  have hin : ∀ j, j < N → (lz_upTs T Li K N (Li j)).1 ≠ 0 := fun j hj => by
    have : ∀ i, j < i → i ≤ N → (lz_upTs T Li K i (Li j)).1 ≠ 0 := by
      intro i
      induction i with
      | zero => intro h; omega
      | succ i ih =>
        intro h1 h2
        unfold lz_upTs
        by_cases hji : Li j = Li i
        · rw [hji, lz_upT_eq]; simp
        · rw [lz_upT_ne _ _ hji]
          refine ih ?_ (by omega)
          rcases Nat.lt_or_ge j i with z | z
          · exact z
          · exact absurd (by rw [show j = i by omega]) hji
    exact this N hj (Nat.le_refl N)
  have hE2 : lz_E (lz_upTs T Li K N) ad' (lz_upT (lz_upTs T Li K N) L0 (38, N)) (va_up ad' L0 H.size) := lz_E_new hT0
  have hH : lz_H D dA b (va_up ad' L0 H.size) (lz_upT (lz_upTs T Li K N) L0 (38, N)) A B (fun a j => if a = L0 then (if j < N then some (Li j) else none) else R a j) F.heap := by
    refine lz_H_more (x := (38, N)) (cA := dA 6) (a := (N, .inr (.inr (.inr (.inr (fun j => if j < N then some (H.size + 1 + j) else none)))))) g1 hT0 (by simp) (fun a ha => by funext j; exact if_neg ha) (fun j q' hq' => ?_) ?_ (by rw [vp_cell_q]; exact f2) hbH (fun a ha => (g4 a ha).1)
    · have hq' : (if j < N then some (Li j) else none) = some q' := by simpa using hq'
      by_cases hj : j < N
      · rw [if_pos hj] at hq'
        cases hq'
        exact hin j hj
      · rw [if_neg hj] at hq'
        cases hq'
    · rw [lz_cell_a (show lz_upT (lz_upTs T Li K N) L0 (38, N) L0 = (32 + 6, N) from lz_upT_eq _ _ _), lz_ar_q _ _ _ _ _ _ (by omega)]
      congr 8
      funext j
      by_cases hj : j < N
      · have hne' : Li j ≠ L0 := hne j hj
        simp [hj, va_up, hne', g3 j hj]
      · simp [hj]
  have hEE := (g2.trans hE2)
  have go := kk F.heap locs la (cells + 1 + N) (slots + N + N * K) (va_up ad' L0 H.size) (by omega) (by omega) hH (h4.trans hEE) ⟨by rw [f1]; exact Nat.le_trans h5.1 (by omega), fun q g1 g2 => by rw [hold q (Nat.lt_of_lt_of_le g1 h5.1)]; exact h5.2.1 q g1 g2, h5.2.2⟩ (by rw [lz_lv_E hEE h7]; exact h6) (lz_okl_E hEE h7) (lz_oks_cons.mpr ⟨lz_ok_ref (by rw [lz_upT_eq]; simp), lz_oks_E hEE (lz_oks_cons.mp (lz_oks_cons.mp h8).2).2⟩)
  rw [List.map_cons, lz_st_E hEE (lz_oks_cons.mp (lz_oks_cons.mp h8).2).2, show lz_iv (va_up ad' L0 H.size) (.ref L0) = .ref H.size by simp [lz_iv, va_up]] at go
  obtain ⟨t2, a1, b1⟩ := go F rfl X'
  rw [hU] at step
  exact ⟨t2, step t2 a1, b1⟩
end ZM
