/-! 18.sim2: a grid; calls; and THE THEOREM: what the small machine does, the machine does -/
theorem ky_lt {t n c : Nat} (ht : t < 64) (hn : n < 32768) (hc : c < 131072) : ky t n c < 274877906944 := by unfold ky; omega
theorem nws_mC (M : xm) (L n c : Nat) : ∀ (i k : Nat), mC (nws M L n c i) k = if k = ky 32 n c then mC M k + i else mC M k
  | 0, k => by
    show mC M k = _
    split <;> rfl
  | i + 1, k => by
    show (if k = ky 32 n c then mC (nws M L n c i) k + 1 else mC (nws M L n c i) k) = _
    rw [nws_mC M L n c i k]
    by_cases h : k = ky 32 n c
    · rw [if_pos h, if_pos h, if_pos h]
      omega
    · rw [if_neg h, if_neg h, if_neg h]
theorem nws_na (M : xm) (L n c i : Nat) : na (nws M L n c i) 32 n c = ad 32 n c (mC M (ky 32 n c) + i) := by
  unfold na
  rw [nws_mC, if_pos rfl]
theorem ad_key {t n c i : Nat} (ht : t < 64) (hn : n < 32768) (hc : c < 131072) : ad t n c i % 64 = t ∧ ad t n c i / 64 % 32768 = n ∧ ad t n c i % 274877906944 = ky t n c ∧ ad t n c i / 274877906944 = i := by
  unfold ad ky
  omega
theorem nws_T {M : xm} {L n c : Nat} (hn : n < 32768) (hc : c < 131072) : ∀ i, xT (nws M L n c i) = lz_upTs (xT M) (fun j => ad 32 n c (mC M (ky 32 n c) + j)) n i
  | 0 => rfl
  | i + 1 => by
    show xT (nw (nws M L n c i) 32 n c n) = _
    rw [xT_nw (by omega) (by omega) hn hc, nws_T hn hc i, nws_na]
    rfl
theorem nws_KS (M : xm) (L n c : Nat) : ∀ i, mK (nws M L n c i) = mK M + i ∧ mS (nws M L n c i) = mS M + i * n
  | 0 => ⟨rfl, by show mS M = _; omega⟩
  | i + 1 => by
    obtain ⟨h1, h2⟩ := nws_KS M L n c i
    constructor
    · show mK (nws M L n c i) + 1 = _
      rw [h1]; omega
    · show mS (nws M L n c i) + n = _
      rw [h2, Nat.succ_mul]; omega
theorem nws_A {M : xm} {L n c : Nat} (h0 : ∀ i, xA M (ad 32 n c (mC M (ky 32 n c) + i)) = fun _ => 0) : ∀ i, xA (nws M L n c i) = xA M
  | 0 => rfl
  | i + 1 => by
    have ih := nws_A (L := L) h0 i
    funext a j
    show Int32.ofInt (if a = na (nws M L n c i) 32 n c then 0 else (nws M L n c i).2.1 a j) = _
    rw [nws_na]
    by_cases ha : a = ad 32 n c (mC M (ky 32 n c) + i)
    · rw [if_pos ha, ha, h0]; rfl
    · rw [if_neg ha]
      exact congrFun (congrFun ih a) j
theorem nws_B {M : xm} {L n c : Nat} (h0 : ∀ i, mB M (ad 32 n c (mC M (ky 32 n c) + i)) = fun _ => 0) : ∀ i, mB (nws M L n c i) = mB M
  | 0 => rfl
  | i + 1 => by
    have ih := nws_B (L := L) h0 i
    funext a j
    show (if a = na (nws M L n c i) 32 n c then 0 else (nws M L n c i).2.2.1 a j) = _
    rw [nws_na]
    by_cases ha : a = ad 32 n c (mC M (ky 32 n c) + i)
    · rw [if_pos ha, ha, h0]
    · rw [if_neg ha]
      exact congrFun (congrFun ih a) j
theorem ad_ne0 {t n c i : Nat} (h0 : 0 < t) (ht : t < 64) (hn : n < 32768) (hc : c < 131072) : ¬ ad t n c i = 0 := fun z => by
  have := (ad_key (i := i) ht hn hc).1
  rw [z] at this
  omega
theorem nws_R {M : xm} {L n c : Nat} (hn : n < 32768) (hc : c < 131072) (hL : ∀ i, ¬ L = ad 32 n c (mC M (ky 32 n c) + i)) (h0 : ∀ i, xR M (ad 32 n c (mC M (ky 32 n c) + i)) = fun _ => none) : ∀ i, xR (nws M L n c i) = fun a j => if a = L ∧ j < i then some (ad 32 n c (mC M (ky 32 n c) + j)) else xR M a j
  | 0 => by
    funext a j
    rw [if_neg (by omega)]
    rfl
  | i + 1 => by
    have ih := nws_R hn hc hL h0 i
    show xR (wR (nw (nws M L n c i) 32 n c n) L i (na (nws M L n c i) 32 n c)) = _
    rw [xup_R, nws_na, if_neg (ad_ne0 (by omega) (by omega) hn hc)]
    funext a j
    unfold lz_up
    by_cases haj : a = L ∧ j = i
    · rw [if_pos haj, if_pos ⟨haj.1, by omega⟩, haj.2]
    · rw [if_neg haj]
      show (if (if a = na (nws M L n c i) 32 n c then 0 else (nws M L n c i).2.2.2.1 a j) = 0 then none else some (if a = na (nws M L n c i) 32 n c then 0 else (nws M L n c i).2.2.2.1 a j)) = _
      rw [nws_na]
      by_cases ha : a = ad 32 n c (mC M (ky 32 n c) + i)
      · rw [if_pos ha, if_pos rfl, if_neg (fun z => hL i (z.1.symm.trans ha)), ha, h0]
      · rw [if_neg ha]
        have := congrFun (congrFun ih a) j
        rw [show (if (nws M L n c i).2.2.2.1 a j = 0 then none else some ((nws M L n c i).2.2.2.1 a j)) = xR (nws M L n c i) a j from rfl, this]
        by_cases hq : a = L ∧ j < i
        · rw [if_pos hq, if_pos ⟨hq.1, by omega⟩]
        · rw [if_neg hq, if_neg (fun z => hq ⟨z.1, by have := z.2; have : ¬ j = i := fun w => haj ⟨z.1, w⟩; omega⟩)]
theorem upTs_comm {T : lz_T} {Li : Nat → Nat} {K L0 : Nat} {x : Nat × Nat} : ∀ i, (∀ j, j < i → Li j ≠ L0) → lz_upTs (lz_upT T L0 x) Li K i = lz_upT (lz_upTs T Li K i) L0 x
  | 0, _ => rfl
  | i + 1, h => by
    unfold lz_upTs
    rw [upTs_comm i (fun j hj => h j (by omega))]
    funext a
    unfold lz_upT
    by_cases h1 : a = Li i
    · rw [if_pos h1, if_neg (by rw [h1]; exact h i (by omega)), if_pos h1]
    · rw [if_neg h1, if_neg h1]
section GM
variable {p : Program} {l : Launch} {e : Env} {Rm : Room} {s : State} {m : MethodId} {args : Array Value} {below : List Frame} {meth : Method} {c : Code} {D : va_G} {dA : Nat → ClassId} {b : Nat} {T0 : lz_T} {ad0 : Nat → Nat} {Q : State → Prop} {kc ks : Nat} {M : xm} {pc : Nat} {lv st : List xv} {q : xq}
theorem g_multi (C : ZC q p s m args meth c D dA b) {k : Nat} {x y : Int} (G : Cond.classLink (xqy q).cls k ("[" ++ (FieldType.array .int).toString) ∈ lw_tb2) (G2 : Cond.arrayClass .int ∈ lw_tb2) (hcol : xcol q pc < 131072) (x1 : 0 ≤ wr x) (x2 : wr x < 32768) (y1 : 0 ≤ wr y) (y2 : wr y < 32768) (hc : kc + (1 + (wr x).toNat) ≤ Rm.cells) (hs : ks + ((wr x).toNat + (wr x).toNat * (wr y).toNat) ≤ Rm.slots) (hd : decode (xqc q) pc = .ok (.multianewarray k 2, 4))
    (kk : ZZ q p l e Rm s m args below meth c D dA b T0 ad0 Q (kc + (1 + (wr x).toNat)) (ks + ((wr x).toNat + (wr x).toNat * (wr y).toNat)) (nws (nw M 38 (wr x).toNat (xcol q pc) (wr x).toNat) (na M 38 (wr x).toNat (xcol q pc)) (wr y).toNat (xcol q pc) (wr x).toNat) (pc + 4) lv (vR (na M 38 (wr x).toNat (xcol q pc)) :: st)) : ZZ q p l e Rm s m args below meth c D dA b T0 ad0 Q kc ks M pc lv (vI y :: vI x :: st) := by
  refine lz_asmZ (fun hz => ?_)
  have hN : (wr x).toNat < 32768 := by omega
  have hK : (wr y).toNat < 32768 := by omega
  have e1 : Int32.ofInt x = nI (wr x).toNat := xnI x1
  have e2 : Int32.ofInt y = nI (wr y).toNat := xnI y1
  generalize hNd : (wr x).toNat = N at *
  generalize hKd : (wr y).toNat = K at *
  generalize hcd : xcol q pc = cl0 at *
  obtain ⟨s1, s2, s3⟩ := xnw_same (M := M) (t := 38) (n := N) (c := cl0) (sl := N) (by omega) hN hcol hz
  have hT1 : xT (nw M 38 N cl0 N) = lz_upT (xT M) (na M 38 N cl0) (38, N) := xT_nw (by omega) (by omega) hN hcol
  have hk : ky 32 K cl0 ≠ ky 38 N cl0 := by unfold ky; omega
  have hm : mC (nw M 38 N cl0 N) (ky 32 K cl0) = mC M (ky 32 K cl0) := if_neg hk
  have hLi : ∀ i, (xT M (ad 32 K cl0 (mC M (ky 32 K cl0) + i))).1 = 0 := fun i => by
    obtain ⟨-, -, h3, h4⟩ := ad_key (t := 32) (n := K) (c := cl0) (i := mC M (ky 32 K cl0) + i) (by omega) hK hcol
    unfold xT
    rw [h3, h4, if_neg (fun z => by have := z.2; omega)]
  have hne : ∀ i, ad 32 K cl0 (mC M (ky 32 K cl0) + i) ≠ na M 38 N cl0 := fun i z => by
    have h1 := (ad_key (t := 32) (n := K) (c := cl0) (i := mC M (ky 32 K cl0) + i) (by omega) hK hcol).1
    have h2 := (na_key (M := M) (t := 38) (n := N) (c := cl0) (by omega) hN hcol).1
    rw [z, h2] at h1
    omega
  have hst : List.map xval (vI y :: vI x :: st) = .int (nI K) :: .int (nI N) :: st.map xval := by
    show Value.int (Int32.ofInt y) :: Value.int (Int32.ofInt x) :: _ = _
    rw [e1, e2]
  refine g_stk hst (z_multi C (na M 38 N cl0) (fun j => ad 32 K cl0 (mC M (ky 32 K cl0) + j)) (xT_na (by omega) hN hcol) (fun i _ => hLi i) (fun i j _ _ h => ?_) (fun i _ => hne i) G G2 hN hK hc hs hd ?_)
  · have h1 := (ad_key (t := 32) (n := K) (c := cl0) (i := mC M (ky 32 K cl0) + i) (by omega) hK hcol).2.2.2
    have h2 := (ad_key (t := 32) (n := K) (c := cl0) (i := mC M (ky 32 K cl0) + j) (by omega) hK hcol).2.2.2
    have h : ad 32 K cl0 (mC M (ky 32 K cl0) + i) = ad 32 K cl0 (mC M (ky 32 K cl0) + j) := h
    rw [h, h2] at h1
    omega
  · unfold ZZ at kk
    rw [nws_T hK hcol, hm, hT1, upTs_comm N (fun j _ => hne j), nws_A (fun i => by rw [hm, s1]; exact (hz _ (hLi i)).1), s1, nws_B (fun i => by rw [hm, s2]; exact (hz _ (hLi i)).2.1), s2, nws_R hK hcol (fun i z => hne i (by rw [hm] at z; exact z.symm)) (fun i => by rw [hm, s3]; exact (hz _ (hLi i)).2.2), hm, s3, List.map_cons, xval_r (na_ne (by omega) (by omega) hN hcol)] at kk
    have hR : (fun a j => if a = na M 38 N cl0 ∧ j < N then some (ad 32 K cl0 (mC M (ky 32 K cl0) + j)) else xR M a j) = fun a j => if a = na M 38 N cl0 then (if j < N then some (ad 32 K cl0 (mC M (ky 32 K cl0) + j)) else none) else xR M a j := by
      funext a j
      by_cases ha : a = na M 38 N cl0
      · rw [if_pos ha]
        by_cases hj : j < N
        · rw [if_pos ⟨ha, hj⟩, if_pos hj]
        · rw [if_neg (fun z => hj z.2), if_neg hj, ha, (hz _ (xT_na (by omega) hN hcol)).2.2]
      · rw [if_neg ha, if_neg (fun z => ha z.1)]
    rw [hR] at kk
    exact kk
end GM
def xPost (r : Option xv) (M' : xm) : Option Value → lz_T → lz_A → lz_B → lz_R → Prop := fun v T A B R => v = r.map xval ∧ T = xT M' ∧ A = xA M' ∧ B = mB M' ∧ R = xR M'
/-- from here the machine comes to the method's end with the answer r and the memory M' -/
def SG (q : xq) (r : Option xv) (M' : xm) (pc : Nat) (lv st : List xv) (M : xm) : Prop := (mK M ≤ mK M' ∧ mS M ≤ mS M') ∧ ∀ (p : Program) (l : Launch) (e : Env) (Rm : Room) (s : State) (m : MethodId) (args : Array Value) (below : List Frame) (meth : Method) (c : Code) (D : va_G) (dA : Nat → ClassId) (b : Nat) (T0 : lz_T) (ad0 : Nat → Nat) (kc ks : Nat), ZC q p s m args meth c D dA b → xqF q ≤ Rm.frames → xqW q ≤ Rm.locals → kc + (mK M' - mK M) ≤ Rm.cells → ks + (mS M' - mS M) ≤ Rm.slots →
  ZZ q p l e Rm s m args below meth c D dA b T0 ad0 (MQ below (lz_Qc D dA b T0 ad0 (xPost r M')) args s Rm.cells Rm.slots (fun q => b ≤ q)) kc ks M pc lv st
theorem SG.of {q : xq} {r : Option xv} {M' M M1 : xm} {pc pc1 : Nat} {lv st lv1 st1 : List xv} (h : SG q r M' pc1 lv1 st1 M1) (hk : mK M1 = mK M) (hs : mS M1 = mS M)
    (z : ∀ {p : Program} {l : Launch} {e : Env} {Rm : Room} {s : State} {m : MethodId} {args : Array Value} {below : List Frame} {meth : Method} {c : Code} {D : va_G} {dA : Nat → ClassId} {b : Nat} {T0 : lz_T} {ad0 : Nat → Nat} {Q : State → Prop} {kc ks : Nat}, ZC q p s m args meth c D dA b → xqF q ≤ Rm.frames → xqW q ≤ Rm.locals → ZZ q p l e Rm s m args below meth c D dA b T0 ad0 Q kc ks M1 pc1 lv1 st1 → ZZ q p l e Rm s m args below meth c D dA b T0 ad0 Q kc ks M pc lv st) : SG q r M' pc lv st M := by
  refine ⟨⟨by rw [← hk]; exact h.1.1, by rw [← hs]; exact h.1.2⟩, fun p l e Rm s m args below meth c D dA b T0 ad0 kc ks C hF hW hc hl => ?_⟩
  exact z C hF hW (h.2 p l e Rm s m args below meth c D dA b T0 ad0 kc ks C hF hW (by rw [hk]; exact hc) (by rw [hs]; exact hl))
/-- the contract of a method that the small machine runs through -/
theorem SG.met {q : xq} {av : List xv} {M M' : xm} {r : Option xv} (ok : xq_ok q) (hn : (xfl av).length ≤ xqn q) (h : SG q r M' 0 (xloc av (xqn q)) [] M) : lz_M (xqy q) (xqc q) (xqn q) (xqr q) ({ frames := xqF q, cells := mK M' - mK M, slots := mS M' - mS M, locals := xqW q } : Room) (av.map xval) (xT M) (xA M) (mB M) (xR M) (xPost r M') := by
  refine lz_enter ok.2.1 (by rw [xfl_len]; exact hn) (fun p l e s m args below meth c D dA b ad0 C => ?_)
  refine z_lv (lv' := xlv 0 (xloc av (xqn q))) (fun z hz => xlv_args av 0 _ z hz) ?_
  exact h.2 p l e { frames := xqF q, cells := mK M' - mK M, slots := mS M' - mS M, locals := xqW q } s m args below meth c D dA b (xT M) ad0 0 0 C (Nat.le_refl _) (Nat.le_refl _) (by show 0 + (mK M' - mK M) ≤ mK M' - mK M; omega) (by show 0 + (mS M' - mS M) ≤ mS M' - mS M; omega)
/-- a call -/
theorem SG.call {q q1 : xq} {av lv rest st : List xv} {M M1 M' : xm} {pc : Nat} {r r1 : Option xv} (hm : SG q1 r1 M1 0 (xloc av (xqn q1)) [] M) (h : SG q r M' (pc + 3) lv (r1.toList ++ rest) M1)
    (z : ∀ {p : Program} {l : Launch} {e : Env} {Rm : Room} {s : State} {m : MethodId} {args : Array Value} {below : List Frame} {meth : Method} {c : Code} {D : va_G} {dA : Nat → ClassId} {b : Nat} {T0 : lz_T} {ad0 : Nat → Nat} {Q : State → Prop} {kc ks : Nat}, ZC q p s m args meth c D dA b → xqF q ≤ Rm.frames → xqW q ≤ Rm.locals → kc + (mK M1 - mK M) ≤ Rm.cells → ks + (mS M1 - mS M) ≤ Rm.slots →
      (∀ (r' : Option Value) (T1 : lz_T) (A1 : lz_A) (B1 : lz_B) (R1 : lz_R), xPost r1 M1 r' T1 A1 B1 R1 → lz_Z p l e Rm s m args below meth c D dA b (xqn q) T0 ad0 Q (kc + (mK M1 - mK M)) (ks + (mS M1 - mS M)) T1 A1 B1 R1 (pc + 3) (xlv 0 lv) (r'.toList ++ rest.map xval)) → ZZ q p l e Rm s m args below meth c D dA b T0 ad0 Q kc ks M pc lv st) : SG q r M' pc lv st M := by
  obtain ⟨a1, a2⟩ := hm.1
  obtain ⟨b1, b2⟩ := h.1
  refine ⟨⟨by omega, by omega⟩, fun p l e Rm s m args below meth c D dA b T0 ad0 kc ks C hF hW hc hl => ?_⟩
  refine z C hF hW (by omega) (by omega) (fun r' T1 A1 B1 R1 hp => ?_)
  obtain ⟨rfl, rfl, rfl, rfl, rfl⟩ := hp
  have go := h.2 p l e Rm s m args below meth c D dA b T0 ad0 (kc + (mK M1 - mK M)) (ks + (mS M1 - mS M)) C hF hW (by omega) (by omega)
  unfold ZZ at go
  rw [List.map_append, show (r1.toList).map xval = (r1.map xval).toList by cases r1 <;> rfl] at go
  exact go
