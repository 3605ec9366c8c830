/-! 05.z: THE JUDGEMENT lz_Z: the machine, at pc with locals lv and stack st (logical values), over the logical memory T A B R -/
def lw_tb2 : List Cond := lw_tbl.filter goodWord
theorem lz_gd : GoodIn lw_tb2 lw_tb2 := fun w hw => ⟨hw, good_of_word (List.mem_filter.mp hw).2⟩
theorem lz_tb2 {w : Cond} (h : w ∈ lw_tbl) (hg : goodWord w = true) : w ∈ lw_tb2 := List.mem_filter.mpr ⟨h, hg⟩
def lz_AA (U : State) : Prop := (Cond.arrayOver (.array .int)).before #[] U = true
theorem lz_AA.spec {U : State} (h : lz_AA U) : ∃ comp c k, U.vm.findClass (FieldType.array .int).toString = some comp ∧ (U.vm.classes.findIdx? fun (x : Class) => match x.kind with | .array component _ => component == comp | _ => false) = some c ∧ U.vm.classes[c]? = some k ∧ k.kind = .array comp (.array .int) ∧ U.vm.findClass ("[" ++ (FieldType.array .int).toString) = some c := by
  unfold lz_AA Cond.before at h
  simp only [Cond.holds, Cond.value, beq_iff_eq] at h
  cases hc : U.vm.findClass (FieldType.array .int).toString with
  | none => simp [hc] at h
  | some comp =>
    simp only [hc, Option.bind_some, Option.bind_eq_some_iff, Option.map_eq_some_iff] at h
    obtain ⟨c, hi, k, hk, hb⟩ := h
    obtain ⟨hlt, hp, -⟩ := Array.findIdx?_eq_some_iff_getElem.mp hi
    have hkk : U.vm.classes[c] = k := (Array.getElem?_eq_some_iff.mp hk).2
    rw [hkk] at hp
    cases hkind : k.kind with
    | array component ty =>
      rw [hkind] at hb hp
      simp at hb hp
      exact ⟨comp, c, k, rfl, hi, hk, by rw [hkind, hp, hb.1], hb.2⟩
    | _ => rw [hkind] at hp; simp at hp
theorem lz_AA.moved {u U : State} (hvm : u.vm.Alike U.vm) (h : lz_AA u) : lz_AA U := by
  obtain ⟨comp, c, k, h1, h2, h3, h4, h5⟩ := h.spec
  obtain ⟨k', hk', he⟩ := hvm.2.2 _ _ h3
  have hi : (U.vm.classes.findIdx? fun (x : Class) => match x.kind with | .array component _ => component == comp | _ => false) = some c := by
    have e1 := va_idx_bare U.vm comp
    have e2 := va_idx_bare u.vm comp
    first | rw [hvm.bare_eq] at e1 | rw [← hvm.bare_eq] at e1
    exact e1.symm.trans (e2.trans h2)
  have hkind : k'.kind = .array comp (.array .int) := by rw [he]; exact h4
  have f1 : U.vm.findClass (FieldType.array .int).toString = some comp := by rw [hvm.findClass]; exact h1
  have f2 : U.vm.findClass ("[" ++ (FieldType.array .int).toString) = some c := by rw [hvm.findClass]; exact h5
  unfold lz_AA Cond.before Cond.holds
  simp only [Cond.value]
  rw [f1, Option.bind_some]
  refine (congrArg (fun o : Option Nat => (o.bind (fun c => (U.vm.classes[c]?).map fun (k : Class) => match k.kind with | .array _ ty => decide (ty = FieldType.array .int) && decide (U.vm.findClass ("[" ++ (FieldType.array .int).toString) = some c) | _ => false) == some true)) hi).trans ?_
  simp [hk', hkind, f2]
def lz_tys (dA : Nat → ClassId) : List (ClassId × FieldType) := [(dA 0, .int), (dA 1, .double), (dA 2, .boolean), (dA 3, .object "CordBay$Row"), (dA 4, .object "CordBay$State"), (dA 5, .object "CordBay$Unit"), (dA 6, .array .int)]
def lz_nests : List (String × Nat × MethodName × String) := [("CordBay", 11, ⟨"CordBay$Rack", "<init>", "()V"⟩, "CordBay"), ("CordBay", 32, ⟨"CordBay$Takes", "<init>", "()V"⟩, "CordBay"), ("CordBay$Unit", 17, ⟨"CordBay$State", "<init>", "()V"⟩, "CordBay"), ("CordBay$Block", 194, ⟨"CordBay", "heldFloating", "(D)D"⟩, "CordBay")]
def lz_NW (s : State) : Prop := ∀ q ∈ lz_nests, va_Nw (.methodLinkNest q.1 q.2.1 q.2.2.1 q.2.2.2) s
def lz_K (D : va_G) (dA : Nat → ClassId) (s : State) : Prop := va_K D vwCl (lz_tys dA) s ∧ va_AO "CordBay$Row" s ∧ va_AO "CordBay$State" s ∧ va_AO "CordBay$Unit" s ∧ lz_AA s ∧ lz_NW s
theorem lz_K.warm {D : va_G} {dA : Nat → ClassId} {u U : State} (hW : u.WarmedH U.vm) (h : lz_K D dA u) : lz_K D dA U := ⟨va_K.moved hW.alike h.1, h.2.1.moved hW.alike, h.2.2.1.moved hW.alike, h.2.2.2.1.moved hW.alike, h.2.2.2.2.1.moved hW.alike, fun q hq => va_Nw.warmM hW (h.2.2.2.2.2 q hq)⟩
theorem lz_K.same {D : va_G} {dA : Nat → ClassId} {u U : State} (hv : u.vm = U.vm) (h : lz_K D dA u) : lz_K D dA U := by
  have ha : u.vm.Alike U.vm := by rw [hv]; exact Vm.Alike.refl U.vm
  exact ⟨va_K.moved ha h.1, h.2.1.moved ha, h.2.2.1.moved ha, h.2.2.2.1.moved ha, h.2.2.2.2.1.moved ha, fun q hq => va_Nw.same rfl hv (h.2.2.2.2.2 q hq)⟩
def lz_ok (T : lz_T) (v : Value) : Prop := ∀ L, v = .ref L → (T L).1 ≠ 0
def lz_oks (T : lz_T) (vs : List Value) : Prop := ∀ v ∈ vs, lz_ok T v
def lz_okl (T : lz_T) (lv : List (Nat × Value)) : Prop := ∀ q ∈ lv, lz_ok T q.2
def lz_E (T0 : lz_T) (ad0 : Nat → Nat) (T : lz_T) (ad : Nat → Nat) : Prop := ∀ L, (T0 L).1 ≠ 0 → T L = T0 L ∧ ad L = ad0 L
theorem lz_E.refl (T : lz_T) (ad : Nat → Nat) : lz_E T ad T ad := fun _ _ => ⟨rfl, rfl⟩
theorem lz_E.trans {T0 T1 T2 : lz_T} {a0 a1 a2 : Nat → Nat} (h : lz_E T0 a0 T1 a1) (g : lz_E T1 a1 T2 a2) : lz_E T0 a0 T2 a2 := fun L hL => by
  obtain ⟨h1, h2⟩ := h L hL
  obtain ⟨g1, g2⟩ := g L (by rw [h1]; exact hL)
  exact ⟨g1.trans h1, g2.trans h2⟩
theorem lz_ok_int (T : lz_T) (x : Int32) : lz_ok T (.int x) := fun _ h => by cases h
theorem lz_ok_long (T : lz_T) (x : Int64) : lz_ok T (.long x) := fun _ h => by cases h
theorem lz_ok_dbl (T : lz_T) (x : UInt64) : lz_ok T (.double x) := fun _ h => by cases h
theorem lz_ok_flt (T : lz_T) (x : UInt32) : lz_ok T (.float x) := fun _ h => by cases h
theorem lz_ok_null (T : lz_T) : lz_ok T .null := fun _ h => by cases h
theorem lz_ok_ref {T : lz_T} {L : Nat} (h : (T L).1 ≠ 0) : lz_ok T (.ref L) := fun _ q => by cases q; exact h
theorem lz_ok_rf {T : lz_T} {q : Option Nat} (h : ∀ L, q = some L → (T L).1 ≠ 0) : lz_ok T (va_rf q) := by
  cases q with
  | none => exact lz_ok_null T
  | some L => exact lz_ok_ref (h L rfl)
theorem lz_oks_cons {T : lz_T} {v : Value} {vs : List Value} : lz_oks T (v :: vs) ↔ lz_ok T v ∧ lz_oks T vs := by
  unfold lz_oks
  exact List.forall_mem_cons
theorem lz_oks_nil (T : lz_T) : lz_oks T [] := fun _ h => absurd h List.not_mem_nil
theorem lz_ok_iv {T T' : lz_T} {ad ad' : Nat → Nat} (hE : lz_E T ad T' ad') {v : Value} (h : lz_ok T v) : lz_iv ad' v = lz_iv ad v := by
  cases v with
  | ref L => exact congrArg Value.ref (hE L (h L rfl)).2
  | _ => rfl
theorem lz_ok_E {T T' : lz_T} {ad ad' : Nat → Nat} (hE : lz_E T ad T' ad') {v : Value} (h : lz_ok T v) : lz_ok T' v := fun L q => by rw [(hE L (h L q)).1]; exact h L q
/-- what holds all through a method's body -/
def lz_C (p : Program) (s : State) (m : MethodId) (args : Array Value) (meth : Method) (c : Code) (D : va_G) (dA : Nat → ClassId) (b : Nat) (y : MethodName) (cc : ByteArray) (nL : Nat) (ret : Option FieldType) : Prop :=
  p.tables.exec = Jvm.exec ∧ c.code = cc ∧ c.maxLocals = nL ∧ s.vm.findClass y.cls = some m.cls ∧ (∀ w ∈ lw_tb2, w.before args s = true) ∧ lz_K D dA s ∧ meth.locks = false ∧ meth.sig.returnType = ret ∧ b ≤ s.heap.size ∧ meth.name = y.name
def lz_lv (ad : Nat → Nat) (lv : List (Nat × Value)) : List (Nat × Value) := lv.map (fun q => (q.1, lz_iv ad q.2))
def lz_Z (p : Program) (l : Launch) (e : Env) (Rm : Room) (s : State) (m : MethodId) (args : Array Value) (below : List Frame) (meth : Method) (c : Code) (D : va_G) (dA : Nat → ClassId) (b nL : Nat) (T0 : lz_T) (ad0 : Nat → Nat) (Q : State → Prop) (kc ks : Nat)
    (T : lz_T) (A : lz_A) (B : lz_B) (R : lz_R) (pc : Nat) (lv : List (Nat × Value)) (st : List Value) : Prop :=
  ∀ (H : Heap) (locs : List Loc) (la : Array Slot) (cells slots : Nat) (ad : Nat → Nat), cells ≤ kc → slots ≤ ks → lz_H D dA b ad T A B R H → lz_E T0 ad0 T ad → va_S (fun q => b ≤ q) s.heap H locs → lv_has la nL (lz_lv ad lv) → lz_okl T lv → lz_oks T st →
    W p l e Rm s m args below meth c H locs cells slots Q (F0 m pc la (st.map (lz_iv ad)))
/-- a method's end, and its start -/
def lz_Qc (D : va_G) (dA : Nat → ClassId) (b : Nat) (T0 : lz_T) (ad0 : Nat → Nat) (Post : Option Value → lz_T → lz_A → lz_B → lz_R → Prop) : Array Value → State → Outcome → State → Prop := fun _ st oc t =>
  (∃ (r : Option Value) (T : lz_T) (A : lz_A) (B : lz_B) (R : lz_R) (ad : Nat → Nat), oc = .returned (r.map (lz_iv ad)) ∧ (∀ v, r = some v → lz_ok T v) ∧ lz_E T0 ad0 T ad ∧ Post r T A B R ∧ lz_H D dA b ad T A B R t.heap) ∧ va_F (fun q => b ≤ q) st t
def lz_Pc (D : va_G) (dA : Nat → ClassId) (b : Nat) (T : lz_T) (ad : Nat → Nat) (A : lz_A) (B : lz_B) (R : lz_R) (av : List Value) : Array Value → State → Prop := fun v U =>
  v = (av.map (lz_iv ad)).toArray ∧ lz_oks T av ∧ lz_H D dA b ad T A B R U.heap ∧ lz_K D dA U ∧ b ≤ U.heap.size
/-- THE CONTRACT of method y: called with av over T A B R it returns, and Post holds of its answer and the memory behind it -/
def lz_M (y : MethodName) (cc : ByteArray) (n : Nat) (ret : Option FieldType) (rm : Room) (av : List Value) (T : lz_T) (A : lz_A) (B : lz_B) (R : lz_R) (Post : Option Value → lz_T → lz_A → lz_B → lz_R → Prop) : Prop :=
  ∀ (l : Launch) (D : va_G) (dA : Nat → ClassId) (b : Nat) (ad : Nat → Nat), Met l y (.code y cc n ret :: lw_tb2) rm (lz_Pc D dA b T ad A B R av) (lz_Qc D dA b T ad Post) rm.cells rm.slots (fun q => b ≤ q)
theorem lz_args (ad : Nat → Nat) : ∀ (av : List Value) (i : Nat), lv_args i (av.map (lz_iv ad)) = lz_lv ad (lv_args i av)
  | [], _ => rfl
  | v :: vs, i => by
    simp only [List.map_cons, lv_args, lz_iv_cat]
    rw [lz_args ad vs]
    rfl
theorem lz_argsl (T : lz_T) : ∀ (av : List Value) (i : Nat), lz_oks T av → lz_okl T (lv_args i av)
  | [], _, _ => fun _ h => absurd h List.not_mem_nil
  | v :: vs, i, h => by
    intro q hq
    rcases List.mem_cons.mp hq with e | e
    · rw [e]; exact h v List.mem_cons_self
    · exact lz_argsl T vs _ (fun x hx => h x (List.mem_cons_of_mem _ hx)) q e
theorem lz_sl_len (ad : Nat → Nat) : ∀ (av : List Value), (lg_sl (av.map (lz_iv ad))).length = (lg_sl av).length
  | [] => rfl
  | v :: vs => by
    have ih := lz_sl_len ad vs
    unfold lg_sl at ih ⊢
    rw [List.map_cons, List.flatMap_cons, List.flatMap_cons, List.length_append, List.length_append, ih]
    congr 1
    cases v <;> rfl
theorem lz_ofW {l : Launch} {y : MethodName} {ws ws' : List Cond} {rm : Room} {Pc : Array Value → State → Prop} {Qc : Array Value → State → Outcome → State → Prop} {mc ms : Nat} {free : Addr → Prop} {cc : ByteArray} {maxL : Nat} {ret : Option FieldType}
    (hy : plainFor y = true) (hw : ws = Cond.code y cc maxL ret :: ws')
    (body : ∀ p e s m args below meth c s₁, BodyLoose p l y (headSpec ws rm) cc maxL ret e s m args below meth c s₁ → c.maxLocals = maxL → Pc args s →
      W p l e (headSpec ws rm).room s m args below meth c s.heap [] 0 0 (MQ below Qc args s mc ms free) (entryFrame m args maxL)) : Met l y ws rm Pc Qc mc ms free := by
  refine MetFree.of_bodySF (code := cc) (maxLocals := maxL) (ret := ret) hy ?_ ?_
  · intro args s m h hn
    obtain ⟨meth, c, h1, h2, h3, h4, h5, h6, -, -⟩ := Cond.code_spec hn (atoms_spec (ws := ws) h _ (by rw [hw]; exact List.mem_cons_self))
    exact ⟨meth, c, h1, h2, h3, h4, h5, h6⟩
  · intro p e s m args below meth c s₁ B hml hP _
    have hh0 : s₁.heap = s.heap := by rw [B.state]; rfl
    obtain ⟨t, a1, o, b1, b2, b3⟩ := body p e s m args below meth c s₁ B hml hP s₁ hh0 (Stand.of_body B)
    exact ⟨t, o, a1, b1, b2, ⟨b3.1, b3.2⟩⟩
theorem lz_enter {y : MethodName} {cc : ByteArray} {n : Nat} {ret : Option FieldType} {rm : Room} {av : List Value} {T : lz_T} {A : lz_A} {B : lz_B} {R : lz_R} {Post : Option Value → lz_T → lz_A → lz_B → lz_R → Prop} (hy : plainFor y = true) (hn : (lg_sl av).length ≤ n)
    (body : ∀ (p : Program) (l : Launch) (e : Env) (s : State) (m : MethodId) (args : Array Value) (below : List Frame) (meth : Method) (c : Code) (D : va_G) (dA : Nat → ClassId) (b : Nat) (ad0 : Nat → Nat), lz_C p s m args meth c D dA b y cc n ret →
      lz_Z p l e rm s m args below meth c D dA b n T ad0 (MQ below (lz_Qc D dA b T ad0 Post) args s rm.cells rm.slots (fun q => b ≤ q)) 0 0 T A B R 0 (lv_args 0 av) []) : lz_M y cc n ret rm av T A B R Post := by
  intro l D dA b ad
  refine lz_ofW (cc := cc) (maxL := n) (ret := ret) hy rfl ?_
  intro p e s m args below meth c s₁ B0 hml hv
  obtain ⟨rfl, hok, hH, hK, hbs⟩ := hv
  have hts := atoms_spec (ws := .code y cc n ret :: lw_tb2) B0.pre
  have hown : s.vm.findClass y.cls = some m.cls := findClass_of_methodNamed B0.named
  have C : lz_C p s m (av.map (lz_iv ad)).toArray meth c D dA b y cc n ret := ⟨B0.exec, B0.bytes, hml, hown, fun w hw => hts w (List.mem_cons_of_mem _ hw), hK, B0.notSynchronized, B0.returns, hbs, (name_of_methodNamed B0.named B0.method).1⟩
  have hl := lv_entry (av.map (lz_iv ad)) (n := n) (by rw [lz_sl_len]; exact hn)
  rw [lg_entry_eq]
  rw [lz_args] at hl
  exact body p l e s m _ below meth c D dA b ad C s.heap [] _ 0 0 ad (Nat.le_refl 0) (Nat.le_refl 0) hH (lz_E.refl T ad) va_S.rf hl (lz_argsl T av 0 hok) (lz_oks_nil T)
