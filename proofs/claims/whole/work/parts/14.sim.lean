/-! 14.sim: what the small machine does, the machine does -/
def xlv : Nat → List xv → List (Nat × Value)
  | _, [] => []
  | i, v :: l => if isX v = true then xlv (i + 1) l else (i, xval v) :: xlv (i + 1) l
def xA (M : xm) : lz_A := fun L k => Int32.ofInt (mA M L k)
def xR (M : xm) : lz_R := fun L k => if mR M L k = 0 then none else some (mR M L k)
def xT (M : xm) : lz_T := fun L => if L % 64 ≠ 0 ∧ L / 274877906944 < mC M (L % 274877906944) then (L % 64, L / 64 % 32768) else (0, 0)
theorem xT_of {M : xm} {L : Nat} (h : (xT M L).1 ≠ 0) : xT M L = (tg L, ln L) := by
  unfold xT at h ⊢
  split at h
  · rename_i hq
    rw [if_pos hq]
    rfl
  · exact absurd rfl h
theorem xval_cat (v : xv) : (xval v).category = if xc2 v = true then 2 else 1 := by
  rcases v with x | x | x | x | x | x
  · rfl
  · rfl
  · rfl
  · rfl
  · show (if x = 0 then Value.null else Value.ref x).category = 1
    split <;> rfl
  · rfl
theorem xval_r {L : Nat} (h : ¬ L = 0) : xval (vR L) = .ref L := if_neg h
theorem xval_0 : xval (vR 0) = .null := rfl
theorem xval_rf (L : Nat) : xval (vR L) = va_rf (if L = 0 then none else some L) := by
  by_cases h : L = 0
  · subst h; rfl
  · rw [xval_r h, if_neg h]; rfl
theorem xlv_ge : ∀ (l : List xv) (i : Nat) (q : Nat × Value), q ∈ xlv i l → i ≤ q.1
  | [], _, _, h => absurd h List.not_mem_nil
  | v :: l, i, q, h => by
    unfold xlv at h
    split at h
    · have := xlv_ge l (i + 1) q h
      omega
    · rcases List.mem_cons.mp h with e | e
      · rw [e]; exact Nat.le_refl _
      · have := xlv_ge l (i + 1) q e
        omega
theorem xlv_at : ∀ (l : List xv) (i k : Nat), isX (gv k l) = false → (i + k, xval (gv k l)) ∈ xlv i l
  | [], _, _, h => by simp [gv, vX, isX] at h
  | v :: l, i, 0, h => by
    unfold xlv
    rw [if_neg (by rw [show isX v = false from h]; simp)]
    exact List.mem_cons_self
  | v :: l, i, k + 1, h => by
    have ih := xlv_at l (i + 1) k h
    rw [show i + 1 + k = i + (k + 1) by omega] at ih
    unfold xlv
    split
    · exact ih
    · exact List.mem_cons_of_mem _ ih
theorem xlv_pos {l : List xv} {k : Nat} (h : isX (gv k l) = false) : ∃ j : Nat, (xlv 0 l)[j]? = some (k, xval (gv k l)) := by
  have := xlv_at l 0 k h
  rw [Nat.zero_add] at this
  exact List.getElem?_of_mem this
theorem xlv_in {v : xv} {l : List xv} {i : Nat} {q : Nat × Value} (h : q ∈ xlv i (v :: l)) : (isX v = false ∧ q = (i, xval v)) ∨ q ∈ xlv (i + 1) l := by
  unfold xlv at h
  split at h
  · exact Or.inr h
  · rename_i hv
    rcases List.mem_cons.mp h with e | e
    · exact Or.inl ⟨by simpa using hv, e⟩
    · exact Or.inr e
theorem xlv_cons {v : xv} {l : List xv} {i : Nat} {q : Nat × Value} (h : q ∈ xlv (i + 1) l) : q ∈ xlv i (v :: l) := by
  unfold xlv
  split
  · exact h
  · exact List.mem_cons_of_mem _ h
theorem xlv_hd {v : xv} {l : List xv} {i : Nat} (h : isX v = false) : (i, xval v) ∈ xlv i (v :: l) := by
  unfold xlv
  rw [if_neg (by rw [h]; simp)]
  exact List.mem_cons_self
theorem cl_in {a : xv} (h : isX (cl a) = false) : xc2 a = false ∧ isX a = false ∧ cl a = a := by
  unfold cl at h ⊢
  split at h
  · simp [vX, isX] at h
  · rename_i hc
    rw [if_neg hc]
    exact ⟨by simpa using hc, h, rfl⟩
theorem lz_p1_i {i : Nat} {q : Nat × Value} (h1 : q.1 ≠ i) (h2 : q.1 + 1 = i → ¬ q.2.category = 2) : lz_p1 i q = true := by
  unfold lz_p1
  by_cases h : q.1 + 1 = i
  · simp [h1, h2 h]
  · simp [h1, h]
theorem lz_p2_i {i : Nat} {q : Nat × Value} (h1 : q.1 ≠ i) (h3 : q.1 ≠ i + 1) (h2 : q.1 + 1 = i → ¬ q.2.category = 2) : lz_p2 i q = true := by
  unfold lz_p2
  by_cases h : q.1 + 1 = i
  · simp [h1, h3, h2 h]
  · simp [h1, h3, h]
theorem xlv_st1 (v : xv) : ∀ (k : Nat) (l : List xv) (i : Nat) (q : Nat × Value), q ∈ xlv i (st1 k v l) → q = (i + k, xval v) ∨ (q ∈ xlv i l ∧ lz_p1 (i + k) q = true)
  | 0, [], _, _, h => absurd h List.not_mem_nil
  | 1, [], _, _, h => absurd h List.not_mem_nil
  | _ + 2, [], _, _, h => absurd h List.not_mem_nil
  | 0, a :: l, i, q, h => by
    rcases xlv_in (show q ∈ xlv i (v :: l) from h) with ⟨_, e⟩ | e
    · exact Or.inl e
    · have := xlv_ge _ _ _ e
      exact Or.inr ⟨xlv_cons e, lz_p1_i (by omega) (by omega)⟩
  | 1, a :: l, i, q, h => by
    rcases xlv_in (show q ∈ xlv i (cl a :: st1 0 v l) from h) with ⟨hx, e⟩ | e
    · obtain ⟨h1, h2, h3⟩ := cl_in hx
      rw [h3] at e
      subst e
      refine Or.inr ⟨xlv_hd h2, lz_p1_i (by show i ≠ i + 1; omega) (fun _ => ?_)⟩
      rw [xval_cat, h1]
      decide
    · rcases xlv_st1 v 0 l (i + 1) q e with r | ⟨r1, r2⟩
      · exact Or.inl r
      · exact Or.inr ⟨xlv_cons r1, r2⟩
  | k + 2, a :: l, i, q, h => by
    rcases xlv_in (show q ∈ xlv i (a :: st1 (k + 1) v l) from h) with ⟨hx, e⟩ | e
    · subst e
      exact Or.inr ⟨xlv_hd hx, lz_p1_i (by show i ≠ i + (k + 2); omega) (fun z => by have z : i + 1 = i + (k + 2) := z; omega)⟩
    · rcases xlv_st1 v (k + 1) l (i + 1) q e with r | ⟨r1, r2⟩
      · rw [show i + 1 + (k + 1) = i + (k + 2) by omega] at r
        exact Or.inl r
      · rw [show i + 1 + (k + 1) = i + (k + 2) by omega] at r2
        exact Or.inr ⟨xlv_cons r1, r2⟩
theorem xlv_st2 (v : xv) : ∀ (k : Nat) (l : List xv) (i : Nat) (q : Nat × Value), q ∈ xlv i (st2 k v l) → q = (i + k, xval v) ∨ (q ∈ xlv i l ∧ lz_p2 (i + k) q = true)
  | 0, [], _, _, h => absurd h List.not_mem_nil
  | 0, [_], _, _, h => absurd h List.not_mem_nil
  | 1, [], _, _, h => absurd h List.not_mem_nil
  | _ + 2, [], _, _, h => absurd h List.not_mem_nil
  | 0, a :: a2 :: l, i, q, h => by
    rcases xlv_in (show q ∈ xlv i (v :: vX :: l) from h) with ⟨_, e⟩ | e
    · exact Or.inl e
    · rcases xlv_in e with ⟨h0, _⟩ | e
      · simp [vX, isX] at h0
      · have := xlv_ge _ _ _ e
        exact Or.inr ⟨xlv_cons (xlv_cons e), lz_p2_i (by omega) (by omega) (by omega)⟩
  | 1, a :: l, i, q, h => by
    have h : q ∈ xlv i (cl a :: st2 0 v l) := by
      cases l <;> exact h
    rcases xlv_in h with ⟨hx, e⟩ | e
    · obtain ⟨h1, h2, h3⟩ := cl_in hx
      rw [h3] at e
      subst e
      refine Or.inr ⟨xlv_hd h2, lz_p2_i (by show i ≠ i + 1; omega) (by show i ≠ i + 1 + 1; omega) (fun _ => ?_)⟩
      rw [xval_cat, h1]
      decide
    · rcases xlv_st2 v 0 l (i + 1) q e with r | ⟨r1, r2⟩
      · exact Or.inl r
      · exact Or.inr ⟨xlv_cons r1, r2⟩
  | k + 2, a :: l, i, q, h => by
    have h : q ∈ xlv i (a :: st2 (k + 1) v l) := by
      cases l <;> exact h
    rcases xlv_in h with ⟨hx, e⟩ | e
    · subst e
      exact Or.inr ⟨xlv_hd hx, lz_p2_i (by show i ≠ i + (k + 2); omega) (by show i ≠ i + (k + 2) + 1; omega) (fun z => by have z : i + 1 = i + (k + 2) := z; omega)⟩
    · rcases xlv_st2 v (k + 1) l (i + 1) q e with r | ⟨r1, r2⟩
      · rw [show i + 1 + (k + 1) = i + (k + 2) by omega] at r
        exact Or.inl r
      · rw [show i + 1 + (k + 1) = i + (k + 2) by omega] at r2
        exact Or.inr ⟨xlv_cons r1, r2⟩
theorem xlv_s1 {k : Nat} {v : xv} {l : List xv} : ∀ q ∈ xlv 0 (st1 k v l), q ∈ (k, xval v) :: (xlv 0 l).filter (lz_p1 k) := fun q hq => by
  rcases xlv_st1 v k l 0 q hq with e | ⟨e1, e2⟩
  · rw [Nat.zero_add] at e
    rw [e]
    exact List.mem_cons_self
  · rw [Nat.zero_add] at e2
    exact List.mem_cons_of_mem _ (List.mem_filter.mpr ⟨e1, e2⟩)
theorem xlv_s2 {k : Nat} {v : xv} {l : List xv} : ∀ q ∈ xlv 0 (st2 k v l), q ∈ (k, xval v) :: (xlv 0 l).filter (lz_p2 k) := fun q hq => by
  rcases xlv_st2 v k l 0 q hq with e | ⟨e1, e2⟩
  · rw [Nat.zero_add] at e
    rw [e]
    exact List.mem_cons_self
  · rw [Nat.zero_add] at e2
    exact List.mem_cons_of_mem _ (List.mem_filter.mpr ⟨e1, e2⟩)
theorem xlv_rep : ∀ (n i : Nat), xlv i (List.replicate n vX) = []
  | 0, _ => rfl
  | n + 1, i => by
    rw [List.replicate_succ]
    unfold xlv
    rw [if_pos (show isX vX = true from rfl)]
    exact xlv_rep n (i + 1)
theorem xlv_args : ∀ (av : List xv) (i n : Nat), ∀ q ∈ xlv i (xfl av ++ List.replicate n vX), q ∈ lv_args i (av.map xval)
  | [], i, n, q, h => by
    rw [show xfl [] ++ List.replicate n vX = List.replicate n vX from rfl, xlv_rep] at h
    exact absurd h List.not_mem_nil
  | v :: l, i, n, q, h => by
    rw [List.map_cons]
    unfold lv_args
    rw [xval_cat]
    unfold xfl at h
    by_cases hc : xc2 v = true
    · rw [if_pos hc] at h
      rw [if_pos hc, if_pos rfl]
      rcases xlv_in h with ⟨_, e⟩ | e
      · rw [e]; exact List.mem_cons_self
      · rcases xlv_in e with ⟨h0, _⟩ | e
        · simp [vX, isX] at h0
        · exact List.mem_cons_of_mem _ (xlv_args l (i + 2) n q e)
    · rw [if_neg hc] at h
      rw [if_neg hc, if_neg (by decide)]
      rcases xlv_in h with ⟨_, e⟩ | e
      · rw [e]; exact List.mem_cons_self
      · exact List.mem_cons_of_mem _ (xlv_args l (i + 1) n q e)
theorem xfl_len : ∀ av : List xv, (lg_sl (av.map xval)).length = (xfl av).length
  | [] => rfl
  | v :: l => by
    have ih := xfl_len l
    unfold lg_sl at ih ⊢
    rw [List.map_cons, List.flatMap_cons, List.length_append, ih, xval_cat, show xfl (v :: l) = if xc2 v = true then v :: vX :: xfl l else v :: xfl l from rfl]
    by_cases hc : xc2 v = true
    · rw [if_pos hc, if_pos hc, if_pos rfl, List.length_cons, List.length_cons, List.length_cons, List.length_cons, List.length_nil]
      omega
    · rw [if_neg hc, if_neg hc, if_neg (by decide), List.length_cons, List.length_cons, List.length_nil]
      omega
theorem cs_sum : ∀ st : List xv, ((st.map xval).map fun v => v.category).sum = cs st
  | [] => rfl
  | v :: l => by
    rw [List.map_cons, List.map_cons, List.sum_cons, cs_sum l, xval_cat]
    rfl
theorem xtk_st : ∀ (n : Nat) (acc st a r : List xv), xtk n acc st = some (a, r) → acc.reverse ++ st = a.reverse ++ r ∧ a.length = acc.length + n
  | 0, acc, st, a, r, h => by
    cases h
    exact ⟨rfl, rfl⟩
  | n + 1, acc, [], a, r, h => by cases h
  | n + 1, acc, v :: st, a, r, h => by
    obtain ⟨h1, h2⟩ := xtk_st n (v :: acc) st a r h
    refine ⟨?_, by rw [h2, List.length_cons]; omega⟩
    rw [← h1]
    simp
/-! numbers -/
theorem wr_eq (x : Int) : (Int32.ofInt x).toInt = wr x := by
  rw [Int32.toInt_ofInt]
  unfold wr
  show Int.bmod x 4294967296 = _
  rw [Int.bmod_def]
  split <;> omega
theorem w64_eq (x : Int) : (Int64.ofInt x).toInt = w64 x := by
  rw [Int64.toInt_ofInt]
  unfold w64
  show Int.bmod x 18446744073709551616 = _
  rw [Int.bmod_def]
  split <;> omega
theorem xvt (x : Int32) : xval (vI x.toInt) = .int x := by
  show Value.int (Int32.ofInt x.toInt) = _
  rw [Int32.ofInt_toInt]
theorem xvtJ (x : Int64) : xval (vJ x.toInt) = .long x := by
  show Value.long (Int64.ofInt x.toInt) = _
  rw [Int64.ofInt_toInt]
theorem wr_lt (a b : Int) : (Int32.ofInt a < Int32.ofInt b) ↔ wr a < wr b := by rw [← wr_eq, ← wr_eq]; exact Int32.lt_iff_toInt_lt
theorem wr_le (a b : Int) : (Int32.ofInt a ≤ Int32.ofInt b) ↔ wr a ≤ wr b := by rw [← wr_eq, ← wr_eq]; exact Int32.le_iff_toInt_le
theorem wr_eqi (a b : Int) : (Int32.ofInt a = Int32.ofInt b) ↔ wr a = wr b := by rw [← wr_eq, ← wr_eq]; exact Int32.toInt_inj.symm
theorem wr_0 : wr 0 = 0 := by decide
theorem xrem {a b : Int} : Int32.ofInt a - Int32.ofInt a / Int32.ofInt b * Int32.ofInt b = Int32.ofInt ((wr a).tmod (wr b)) := by
  rw [← wr_eq a, ← wr_eq b, ← rem_toInt, Int32.ofInt_toInt]
theorem xdivJ {a b : Int} : Int64.ofInt a / Int64.ofInt b = Int64.ofInt ((w64 a).tdiv (w64 b)) := by
  apply Int64.toInt_inj.mp
  rw [Int64.toInt_div, w64_eq a, w64_eq b, Int64.toInt_ofInt]
theorem xcmpJ {a b : Int} : lg_cmp (Int64.ofInt a) (Int64.ofInt b) = Int32.ofInt (xlcmp (w64 a) (w64 b)) := by
  unfold lg_cmp xlcmp
  have h1 : (Int64.ofInt a > Int64.ofInt b) ↔ w64 b < w64 a := by rw [← w64_eq, ← w64_eq]; exact Int64.lt_iff_toInt_lt
  have h2 : (Int64.ofInt a = Int64.ofInt b) ↔ w64 a = w64 b := by rw [← w64_eq, ← w64_eq]; exact Int64.toInt_inj.symm
  by_cases c1 : w64 b < w64 a
  · rw [if_pos (h1.mpr c1), if_neg (by omega), if_neg (by omega)]
    rfl
  · rw [if_neg (fun z => c1 (h1.mp z))]
    by_cases c2 : w64 a = w64 b
    · rw [if_pos (h2.mpr c2), if_neg (by omega), if_pos c2]
      rfl
    · rw [if_neg (fun z => c2 (h2.mp z)), if_pos (by omega)]
      rfl
theorem n64_of {x : UInt64} (h : isNaN64 x = false) : vf_n64 x := by
  unfold isNaN64 at h
  unfold vf_n64
  simpa using h
theorem n32_of {x : UInt32} (h : isNaN32 x = false) : vf_n32 x := by
  unfold isNaN32 at h
  unfold vf_n32
  simpa using h
theorem xi2l (a : Int) : (Int32.ofInt a).toInt64 = Int64.ofInt (wr a) := by
  rw [← wr_eq]
  apply Int64.toInt_inj.mp
  rw [Int32.toInt_toInt64, w64_eq]
  have := Int32.toInt_lt (Int32.ofInt a)
  have := Int32.le_toInt (Int32.ofInt a)
  unfold w64
  omega
theorem xl2i (a : Int) : (Int64.ofInt a).toInt32 = Int32.ofInt a := by
  apply Int32.toInt_inj.mp
  rw [Int64.toInt_toInt32, w64_eq, Int32.toInt_ofInt]
  show Int.bmod _ 4294967296 = Int.bmod _ 4294967296
  rw [Int.bmod_def, Int.bmod_def]
  unfold w64
  split <;> split <;> omega
theorem xnI {i : Int} (h0 : 0 ≤ wr i) : Int32.ofInt i = nI (wr i).toNat := by
  apply Int32.toInt_inj.mp
  have h1 : wr i < 2147483648 := by unfold wr; omega
  rw [nI_toInt (by omega), wr_eq]
  omega
theorem wr_ltz (a : Int) : (Int32.ofInt a < 0) ↔ wr a < 0 := by have h := wr_lt a 0; rwa [wr_0] at h
theorem wr_lez (a : Int) : (Int32.ofInt a ≤ 0) ↔ wr a ≤ 0 := by have h := wr_le a 0; rwa [wr_0] at h
theorem wr_gtz (a : Int) : (0 < Int32.ofInt a) ↔ 0 < wr a := by have h := wr_lt 0 a; rwa [wr_0] at h
theorem wr_gez (a : Int) : (0 ≤ Int32.ofInt a) ↔ 0 ≤ wr a := by have h := wr_le 0 a; rwa [wr_0] at h
theorem wr_eqz (a : Int) : (Int32.ofInt a = 0) ↔ wr a = 0 := by have h := wr_eqi a 0; rwa [wr_0] at h
theorem xT_tag {M : xm} {L t : Nat} (h : lz_ok (xT M) (xval (vR L))) (ht : tg L = t) (h0 : ¬ t = 0) : xT M L = (t, ln L) := by
  have hL : ¬ L = 0 := fun z => h0 (by rw [← ht, z]; rfl)
  rw [xval_r hL] at h
  rw [xT_of (h L rfl), ht]
theorem wr_of (x : Int) : Int32.ofInt (wr x) = Int32.ofInt x := by rw [← wr_eq, Int32.ofInt_toInt]
