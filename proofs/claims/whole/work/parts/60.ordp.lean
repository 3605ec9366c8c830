/-! 60.ordp: the order as a list: every module is there, where no loop passes by all DELAYS -/
theorem pgn : ∀ (n : Nat) (L : List Int), (∀ m : Int, 0 ≤ m → m < n → m ∈ L) → n ≤ L.length
  | 0, _, _ => Nat.zero_le _
  | n + 1, L, h => by
    have ih := pgn n (L.filter (fun x => decide (¬ x = (n : Int)))) (fun m a b => by
      rw [List.mem_filter]
      exact ⟨h m a (by omega), decide_eq_true (by omega)⟩)
    have h2 : (L.filter (fun x => decide (¬ x = (n : Int)))).length < L.length := List.length_filter_lt_length_iff_exists.mpr ⟨(n : Int), h n (by omega) (by omega), by simp⟩
    omega
theorem dlL_mem (kd : Nat → Int) (x : Int) : ∀ n : Nat, x ∈ dlL kd n ↔ 0 ≤ x ∧ x < n ∧ kd x.toNat = 6
  | 0 => by
    unfold dlL
    simp
    omega
  | n + 1 => by
    have ih := dlL_mem kd x n
    unfold dlL
    by_cases c : kd n = 6
    · rw [if_pos c, List.mem_append, ih, List.mem_singleton]
      constructor
      · rintro (⟨a, b, d⟩ | rfl)
        · exact ⟨a, by omega, d⟩
        · exact ⟨by omega, by omega, c⟩
      · rintro ⟨a, b, d⟩
        by_cases e : x = n
        · exact Or.inr e
        · exact Or.inl ⟨a, by omega, d⟩
    · rw [if_neg c, ih]
      constructor
      · rintro ⟨a, b, d⟩
        exact ⟨a, by omega, d⟩
      · rintro ⟨a, b, d⟩
        refine ⟨a, ?_, d⟩
        by_cases e : x = n
        · rw [e] at d
          exact absurd d c
        · omega
/-- cords come from modules; those of no DELAY, from DELAYS or from lower ranks -/
def noLp (C : Nat → Nat → Int) (N : Int) (rk : Int → Nat) : Prop := ∀ m i : Int, 0 ≤ m → m < N → 0 ≤ i → i ≤ 2 → C amCo (3 * m + i).toNat ≤ N ∧ (¬ C amKd m.toNat = 6 → 1 ≤ C amCo (3 * m + i).toNat → C amKd (C amCo (3 * m + i).toNat - 1).toNat = 6 ∨ rk (C amCo (3 * m + i).toNat - 1) < rk m)
theorem or_tt {a b : Bool} : (a || b) = true ↔ a = true ∨ b = true := by cases a <;> cases b <;> simp
theorem rd_ex {C : Nat → Nat → Int} {N : Int} {rk : Int → Nat} {L : List Int} (h : noLp C N rk) (hd : ∀ m : Int, 0 ≤ m → m < N → C amKd m.toNat = 6 → m ∈ L) : ∀ (r : Nat) (m : Int), rk m ≤ r → 0 ≤ m → m < N → ¬ m ∈ L → ∃ m', 0 ≤ m' ∧ m' < N ∧ rdB C L m' = true := by
  have one : ∀ (m : Int), 0 ≤ m → m < N → ¬ m ∈ L → (∀ o : Int, 0 ≤ o → o < N → rk o < rk m → o ∈ L) → rdB C L m = true := fun m a b c g => by
    have k6 : ¬ C amKd m.toNat = 6 := fun q => c (hd m a b q)
    have in1 : ∀ i : Int, 0 ≤ i → i ≤ 2 → (decide (C amCo (3 * m + i).toNat - 1 < 0) || L.contains (C amCo (3 * m + i).toNat - 1)) = true := fun i i0 i1 => by
      rw [or_tt]
      by_cases c1 : C amCo (3 * m + i).toNat - 1 < 0
      · exact Or.inl (decide_eq_true c1)
      · obtain ⟨g1, g2⟩ := h m i a b i0 i1
        refine Or.inr (List.contains_iff_mem.mpr ?_)
        rcases g2 k6 (by omega) with e | e
        · exact hd _ (by omega) (by omega) e
        · exact g _ (by omega) (by omega) e
    have i0 := in1 0 (by omega) (by omega)
    rw [show 3 * m + 0 = 3 * m by omega] at i0
    have e3 : (decide (m < 0) || L.contains m) = false := by
      rw [Bool.eq_false_iff, Ne, or_tt]
      rintro (q | q)
      · have := of_decide_eq_true q
        omega
      · exact c (List.contains_iff_mem.mp q)
    unfold rdB
    rw [i0, in1 1 (by omega) (by omega), in1 2 (by omega) (by omega), e3]
    rfl
  intro r
  induction r with
  | zero =>
    intro m hr a b c
    exact ⟨m, a, b, one m a b c (fun o _ _ q => by omega)⟩
  | succ r ih =>
    intro m hr a b c
    by_cases e : ∃ o : Int, 0 ≤ o ∧ o < N ∧ rk o < rk m ∧ ¬ o ∈ L
    · obtain ⟨o, o0, o1, o2, o3⟩ := e
      exact ih o (by omega) o0 o1 o3
    · exact ⟨m, a, b, one m a b c (fun o o0 o1 q => Decidable.byContradiction (fun z => e ⟨o, o0, o1, q, z⟩))⟩
theorem lrF_ok {C : Nat → Nat → Int} {L : List Int} : ∀ (d : Nat) (k : Int), (∃ m, k ≤ m ∧ m < k + d ∧ rdB C L m = true) → k ≤ lrF C L d k ∧ lrF C L d k < k + d ∧ rdB C L (lrF C L d k) = true
  | 0, k, ⟨m, a, b, _⟩ => by omega
  | d + 1, k, ⟨m, a, b, c⟩ => by
    unfold lrF
    by_cases e : rdB C L k = true
    · rw [if_pos e]
      exact ⟨by omega, by omega, e⟩
    · rw [if_neg e]
      have hne : ¬ m = k := fun q => e (by rw [← q]; exact c)
      obtain ⟨g1, g2, g3⟩ := lrF_ok d (k + 1) ⟨m, by omega, by omega, c⟩
      exact ⟨by omega, by omega, g3⟩
theorem orF_ok {C : Nat → Nat → Int} {N : Int} {rk : Int → Nat} (h : noLp C N rk) : ∀ (d : Nat) (L : List Int), (L.length : Int) + d = N → (∀ x, x ∈ L → 0 ≤ x ∧ x < N) → (∀ m : Int, 0 ≤ m → m < N → C amKd m.toNat = 6 → m ∈ L) → ((orF C N d L).length : Int) = N ∧ ∀ x, x ∈ orF C N d L → 0 ≤ x ∧ x < N
  | 0, L, hl, hx, _ => ⟨by unfold orF; omega, hx⟩
  | d + 1, L, hl, hx, hd => by
    have ex : ∃ m : Int, 0 ≤ m ∧ m < N ∧ ¬ m ∈ L := Classical.byContradiction (fun q => by
      have g := pgn N.toNat L (fun m a b => Classical.byContradiction (fun z => q ⟨m, a, by omega, z⟩))
      omega)
    obtain ⟨m, a, b, c⟩ := ex
    obtain ⟨m', a', b', c'⟩ := rd_ex h hd (rk m) m (Nat.le_refl _) a b c
    obtain ⟨g1, g2, g3⟩ := lrF_ok (C := C) (L := L) N.toNat 0 ⟨m', a', by omega, c'⟩
    unfold orF
    refine orF_ok h d _ (by rw [List.length_append]; show ((L.length + 1 : Nat) : Int) + d = N; omega) (fun x q => ?_) (fun m a b c => List.mem_append.mpr (Or.inl (hd m a b c)))
    rcases List.mem_append.mp q with q | q
    · exact hx x q
    · rw [List.mem_singleton.mp q]
      omega
theorem ordL_ok {C : Nat → Nat → Int} {N : Int} {rk : Int → Nat} (h : noLp C N rk) (hN : 0 ≤ N) : ((ordL C N).length : Int) = N ∧ ∀ x, x ∈ ordL C N → 0 ≤ x ∧ x < N := by
  have hl := dlL_le (C amKd) N.toNat
  refine orF_ok h _ _ (by omega) (fun x q => ?_) (fun m a b c => (dlL_mem _ _ _).mpr ⟨a, by omega, c⟩)
  obtain ⟨a, b, _⟩ := (dlL_mem _ _ _).mp q
  omega
theorem ordL_at {C : Nat → Nat → Int} {N : Int} {rk : Int → Nat} (h : noLp C N rk) (hN : 0 ≤ N) (i : Nat) (hi : (i : Int) < N) : 0 ≤ (ordL C N).getD i 0 ∧ (ordL C N).getD i 0 < N := by
  obtain ⟨h1, h2⟩ := ordL_ok h hN
  refine h2 _ ?_
  rw [List.getD_eq_getElem?_getD, List.getElem?_eq_getElem (by omega)]
  exact List.getElem_mem _
theorem noLp_self {C : Nat → Nat → Int} {N : Int} {rk : Int → Nat} (h : noLp C N rk) (m : Int) (h0 : 0 ≤ m) (hm : m < N) (hk : ¬ C amKd m.toNat = 6) : ¬ C amCo (3 * m).toNat = m + 1 := fun q => by
  have g := (h m 0 h0 hm (by omega) (by omega)).2 hk
  rw [show 3 * m + 0 = 3 * m by omega, q, show m + 1 - 1 = m by omega] at g
  rcases g (by omega) with e | e
  · exact hk e
  · exact absurd e (Nat.lt_irrefl _)
theorem orF_c {C C' : Nat → Nat → Int} (h : ∀ j, C' amCo j = C amCo j) (N : Int) : ∀ (d : Nat) (L : List Int), orF C' N d L = orF C N d L
  | 0, _ => rfl
  | d + 1, L => by
    unfold orF
    rw [lrF_c h, orF_c h N d]
theorem dlL_c {f g : Nat → Int} (h : ∀ j, f j = g j) : ∀ n, dlL f n = dlL g n
  | 0 => rfl
  | n + 1 => by
    unfold dlL
    rw [h, dlL_c h n]
theorem ordL_c {C C' : Nat → Nat → Int} (h : ∀ j, C' amCo j = C amCo j) (h2 : ∀ j, C' amKd j = C amKd j) (N : Int) : ordL C' N = ordL C N := by
  unfold ordL
  rw [dlL_c h2, orF_c h]
