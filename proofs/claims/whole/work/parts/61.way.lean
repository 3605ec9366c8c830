/-! 61.way: how far: level by level -/
def anyB (p : Int → Bool) : Nat → Bool
  | 0 => false
  | k + 1 => anyB p k || p k
theorem anyB_iff (p : Int → Bool) : ∀ k : Nat, anyB p k = true ↔ ∃ a : Int, 0 ≤ a ∧ a < k ∧ p a = true
  | 0 => ⟨fun h => absurd h (by simp [anyB]), fun ⟨a, b, c, _⟩ => by omega⟩
  | k + 1 => by
    unfold anyB
    rw [or_tt, anyB_iff p k]
    constructor
    · rintro (⟨a, b, c, d⟩ | h)
      · exact ⟨a, b, by omega, d⟩
      · exact ⟨k, by omega, by omega, h⟩
    · rintro ⟨a, b, c, d⟩
      by_cases e : a = k
      · exact Or.inr (by rw [← e]; exact d)
      · exact Or.inl ⟨a, b, by omega, d⟩
def ldB (C : Nat → Nat → Int) (a b : Int) : Bool := decide (C amCo (3 * b).toNat = a + 1 ∨ C amCo (3 * b + 1).toNat = a + 1 ∨ C amCo (3 * b + 2).toNat = a + 1)
/-- level n, those below k looked at -/
def lvP (C : Nat → Nat → Int) (n : Int) (f : Int → Int) (k : Nat) (b : Int) : Int := if f b = 0 ∧ ¬ C amKd b.toNat = 6 ∧ anyB (fun a => decide (f a = n) && ldB C a b) k = true then n + 1 else f b
theorem lvP_0 (C : Nat → Nat → Int) (n : Int) (f : Int → Int) (b : Int) : lvP C n f 0 b = f b := by
  unfold lvP
  rw [if_neg (fun q => absurd q.2.2 (by simp [anyB]))]
theorem lvP_n {C : Nat → Nat → Int} {n : Int} {f : Int → Int} {k : Nat} (h : ¬ f k = n) (b : Int) : lvP C n f (k + 1) b = lvP C n f k b := by
  unfold lvP
  rw [anyB, decide_eq_false h, Bool.false_and, Bool.or_false]
theorem lvP_s {C : Nat → Nat → Int} {n : Int} {f : Int → Int} {k : Nat} (hn : 1 ≤ n) (h : f k = n) (b : Int) : lvP C n f (k + 1) b = if lvP C n f k b = 0 ∧ ¬ C amKd b.toNat = 6 ∧ ldB C k b = true then n + 1 else lvP C n f k b := by
  unfold lvP
  rw [anyB, decide_eq_true h, Bool.true_and]
  by_cases c0 : f b = 0
  · by_cases c6 : C amKd b.toNat = 6
    · rw [if_neg (fun q => q.2.1 c6), if_neg (fun q => q.2.1 c6), if_neg (fun q => q.2.1 c6)]
    · cases ea : anyB (fun a => decide (f a = n) && ldB C a b) k
      · rw [if_neg (show ¬ (f b = 0 ∧ ¬ C amKd b.toNat = 6 ∧ false = true) from fun q => absurd q.2.2 (by decide)), Bool.false_or]
      · rw [Bool.true_or, if_pos ⟨c0, c6, rfl⟩, if_neg (by omega)]
  · simp only [c0, false_and, if_false]
theorem lvP_a {C : Nat → Nat → Int} {n : Int} {f : Int → Int} {k : Nat} {a : Int} (hn : 1 ≤ n) : lvP C n f k a = n ↔ f a = n := by
  unfold lvP
  split
  · constructor
    · intro h; omega
    · intro h; omega
  · exact Iff.rfl
/-- levels n, n + 1 .. (d of them), as long as it isn't reached -/
def wyF (C : Nat → Nat → Int) (N o : Int) : Nat → Int → (Int → Int) → Int → Int
  | 0, _, f => f
  | d + 1, n, f => if f o = 0 then wyF C N o d (n + 1) (lvP C n f N.toNat) else f
def f1 (m : Int) (b : Int) : Int := if b = m then 1 else 0
/-- what counts of it -/
def lvI (N n : Int) (f : Int → Int) : Prop := 1 ≤ n ∧ (∀ a, 0 ≤ a → a < N → 0 ≤ f a ∧ f a ≤ n) ∧ ((∃ a, 0 ≤ a ∧ a < N ∧ f a = n) → ∀ k, 1 ≤ k → k ≤ n → ∃ a, 0 ≤ a ∧ a < N ∧ f a = k)
theorem pgv {N : Int} {f : Int → Int} (hN : 0 ≤ N) (n : Nat) (h : ∀ v : Int, 0 ≤ v → v < n → ∃ a, 0 ≤ a ∧ a < N ∧ f a = v) : (n : Int) ≤ N := by
  have g := pgn n ((List.range N.toNat).map (fun i : Nat => f (i : Int))) (fun v a b => by
    obtain ⟨x, x0, x1, x2⟩ := h v a b
    refine List.mem_map.mpr ⟨x.toNat, List.mem_range.mpr (by omega), ?_⟩
    rw [show ((x.toNat : Nat) : Int) = x by omega]
    exact x2)
  rw [List.length_map, List.length_range] at g
  omega
theorem lvP_in {C : Nat → Nat → Int} {n : Int} {f : Int → Int} {k : Nat} {b : Int} (h : ¬ lvP C n f k b = f b) : lvP C n f k b = n + 1 ∧ f b = 0 ∧ ∃ a : Int, 0 ≤ a ∧ a < k ∧ f a = n := by
  unfold lvP at h ⊢
  by_cases c : f b = 0 ∧ ¬ C amKd b.toNat = 6 ∧ anyB (fun a => decide (f a = n) && ldB C a b) k = true
  · rw [if_pos c]
    obtain ⟨a, a0, a1, a2⟩ := (anyB_iff _ k).mp c.2.2
    have a3 := (Bool.and_eq_true_iff.mp a2).1
    exact ⟨rfl, c.1, a, a0, a1, of_decide_eq_true a3⟩
  · rw [if_neg c] at h
    exact absurd rfl h
theorem lvI_s {C : Nat → Nat → Int} {N n : Int} {f : Int → Int} (hN : 0 ≤ N) (h : lvI N n f) : lvI N (n + 1) (lvP C n f N.toNat) := by
  obtain ⟨h1, h2, h3⟩ := h
  refine ⟨by omega, fun a a0 a1 => ?_, fun ⟨a, a0, a1, a2⟩ k k0 k1 => ?_⟩
  · by_cases c : lvP C n f N.toNat a = f a
    · rw [c]
      have := h2 a a0 a1
      omega
    · rw [(lvP_in c).1]
      omega
  · by_cases e : k = n + 1
    · exact ⟨a, a0, a1, by rw [a2, e]⟩
    · have hne : ¬ lvP C n f N.toNat a = f a := fun q => by
        have := h2 a a0 a1
        omega
      obtain ⟨_, _, x, x0, x1, x2⟩ := lvP_in hne
      obtain ⟨y, y0, y1, y2⟩ := h3 ⟨x, x0, by omega, x2⟩ k k0 (by omega)
      refine ⟨y, y0, y1, ?_⟩
      by_cases c : lvP C n f N.toNat y = f y
      · rw [c]; exact y2
      · have := (lvP_in c).2.1
        omega
theorem lv_id {C : Nat → Nat → Int} {N n : Int} {f : Int → Int} (hN : 0 ≤ N) (h : lvI N n f) (hn : N ≤ n) {b : Int} (b0 : 0 ≤ b) (b1 : b < N) : lvP C n f N.toNat b = f b := by
  refine Decidable.byContradiction (fun c => ?_)
  obtain ⟨_, e0, x, x0, x1, x2⟩ := lvP_in c
  have g := pgv (f := f) hN (n + 1).toNat (fun v v0 v1 => by
    by_cases e : v = 0
    · exact ⟨b, b0, b1, by rw [e]; exact e0⟩
    · exact h.2.2 ⟨x, x0, by omega, x2⟩ v (by omega) (by omega))
  have := h.1
  omega
theorem wy_id {C : Nat → Nat → Int} {N o : Int} (hN : 0 ≤ N) (ho : 0 ≤ o ∧ o < N) : ∀ (d : Nat) (n : Int) (f : Int → Int), lvI N n f → N ≤ n → wyF C N o d n f o = f o
  | 0, _, _, _, _ => rfl
  | d + 1, n, f, h, hn => by
    unfold wyF
    split
    · rw [wy_id hN ho d (n + 1) _ (lvI_s hN h) (by omega), lv_id hN h hn ho.1 ho.2]
    · rfl
theorem wy_eq {C : Nat → Nat → Int} {N o : Int} (hN : 0 ≤ N) (ho : 0 ≤ o ∧ o < N) (d2 : Nat) : ∀ (d : Nat) (n : Int) (f : Int → Int), lvI N n f → n + d = N → wyF C N o (d + d2) n f o = wyF C N o d n f o
  | 0, n, f, h, hn => by rw [Nat.zero_add, wy_id hN ho d2 n f h (by omega)]; rfl
  | d + 1, n, f, h, hn => by
    rw [show d + 1 + d2 = (d + d2) + 1 by omega, wyF, wyF]
    split
    · exact wy_eq hN ho d2 d (n + 1) _ (lvI_s hN h) (by omega)
    · rfl
theorem lvI_1 {N m : Int} (hm : 0 ≤ m ∧ m < N) : lvI N 1 (f1 m) := by
  refine ⟨by omega, fun a _ _ => by unfold f1; split <;> omega, fun h k k0 k1 => ?_⟩
  rw [show k = 1 by omega]
  exact h
/-- those that are nearer than n lead to such as are reached -/
def lvC (C : Nat → Nat → Int) (N n : Int) (f : Int → Int) : Prop := ∀ a b, 0 ≤ a → a < N → 0 ≤ b → b < N → 1 ≤ f a → f a < n → ldB C a b = true → ¬ C amKd b.toNat = 6 → ¬ f b = 0
theorem lvC_s {C : Nat → Nat → Int} {N n : Int} {f : Int → Int} (hN : 0 ≤ N) (h : lvI N n f) (hc : lvC C N n f) : lvC C N (n + 1) (lvP C n f N.toNat) := fun a b a0 a1 b0 b1 c1 c2 hl h6 => by
  have hn := h.1
  have ea : lvP C n f N.toNat a = f a := Decidable.byContradiction (fun z => by have := (lvP_in z).1; omega)
  rw [ea] at c1 c2
  by_cases e : f b = 0
  · have hx : ¬ f a < n := fun z => hc a b a0 a1 b0 b1 c1 z hl h6 e
    unfold lvP
    rw [if_pos ⟨e, h6, (anyB_iff _ _).mpr ⟨a, a0, by omega, by rw [decide_eq_true (show f a = n by omega), hl]; rfl⟩⟩]
    omega
  · unfold lvP
    rw [if_neg (fun q => e q.1)]
    exact e
/-- not reached in d levels: what there is then -/
theorem wy_no {C : Nat → Nat → Int} {N o : Int} (hN : 0 ≤ N) (ho : 0 ≤ o ∧ o < N) (m : Int) : ∀ (d : Nat) (n : Int) (f : Int → Int), lvI N n f → lvC C N n f → 1 ≤ f m → wyF C N o d n f o = 0 → ∃ g : Int → Int, lvI N (n + d) g ∧ lvC C N (n + d) g ∧ 1 ≤ g m ∧ g o = 0
  | 0, n, f, h, hc, hm, e => ⟨f, by rw [show n + ((0 : Nat) : Int) = n by omega]; exact h, by rw [show n + ((0 : Nat) : Int) = n by omega]; exact hc, hm, e⟩
  | d + 1, n, f, h, hc, hm, e => by
    unfold wyF at e
    by_cases c : f o = 0
    · rw [if_pos c] at e
      have hm' : 1 ≤ lvP C n f N.toNat m := by
        by_cases z : lvP C n f N.toNat m = f m
        · rw [z]; exact hm
        · have := (lvP_in z).2.1
          omega
      obtain ⟨g, g1, g2, g3, g4⟩ := wy_no hN ho m d (n + 1) _ (lvI_s hN h) (lvC_s hN h hc) hm' e
      rw [show n + 1 + (d : Int) = n + ((d + 1 : Nat) : Int) by omega] at g1 g2
      exact ⟨g, g1, g2, g3, g4⟩
    · rw [if_neg c] at e
      exact absurd e c
/-- a new cord that closes no loop keeps ranks -/
theorem rk_new {C C' : Nat → Nat → Int} {N o m i : Int} {rk : Int → Nat} (h : noLp C N rk) (hN : 0 ≤ N ∧ N ≤ 24) (hm : 0 ≤ m ∧ m < N) (ho : 0 ≤ o ∧ o < N) (hw : wyF C N o 24 1 (f1 m) o = 0)
    (hk : ∀ j, C' amKd j = C amKd j) (hc : ∀ x y : Int, 0 ≤ x → x < N → 0 ≤ y → y ≤ 2 → C' amCo (3 * x + y).toNat = if x = m ∧ y = i then o + 1 else C amCo (3 * x + y).toNat) : ∃ rk', noLp C' N rk' := by
  obtain ⟨g, g1, g2, g3, g4⟩ := wy_no hN.1 ho m 24 1 (f1 m) (lvI_1 hm) (fun a b a0 a1 b0 b1 c1 c2 => by omega) (by unfold f1; rw [if_pos rfl]; omega) hw
  have top : ∀ a, 0 ≤ a → a < N → g a < 25 := fun a a0 a1 => Decidable.byContradiction (fun z => by
    have b := g1.2.1 a a0 a1
    have q := pgv (f := fun x => g x - 1) hN.1 25 (fun v v0 v1 => by
      obtain ⟨x, x0, x1, x2⟩ := g1.2.2 ⟨a, a0, a1, by omega⟩ (v + 1) (by omega) (by omega)
      exact ⟨x, x0, x1, by show g x - 1 = v; omega⟩)
    omega)
  refine ⟨fun x => rk x + if g x = 0 then 0 else rk o + 1, fun x y x0 x1 y0 y1 => ?_⟩
  obtain ⟨p1, p2⟩ := h x y x0 x1 y0 y1
  rw [hc x y x0 x1 y0 y1, hk]
  by_cases e : x = m ∧ y = i
  · rw [if_pos e]
    refine ⟨by omega, fun h6 _ => Or.inr ?_⟩
    dsimp only
    rw [show o + 1 - 1 = o by omega, if_pos g4, e.1, if_neg (by omega)]
    omega
  · rw [if_neg e]
    refine ⟨p1, fun h6 c1 => ?_⟩
    rw [hk]
    rcases p2 h6 c1 with q | q
    · exact Or.inl q
    · by_cases q6 : C amKd (C amCo (3 * x + y).toNat - 1).toNat = 6
      · exact Or.inl q6
      · refine Or.inr ?_
        dsimp only
        by_cases z : g (C amCo (3 * x + y).toNat - 1) = 0
        · rw [if_pos z]
          omega
        · have b := g1.2.1 (C amCo (3 * x + y).toNat - 1) (by omega) (by omega)
          have t := top (C amCo (3 * x + y).toNat - 1) (by omega) (by omega)
          have hx : ¬ g x = 0 := g2 (C amCo (3 * x + y).toNat - 1) x (by omega) (by omega) x0 x1 (by omega) (by omega) (by
            refine decide_eq_true ?_
            rcases (show y = 0 ∨ y = 1 ∨ y = 2 by omega) with rfl | rfl | rfl
            · rw [show 3 * x + 0 = 3 * x by omega]
              exact Or.inl (by omega)
            · exact Or.inr (Or.inl (by omega))
            · exact Or.inr (Or.inr (by omega))) h6
          rw [if_neg z, if_neg hx]
          omega
/-- a cord from or to a DELAY, or from nowhere, does too -/
theorem rk_old {C C' : Nat → Nat → Int} {N c m i : Int} {rk : Int → Nat} (h : noLp C N rk) (hcN : 0 ≤ c ∧ c ≤ N) (hd : c = 0 ∨ C amKd m.toNat = 6 ∨ C amKd (c - 1).toNat = 6)
    (hk : ∀ j, C' amKd j = C amKd j) (hc : ∀ x y : Int, 0 ≤ x → x < N → 0 ≤ y → y ≤ 2 → C' amCo (3 * x + y).toNat = if x = m ∧ y = i then c else C amCo (3 * x + y).toNat) : noLp C' N rk := fun x y x0 x1 y0 y1 => by
  obtain ⟨p1, p2⟩ := h x y x0 x1 y0 y1
  rw [hc x y x0 x1 y0 y1, hk]
  by_cases e : x = m ∧ y = i
  · rw [if_pos e]
    refine ⟨by omega, fun h6 c1 => ?_⟩
    rw [hk]
    rcases hd with q | q | q
    · omega
    · rw [e.1] at h6
      exact absurd q h6
    · exact Or.inl q
  · rw [if_neg e]
    exact ⟨p1, fun h6 c1 => by rw [hk]; exact p2 h6 c1⟩
