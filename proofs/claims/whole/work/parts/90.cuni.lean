/-! 90.cuni: the developers' own: a new module -/
theorem na_e {M : xm} {t n c k : Nat} (h : mC M (ky t n c) = k) : na M t n c = ad t n c k := by
  unfold na
  rw [h]
theorem NW : (∀ (M : xm) (L k : Nat) (x : Int) (t n c : Nat), na (wA M L k x) t n c = na M t n c) ∧ (∀ (M : xm) (L k x : Nat) (t n c : Nat), na (wR M L k x) t n c = na M t n c) ∧ (∀ (M : xm) (t n c t' n' c' s : Nat), ¬ ky t n c = ky t' n' c' → na (nw M t' n' c' s) t n c = na M t n c) := by
  refine ⟨fun _ _ _ _ _ _ _ => rfl, fun _ _ _ _ _ _ _ => rfl, fun M t n c t' n' c' s h => ?_⟩
  unfold na
  rw [MM.2.2.2.2.2.2.2.2.2.2.2.2.2.2.2.2.2.2.2, if_neg h]
theorem c_init5 {M : xm} {L : Nat} (t : tg L = 6) (Q : Option xv → xm → Prop) : Wp qX5_init 0 [vR L] [] M Q ↔ Q none (wR (nw M 35 4 31238 4) L 7 (na M 35 4 31238)) := by
  have hz := tg_ne t (by decide)
  simp (disch := first | omega | (simp only [DT, DS, ne_eq, Nat.reduceEqDiff, not_false_eq_true]; done)) only [RX5_init, t, hz, BW, wr_id, OM, OE, PL, ↓reduceIte, TGs, bi_T, bi_F, bi_ff, Nat.reduceLeDiff, Nat.reduceLT, Nat.reduceAdd]
  rfl
/-- a state as it begins -/
def zrS (M : xm) (S F : Nat) : Prop := (∀ j, mA M S j = 0 ∧ mB M S j = 0) ∧ mR M S 0 = 0 ∧ ∀ j, mR M F j = 0
/-- what is new -/
def nL (n I l : Nat) : Prop := l = uA n ∨ l = knA n ∨ l = nowA n ∨ l = paA n ∨ l = I ∨ (∃ i, 9 * n ≤ i ∧ l = psA i) ∨ ∃ i, 10 * n ≤ i ∧ l = fedA i
def uS (M0 M : xm) (n : Nat) (kd rk : Int) (I s : Nat) : Prop := (∀ l j, ¬ nL n I l → mA M l j = mA M0 l j ∧ mB M l j = mB M0 l j ∧ mR M l j = mR M0 l j) ∧
  (mA M (uA n) 0 = n ∧ mA M (uA n) 1 = kd ∧ mA M (uA n) 2 = rk ∧ ∀ j, mA M (knA n) j = 0) ∧
  (mR M (uA n) 3 = knA n ∧ mR M (uA n) 4 = nowA n ∧ mR M (uA n) 5 = I ∧ mR M (uA n) 6 = paA n ∧ mR M (nowA n) 7 = fedA (10 * n)) ∧
  zrS M (nowA n) (fedA (10 * n)) ∧
  (∀ i, i < s → mR M (paA n) i = psA (9 * n + i) ∧ mR M (psA (9 * n + i)) 7 = fedA (10 * n + 1 + i) ∧ zrS M (psA (9 * n + i)) (fedA (10 * n + 1 + i))) ∧
  ((mC M 42970644489 = mC M0 42970644489 ∧ mC M 83764445408 = n + 1 ∧ mC M 83777028102 = n + 1 ∧ mC M 83804291684 = n + 1 ∧ mC M 83972063238 = 9 * n + s ∧ mC M 65510834467 = 10 * n + 1 + s) ∧ ∀ k, mC M0 k ≤ mC M k) ∧
  (I % 274877906944 = (if kd = 5 then 83871400160 else 83871400096) ∧ alv M I ∧ ¬ alv M0 I) ∧
  (mK M ≤ mK M0 + 5 + 2 * s ∧ mS M ≤ mS M0 + 63 + 12 * s) ∧ inR M
section UN
variable {M0 M : xm} {n I s : Nat} {kd rk : Int}
theorem uS.t (h : uS M0 M n kd rk I s) : tg I = 32 ∧ (ln I : Int) = nin kd := by
  have g := h.2.2.2.2.2.2.1.1
  unfold nin tg ln
  split at g
  · rw [if_pos (by assumption)]
    omega
  · rw [if_neg (by assumption)]
    omega
theorem uS_i (h : uS M0 M n kd rk I s) (j : Nat) : uS M0 (wA M I j (-1)) n kd rk I s := by
  have tI := h.t.1
  obtain ⟨a, b, c, d, e, f, g, k, r⟩ := h
  have ne : ∀ x, ¬ tg x = 32 → ∀ i, mA (wA M I j (-1)) x i = mA M x i := fun x q i => wA_o _ _ (fun z => q (by rw [z.1]; exact tI))
  have nk : ∀ i, mA (wA M I j (-1)) (knA n) i = mA M (knA n) i := fun i => wA_o _ _ (fun z => by
    have g1 := g.1
    rw [← z.1] at g1
    unfold knA at g1
    split at g1 <;> omega)
  have zs : ∀ S F, tg S = 6 → zrS M S F → zrS (wA M I j (-1)) S F := fun S F q z => ⟨fun i => ⟨by rw [ne S (by rw [q]; decide)]; exact (z.1 i).1, (z.1 i).2⟩, z.2⟩
  refine ⟨fun l i q => ⟨?_, (a l i q).2⟩, ⟨?_, ?_, ?_, fun i => by rw [nk]; exact b.2.2.2 i⟩, c, zs _ _ (no_t _) d, fun i hi => ⟨(e i hi).1, (e i hi).2.1, zs _ _ (ps_t _) (e i hi).2.2⟩, f, g, k, r.wA _ _ (by decide)⟩
  · rw [wA_o _ _ (fun z => q (by unfold nL; simp [z.1]))]
    exact (a l i q).1
  · rw [ne _ (by rw [TGf.1]; decide)]; exact b.1
  · rw [ne _ (by rw [TGf.1]; decide)]; exact b.2.1
  · rw [ne _ (by rw [TGf.1]; decide)]; exact b.2.2.1
/-- one state more -/
theorem uS_s (h : uS M0 M n kd rk I s) : uS M0 (wR (wR (nw (nw M 6 0 40041 8) 35 4 31238 4) (psA (9 * n + s)) 7 (fedA (10 * n + 1 + s))) (paA n) s (psA (9 * n + s))) n kd rk I (s + 1) := by
  have tI := h.t.1
  obtain ⟨a, b, c, d, e, f, g, k, r⟩ := h
  have e1 : na M 6 0 40041 = psA (9 * n + s) := by
    rw [na_e (show mC M (ky 6 0 40041) = 9 * n + s from f.1.2.2.2.2.1)]
    rfl
  have e2 : na (nw M 6 0 40041 8) 35 4 31238 = fedA (10 * n + 1 + s) := by
    rw [NW.2.2 _ _ _ _ _ _ _ _ (by decide), na_e (show mC M (ky 35 4 31238) = 10 * n + 1 + s from f.1.2.2.2.2.2)]
    rfl
  generalize hM' : wR (wR (nw (nw M 6 0 40041 8) 35 4 31238 4) (psA (9 * n + s)) 7 (fedA (10 * n + 1 + s))) (paA n) s (psA (9 * n + s)) = M'
  have eA : ∀ l j, mA M' l j = if l = fedA (10 * n + 1 + s) then 0 else if l = psA (9 * n + s) then 0 else mA M l j := fun l j => by
    rw [← hM', ← e2, ← e1]
    rfl
  have eB : ∀ l j, mB M' l j = if l = fedA (10 * n + 1 + s) then 0 else if l = psA (9 * n + s) then 0 else mB M l j := fun l j => by
    rw [← hM', ← e2, ← e1]
    rfl
  have eR : ∀ l j, mR M' l j = if l = paA n ∧ j = s then psA (9 * n + s) else if l = psA (9 * n + s) ∧ j = 7 then fedA (10 * n + 1 + s) else if l = fedA (10 * n + 1 + s) then 0 else if l = psA (9 * n + s) then 0 else mR M l j := fun l j => by
    rw [← hM', ← e2, ← e1]
    rfl
  have eC : ∀ k, mC M' k = if k = 65510834467 then (if k = 83972063238 then mC M k + 1 else mC M k) + 1 else if k = 83972063238 then mC M k + 1 else mC M k := fun k => by
    rw [← hM']
    rfl
  have oA : ∀ l, ¬ l = fedA (10 * n + 1 + s) → ¬ l = psA (9 * n + s) → ∀ j, mA M' l j = mA M l j ∧ mB M' l j = mB M l j ∧ (¬ (l = paA n ∧ j = s) → mR M' l j = mR M l j) := fun l q1 q2 j => by
    refine ⟨?_, ?_, fun q3 => ?_⟩
    · rw [eA, if_neg q1, if_neg q2]
    · rw [eB, if_neg q1, if_neg q2]
    · rw [eR, if_neg q3, if_neg (fun z => q2 z.1), if_neg q1, if_neg q2]
  have u1 : ∀ j, mA M' (uA n) j = mA M (uA n) j ∧ mB M' (uA n) j = mB M (uA n) j ∧ (¬ (uA n = paA n ∧ j = s) → mR M' (uA n) j = mR M (uA n) j) := oA (uA n) (by unfold uA fedA; omega) (by unfold uA psA; omega)
  have u2 := oA (knA n) (by unfold knA fedA; omega) (by unfold knA psA; omega)
  have u3 := oA (nowA n) (by unfold nowA fedA; omega) (by unfold nowA psA; omega)
  have u4 := oA (fedA (10 * n)) (by unfold fedA; omega) (by unfold fedA psA; omega)
  have up : ¬ uA n = paA n := by unfold uA paA; omega
  have np : ¬ nowA n = paA n := by unfold nowA paA; omega
  have fp : ∀ i, ¬ fedA i = paA n := fun i => by unfold fedA paA; omega
  have pp : ∀ i, ¬ psA i = paA n := fun i => by unfold psA paA; omega
  have pf : ∀ i i', ¬ psA i = fedA i' := fun i i' => by unfold psA fedA; omega
  refine ⟨fun l j q => ?_, ⟨?_, ?_, ?_, fun j => ?_⟩, ⟨?_, ?_, ?_, ?_, ?_⟩, ⟨fun j => ⟨?_, ?_⟩, ?_, fun j => ?_⟩, fun i hi => ?_, ⟨⟨?_, ?_, ?_, ?_, ?_, ?_⟩, fun k => ?_⟩, ⟨g.1, ?_, g.2.2⟩, ⟨?_, ?_⟩, fun l j => ?_⟩
  · have q1 : ¬ l = fedA (10 * n + 1 + s) := fun z => q (by unfold nL; exact Or.inr (Or.inr (Or.inr (Or.inr (Or.inr (Or.inr ⟨_, by omega, z⟩))))))
    have q2 : ¬ l = psA (9 * n + s) := fun z => q (by unfold nL; exact Or.inr (Or.inr (Or.inr (Or.inr (Or.inr (Or.inl ⟨_, by omega, z⟩))))))
    have q3 : ¬ l = paA n := fun z => q (by unfold nL; simp [z])
    obtain ⟨g1, g2, g3⟩ := oA l q1 q2 j
    rw [g1, g2, g3 (fun z => q3 z.1)]
    exact a l j q
  · rw [(u1 0).1]; exact b.1
  · rw [(u1 1).1]; exact b.2.1
  · rw [(u1 2).1]; exact b.2.2.1
  · rw [(u2 j).1]; exact b.2.2.2 j
  · rw [(u1 3).2.2 (fun z => up z.1)]; exact c.1
  · rw [(u1 4).2.2 (fun z => up z.1)]; exact c.2.1
  · rw [(u1 5).2.2 (fun z => up z.1)]; exact c.2.2.1
  · rw [(u1 6).2.2 (fun z => up z.1)]; exact c.2.2.2.1
  · rw [(u3 7).2.2 (fun z => np z.1)]; exact c.2.2.2.2
  · rw [(u3 j).1]; exact (d.1 j).1
  · rw [(u3 j).2.1]; exact (d.1 j).2
  · rw [(u3 0).2.2 (fun z => np z.1)]; exact d.2.1
  · rw [(u4 j).2.2 (fun z => fp _ z.1)]; exact d.2.2 j
  · by_cases z : i = s
    · rw [z]
      refine ⟨by rw [eR, if_pos ⟨rfl, rfl⟩], by rw [eR, if_neg (fun q => pp _ q.1), if_pos ⟨rfl, rfl⟩], fun j => ⟨by rw [eA, if_neg (pf _ _), if_pos rfl], by rw [eB, if_neg (pf _ _), if_pos rfl]⟩, by rw [eR, if_neg (fun q => pp _ q.1), if_neg (by omega), if_neg (pf _ _), if_pos rfl], fun j => by rw [eR, if_neg (fun q => fp _ q.1), if_neg (fun q => pf _ _ q.1.symm), if_pos rfl]⟩
    · obtain ⟨g1, g2, g3⟩ := e i (by omega)
      have v1 := oA (psA (9 * n + i)) (pf _ _) (by unfold psA; omega)
      have v2 := oA (fedA (10 * n + 1 + i)) (by unfold fedA; omega) (fun q => pf _ _ q.symm)
      have v3 := oA (paA n) (fun q => fp _ q.symm) (fun q => pp _ q.symm)
      refine ⟨by rw [(v3 i).2.2 (fun q => z q.2)]; exact g1, by rw [(v1 7).2.2 (fun q => pp _ q.1)]; exact g2, fun j => ⟨by rw [(v1 j).1]; exact (g3.1 j).1, by rw [(v1 j).2.1]; exact (g3.1 j).2⟩, by rw [(v1 0).2.2 (fun q => pp _ q.1)]; exact g3.2.1, fun j => by rw [(v2 j).2.2 (fun q => fp _ q.1)]; exact g3.2.2 j⟩
  · rw [eC, if_neg (by decide), if_neg (by decide)]; exact f.1.1
  · rw [eC, if_neg (by decide), if_neg (by decide)]; exact f.1.2.1
  · rw [eC, if_neg (by decide), if_neg (by decide)]; exact f.1.2.2.1
  · rw [eC, if_neg (by decide), if_neg (by decide)]; exact f.1.2.2.2.1
  · rw [eC, if_neg (by decide), if_pos rfl, f.1.2.2.2.2.1]; omega
  · rw [eC, if_pos rfl, if_neg (by decide), f.1.2.2.2.2.2]; omega
  · have := f.2 k
    rw [eC]
    split <;> split <;> omega
  · have := g.2.1
    unfold alv at this ⊢
    rw [eC]
    split <;> split <;> omega
  · rw [← hM']
    have := k.1
    show mK M + 1 + 1 ≤ _
    omega
  · rw [← hM']
    have := k.2
    show mS M + 8 + 4 ≤ _
    omega
  · rw [eA]
    split
    · decide
    · split
      · decide
      · exact r l j
end UN
