/-! 93.rmod: what holds of both, with a module more -/
def kN (k : Nat) : Prop := ¬ k = 42970644489 ∧ ¬ k = 83764445408 ∧ ¬ k = 83777028102 ∧ ¬ k = 83804291684 ∧ ¬ k = 83972063238 ∧ ¬ k = 65510834467 ∧ ¬ k = 83871400160 ∧ ¬ k = 83871400096
section NLS
variable {n I : Nat}
theorem key_u (i : Nat) : uA i % 274877906944 = 42970644489 ∧ knA i % 274877906944 = 83764445408 ∧ nowA i % 274877906944 = 83777028102 ∧ paA i % 274877906944 = 83804291684 ∧ psA i % 274877906944 = 83972063238 ∧ fedA i % 274877906944 = 65510834467 := by
  unfold uA knA nowA paA psA fedA
  refine ⟨?_, ?_, ?_, ?_, ?_, ?_⟩ <;> omega
theorem nL_k (hI : isIn I) {l : Nat} (h : kN (l % 274877906944)) : ¬ nL n I l := fun q => by
  obtain ⟨h1, h2, h3, h4, h5, h6, h7, h8⟩ := h
  rcases q with q | q | q | q | q | ⟨i, _, q⟩ | ⟨i, _, q⟩
  · rw [q] at h1; exact h1 (key_u n).1
  · rw [q] at h2; exact h2 (key_u n).2.1
  · rw [q] at h3; exact h3 (key_u n).2.2.1
  · rw [q] at h4; exact h4 (key_u n).2.2.2.1
  · rw [q] at h7 h8
    rcases hI with z | z
    · exact h7 z
    · exact h8 z
  · rw [q] at h5; exact h5 (key_u i).2.2.2.2.1
  · rw [q] at h6; exact h6 (key_u i).2.2.2.2.2
/-- those that were there -/
theorem nL_o (hI : isIn I) {l k : Nat} (h : l % 274877906944 = k) (hk : (k = 42970644489 ∨ k = 83764445408 ∨ k = 83777028102 ∨ k = 83804291684) ∧ l / 274877906944 < n ∨ k = 83972063238 ∧ l / 274877906944 < 9 * n ∨ k = 65510834467 ∧ l / 274877906944 < 10 * n) : ¬ nL n I l := fun q => by
  rcases q with q | q | q | q | q | ⟨i, x, q⟩ | ⟨i, x, q⟩
  · unfold uA at q; omega
  · unfold knA at q; omega
  · unfold nowA at q; omega
  · unfold paA at q; omega
  · unfold isIn at hI; rw [q] at h; omega
  · unfold psA at q; omega
  · unfold fedA at q; omega
theorem div_u (i : Nat) : uA i / 274877906944 = i ∧ knA i / 274877906944 = i ∧ nowA i / 274877906944 = i ∧ paA i / 274877906944 = i ∧ psA i / 274877906944 = i ∧ fedA i / 274877906944 = i := by
  unfold uA knA nowA paA psA fedA
  refine ⟨?_, ?_, ?_, ?_, ?_, ?_⟩ <;> omega
theorem nL_u (hI : isIn I) {i : Nat} (h : i < n) : ¬ nL n I (uA i) ∧ ¬ nL n I (knA i) ∧ ¬ nL n I (nowA i) ∧ ¬ nL n I (paA i) := ⟨nL_o hI (key_u i).1 (Or.inl ⟨Or.inl rfl, by rw [(div_u i).1]; exact h⟩), nL_o hI (key_u i).2.1 (Or.inl ⟨Or.inr (Or.inl rfl), by rw [(div_u i).2.1]; exact h⟩), nL_o hI (key_u i).2.2.1 (Or.inl ⟨Or.inr (Or.inr (Or.inl rfl)), by rw [(div_u i).2.2.1]; exact h⟩), nL_o hI (key_u i).2.2.2.1 (Or.inl ⟨Or.inr (Or.inr (Or.inr rfl)), by rw [(div_u i).2.2.2.1]; exact h⟩)⟩
theorem nL_p (hI : isIn I) {i : Nat} (h : i < 9 * n) : ¬ nL n I (psA i) := nL_o hI (key_u i).2.2.2.2.1 (Or.inr (Or.inl ⟨rfl, by rw [(div_u i).2.2.2.2.1]; exact h⟩))
theorem nL_f (hI : isIn I) {i : Nat} (h : i < 10 * n) : ¬ nL n I (fedA i) := nL_o hI (key_u i).2.2.2.2.2 (Or.inr (Or.inr ⟨rfl, by rw [(div_u i).2.2.2.2.2]; exact h⟩))
theorem nL_t (hI : isIn I) {l : Nat} (h : tg l = 5 ∨ tg l = 33) : ¬ nL n I l := fun q => by
  rcases q with q | q | q | q | q | ⟨i, x, q⟩ | ⟨i, x, q⟩
  · rw [q, TGf.1] at h; omega
  · rw [q, TGf.2.2.1] at h; omega
  · rw [q, no_t] at h; omega
  · rw [q, TGf.2.2.2.2.2.2.1] at h; omega
  · rw [q, hI.t] at h; omega
  · rw [q, ps_t] at h; omega
  · rw [q, fe_t] at h; omega
theorem nL_i (hI : isIn I) {l : Nat} (h : isIn l) (hl : ¬ l = I) : ¬ nL n I l := fun q => by
  unfold isIn at h
  rcases q with q | q | q | q | q | ⟨i, x, q⟩ | ⟨i, x, q⟩
  · rw [q, (key_u n).1] at h; omega
  · rw [q, (key_u n).2.1] at h; omega
  · rw [q, (key_u n).2.2.1] at h; omega
  · rw [q, (key_u n).2.2.2.1] at h; omega
  · exact hl q
  · rw [q, (key_u i).2.2.2.2.1] at h; omega
  · rw [q, (key_u i).2.2.2.2.2] at h; omega
end NLS
/-- what uS says of the new -/
def uT (M0 M : xm) (n : Nat) (kd rk : Int) (I s : Nat) : Prop :=
  (mA M (uA n) 0 = n ∧ mA M (uA n) 1 = kd ∧ mA M (uA n) 2 = rk ∧ ∀ j, mA M (knA n) j = 0) ∧
  (mR M (uA n) 3 = knA n ∧ mR M (uA n) 4 = nowA n ∧ mR M (uA n) 5 = I ∧ mR M (uA n) 6 = paA n ∧ mR M (nowA n) 7 = fedA (10 * n)) ∧
  zrS M (nowA n) (fedA (10 * n)) ∧
  (∀ i, i < s → mR M (paA n) i = psA (9 * n + i) ∧ mR M (psA (9 * n + i)) 7 = fedA (10 * n + 1 + i) ∧ zrS M (psA (9 * n + i)) (fedA (10 * n + 1 + i))) ∧
  ((mC M 42970644489 = mC M0 42970644489 ∧ mC M 83764445408 = n + 1 ∧ mC M 83777028102 = n + 1 ∧ mC M 83804291684 = n + 1 ∧ mC M 83972063238 = 9 * n + s ∧ mC M 65510834467 = 10 * n + 1 + s) ∧ ∀ k, mC M0 k ≤ mC M k) ∧
  (I % 274877906944 = (if kd = 5 then 83871400160 else 83871400096) ∧ alv M I ∧ ¬ alv M0 I) ∧
  (mK M ≤ mK M0 + 5 + 2 * s ∧ mS M ≤ mS M0 + 63 + 12 * s) ∧ inR M
theorem uT.n {M0 M : xm} {n : Nat} {kd rk : Int} {I s : Nat} (h : uT M0 M n kd rk I s) : isIn I := by
  have g := h.2.2.2.2.2.1.1
  split at g
  · exact Or.inl g
  · exact Or.inr g
theorem uT_c {M0 M M' : xm} {n : Nat} {kd rk : Int} {I s : Nat} (h : uT M0 M n kd rk I s) (hA : ∀ l j, tg l = 9 ∨ tg l = 6 ∨ l = knA n → mA M' l j = mA M l j) (hB : mB M' = mB M) (hR : ∀ l j, ¬ tg l = 37 → mR M' l j = mR M l j) (hC : mC M' = mC M) (hK : mK M' = mK M ∧ mS M' = mS M) (hr : inR M') : uT M0 M' n kd rk I s := by
  obtain ⟨b, c, d, e, f, g, k, r⟩ := h
  have r9 : ∀ i j, mR M' (uA i) j = mR M (uA i) j := fun i j => hR _ _ (by rw [TGf.1]; decide)
  have r6 : ∀ l j, tg l = 6 → mR M' l j = mR M l j := fun l j t => hR _ _ (by rw [t]; decide)
  have rp : ∀ i j, mR M' (paA i) j = mR M (paA i) j := fun i j => hR _ _ (by rw [TGf.2.2.2.2.2.2.1]; decide)
  have rf : ∀ i j, mR M' (fedA i) j = mR M (fedA i) j := fun i j => hR _ _ (by rw [fe_t]; decide)
  have zs : ∀ S i, tg S = 6 → zrS M S (fedA i) → zrS M' S (fedA i) := fun S i q z => ⟨fun j => ⟨by rw [hA S j (Or.inr (Or.inl q))]; exact (z.1 j).1, by rw [hB]; exact (z.1 j).2⟩, by rw [r6 S 0 q]; exact z.2.1, fun j => by rw [rf]; exact z.2.2 j⟩
  refine ⟨⟨?_, ?_, ?_, fun j => ?_⟩, by rw [r9, r9, r9, r9, r6 _ _ (no_t _)]; exact c, zs _ _ (no_t _) d, fun i hi => ⟨by rw [rp]; exact (e i hi).1, by rw [r6 _ _ (ps_t _)]; exact (e i hi).2.1, zs _ _ (ps_t _) (e i hi).2.2⟩, by rw [hC]; exact f, ⟨g.1, ?_, g.2.2⟩, by rw [hK.1, hK.2]; exact k, hr⟩
  · rw [hA _ _ (Or.inl (TGf.1 _))]; exact b.1
  · rw [hA _ _ (Or.inl (TGf.1 _))]; exact b.2.1
  · rw [hA _ _ (Or.inl (TGf.1 _))]; exact b.2.2.1
  · rw [hA _ _ (Or.inr (Or.inr rfl))]; exact b.2.2.2 j
  · have := g.2.1
    unfold alv at this ⊢
    rw [hC]
    exact this
/-- M' is M with a module more, on both sides; M0: M with room for it -/
def mdG (M M0 M' : xm) (n : Nat) (kd rk : Int) (I : Nat) : Prop := uT M0 M' n kd rk I 9 ∧ inK M' I (nin kd) ∧
  (∀ l j, ¬ nL n I l → ¬ l = aLine → ¬ l = aActed → ¬ l = aSteps → ¬ l = amKd → ¬ l = amRk → ¬ (l = aRack ∧ j = 0) → ¬ (l = aM ∧ j = 3) → mA M' l j = mA M l j) ∧
  (∀ l j, ¬ nL n I l → mB M' l j = mB M l j) ∧ (∀ l j, ¬ nL n I l → ¬ l = aUnits → mR M' l j = mR M l j) ∧
  ((∀ j, mA M' amKd j = if j = n then kd else mA M amKd j) ∧ (∀ j, mA M' amRk j = if j = n then rk else mA M amRk j) ∧ (mA M' aRack 0 = n + 1 ∧ mA M' aM 3 = n + 1) ∧ ∀ j, mR M' aUnits j = if j = n then uA n else mR M aUnits j) ∧
  (mC M0 42970644489 = mC M 42970644489 + 1 ∧ (∀ k, mC M k ≤ mC M0 k) ∧ mK M0 ≤ mK M + 1 ∧ mS M0 ≤ mS M + 7)
