/-! 49.mac3: the reference: a module acts, one after another -/
theorem mS1_c {M M' : xm} {q : Int} {s : SS} (h : mS1 M q s) (hq : 0 ≤ q) (h1 : ∀ j, (20 * q).toNat ≤ j → j < (20 * q + 20).toNat → mA M' amIn j = mA M amIn j) (h2 : ∀ j, (82 * q).toNat ≤ j → j < (82 * q + 82).toNat → mB M' amDb j = mB M amDb j) : mS1 M' q s := by
  obtain ⟨b1, b2, b3, b4, b5, b6, b7, b8⟩ := h
  refine ⟨mRw_c b1 (fun j a b => h1 j (by omega) (by omega)) (fun j a b => h2 j (by omega) (by omega)) ⟨hq, by omega⟩, ?_, ?_, ?_, ?_, ?_, ?_, fun j a b => mRw_c (b8 j a b) (fun i c d => h1 i (by omega) (by omega)) (fun i c d => h2 i (by omega) (by omega)) ⟨hq, by omega⟩⟩
  · rw [h1 _ (by omega) (by omega)]; exact b2
  · rw [h2 _ (by omega) (by omega)]; exact b3
  · rw [h2 _ (by omega) (by omega)]; exact b4
  · rw [h1 _ (by omega) (by omega)]; exact b5
  · rw [h1 _ (by omega) (by omega)]; exact b6
  · rw [h1 _ (by omega) (by omega)]; exact b7
theorem okS_t {t t' : Int} {s : SS} (h : okS t s) (ht : t ≤ t') : okS t' s := by
  obtain ⟨g1, g2, g3, g4, g5, g6, g7⟩ := h
  exact ⟨g1, g2, g3, g4, ⟨g5.1, by have := g5.2; omega⟩, g6, g7⟩
theorem aPost_g {M M1 : xm} {m : Int} {Q : Option xv → xm → Prop} (hg : mG M m M1) : ∀ R, aPost M m Q R → aPost M1 m Q R
  | .inl (_, _), hP => fun M' a b c d => hP M' (hg.o.trans a) b c d
  | .inr _, hP => fun M' a b => hP M' (hg.trans a) b
theorem m_acts {M : xm} {n t m : Int} {A : Int → SS} (hc : mCf M n) (ha : mAs M t A) (ht : t ≤ 50000) (hm : 0 ≤ m ∧ m ≤ 23) (hself : ¬ mA M amKd m.toNat = 6 → ¬ mA M amCo (3 * m).toNat = m + 1) (Q : Option xv → xm → Prop) (hP : aPost M m Q (actF (mA M) n A m)) : Wp qX10_acts 0 [vR aM, vI m, vX, vX] [] M Q := by
  have hg : mG M m (wA M aM 28 0) := mF.g ((mF.refl m hc.2.1).wM (Or.inr (Or.inr (Or.inr rfl))) (by decide)) hm.1
  have hq : cEq M (wA M aM 28 0) := hg.c
  have hc1 : mCf (wA M aM 28 0) n := mCf_c hc hq hg.2.2.2.2.2 rfl (wA_o M _ (fun q => absurd q.2 (by decide)))
  have ha1 : mAs (wA M aM 28 0) t A := fun o a b => ⟨mS1_c (ha o a b).1 a (fun j _ _ => wA_o M _ (fun q => absurd q.1 (by decide))) (fun j _ _ => rfl), (ha o a b).2⟩
  refine m_acts1 rfl hc1 ha1 ht hm ?_ Q ?_
  · rw [(hq _).1, (hq _).2.2.2.1]
    exact hself
  · rw [actF_c hq]
    exact aPost_g hg _ hP
def upS (A : Int → SS) (m : Int) (s : SS) : Int → SS := fun o => if o = m then s else A o
theorem mAs_up {M M' : xm} {t m : Int} {A : Int → SS} {s : SS} (ha : mAs M t A) (hm : 0 ≤ m ∧ m ≤ 23) (hg : mG M m M') (h1 : mS1 M' m s) (ho : okS (t + 1) s) : mAs M' (t + 1) (upS A m s) := fun o a b => by
  unfold upS
  by_cases e : o = m
  · rw [if_pos e, e]
    exact ⟨h1, ho⟩
  · rw [if_neg e]
    refine ⟨mS1_c (ha o a b).1 a (fun j c d => hg.1 _ _ (by omega) (by omega) (fun q => absurd q.1 (by decide))) (fun j c d => hg.2.1 _ _ (by omega) (by omega) (by decide)), okS_t (ha o a b).2 (by omega)⟩
/-- module after module: the finding, its module, its sample, how many acted; or what all came to -/
def bkF (C : Nat → Nat → Int) (n : Int) (ord : Nat → Int) : Nat → Int → (Int → SS) → (Int × Int × Int × Int) ⊕ (Int → SS)
  | 0, _, A => .inr A
  | d + 1, k, A => match actF C n A (ord k.toNat) with
    | .inl (f, j) => .inl (f, ord k.toNat, j, k + 1)
    | .inr s => bkF C n ord d (k + 1) (upS A (ord k.toNat) s)
