/-! 40.mgok: the reference: rows given, rows copied, no row: what then stands there -/
theorem mFo.g {M0 M : xm} {m : Int} (h : mFo M0 m M) (hm : 0 ≤ m) : mGo M0 m M := by
  obtain ⟨h1, h2, h3, h4, h5, h6⟩ := h
  refine ⟨fun l j _ b c => h1 l j (fun q => b ⟨q.1, ?_, ?_⟩) c, fun l j _ b c => h2 l j (fun q => b ⟨q.1, ?_, ?_⟩) c, h3, h4, h5, h6⟩
  all_goals (have := q.2; omega)
theorem mF.g {M0 M : xm} {m : Int} (h : mF M0 m M) (hm : 0 ≤ m) : mG M0 m M := by
  obtain ⟨h1, h2, h3, h4, h5, h6⟩ := h
  refine ⟨fun l j _ b c => h1 l j (fun q => b ⟨q.1, ?_, ?_⟩) c, fun l j _ b c => h2 l j (fun q => b ⟨q.1, ?_, ?_⟩) c, h3, h4, h5, h6⟩
  all_goals (have := q.2; omega)
theorem gvM_a (M : xm) (m kd n : Int) (l j : Nat) : mA (gvM M m kd n) l j = if l = amIn ∧ j = (20 * m + 2).toNat then mA M aM 28 else if l = amIn ∧ j = (20 * m + 1).toNat then n else if l = amIn ∧ j = (20 * m).toNat then kd + 1 else mA M l j := rfl
theorem gvM_b (M : xm) (m kd n : Int) (l j : Nat) : mB (gvM M m kd n) l j = if l = amDb ∧ (82 * m).toNat ≤ j ∧ j < (82 * m + 16).toNat then gvF M m n j else mB M l j := rfl
theorem gvM_o {M : xm} {m kd n : Int} {l j : Nat} (h : ¬ (l = amIn ∧ (20 * m).toNat ≤ j ∧ j < (20 * m + 3).toNat)) (hm : 0 ≤ m) : mA (gvM M m kd n) l j = mA M l j := by
  rw [gvM_a, if_neg (fun q => h ⟨q.1, by omega, by omega⟩), if_neg (fun q => h ⟨q.1, by omega, by omega⟩), if_neg (fun q => h ⟨q.1, by omega, by omega⟩)]
theorem mRw_c {M M' : xm} {q r : Int} {x : Option Rw} (h : mRw M q r x) (h1 : ∀ j, (20 * q + 3 * r).toNat ≤ j → j < (20 * q + 3 * r + 3).toNat → mA M' amIn j = mA M amIn j) (h2 : ∀ j, (82 * q + 16 * r).toNat ≤ j → j < (82 * q + 16 * r + 16).toNat → mB M' amDb j = mB M amDb j) (hq : 0 ≤ q ∧ 0 ≤ r) : mRw M' q r x := by
  cases x with
  | none =>
    show mA M' amIn (20 * q + 3 * r).toNat = 0
    rw [h1 _ (by omega) (by omega)]
    exact h
  | some w =>
    obtain ⟨a, b, c, d⟩ := h
    refine ⟨?_, ?_, ?_, fun i hi1 hi2 => ?_⟩
    · rw [h1 _ (by omega) (by omega)]; exact a
    · rw [h1 _ (by omega) (by omega)]; exact b
    · rw [h1 _ (by omega) (by omega)]; exact c
    · rw [h2 _ (by omega) (by omega)]; exact d i hi1 hi2
theorem mF_fed {M0 M : xm} {m : Int} {s : SS} (hF : mF M0 m M) (h : mS1 M0 m s) (hm : 0 ≤ m) : mA M amIn (20 * m + 18).toNat = sB s ∧ ∀ j, 1 ≤ j → j ≤ 4 → mRw M m j (sF s j) := by
  obtain ⟨_, _, _, _, _, _, h7, h8⟩ := h
  refine ⟨by rw [mF_i hF (by omega)]; exact h7, fun j a b => mRw_c (h8 j a b) (fun i c d => mF_i hF (by omega)) (fun i c d => mF_d hF (by omega)) ⟨hm, by omega⟩⟩
theorem give_ok {M0 M : xm} {m n kd : Int} {s : SS} {z : ZT} (hF : mF M0 m M) (hV : mV M m z n) (h : mS1 M0 m s) (hm : 0 ≤ m ∧ m ≤ 23) (hn : 1 ≤ n ∧ n ≤ 16) (hk : 0 ≤ kd ∧ kd ≤ 4) : mG M0 m (gvM M m kd n) ∧ mS1 (gvM M m kd n) m (newS s z kd n) := by
  have hf := mF_fed hF h hm.1
  have hg := hF.g hm.1
  obtain ⟨v1, v2, v3, v4, v5, v6, v7⟩ := hV
  have go : ∀ j : Nat, ¬ ((20 * m).toNat ≤ j ∧ j < (20 * m + 3).toNat) → mA (gvM M m kd n) amIn j = mA M amIn j := fun j hj => gvM_o (fun q => hj q.2) hm.1
  have gd : ∀ j : Nat, ¬ ((82 * m).toNat ≤ j ∧ j < (82 * m + 16).toNat) → mB (gvM M m kd n) amDb j = mB M amDb j := fun j hj => by rw [gvM_b, if_neg (fun q => hj q.2)]
  refine ⟨⟨fun l j a b c => ?_, fun l j a b c => ?_, hg.2.2.1, hg.2.2.2.1, ⟨hg.2.2.2.2.1.1, hg.2.2.2.2.1.2.1, by rw [gvM_o (fun q => absurd q.1 (by decide)) hm.1]; exact hg.2.2.2.2.1.2.2⟩, ?_⟩, ⟨?_, ?_, ?_⟩, ?_, ?_, ?_, ?_, ?_, ?_, fun j a b => ?_⟩
  · rw [gvM_o a hm.1]
    exact hg.1 l j a b c
  · rw [gvM_b, if_neg a]
    exact hg.2.1 l j a b c
  · exact ((hF.2.2.2.2.2.wA _ _ (wr_id (by omega) (by omega))).wA _ _ (wr_id (by omega) (by omega))).wA _ _ (hF.2.2.2.2.2 _ _)
  · show mA (gvM M m kd n) amIn (20 * m + 3 * 0).toNat = kd + 1
    rw [gvM_a, if_neg (fun q => by have := q.2; omega), if_neg (fun q => by have := q.2; omega), if_pos ⟨rfl, by omega⟩]
  · show mA (gvM M m kd n) amIn (20 * m + 3 * 0 + 1).toNat = n
    rw [gvM_a, if_neg (fun q => by have := q.2; omega), if_pos ⟨rfl, by omega⟩]
  · refine ⟨?_, fun i a b => ?_⟩
    · show mA (gvM M m kd n) amIn (20 * m + 3 * 0 + 2).toNat = zM z
      rw [gvM_a, if_pos ⟨rfl, by omega⟩]
      exact v6
    · show mB (gvM M m kd n) amDb (82 * m + 16 * 0 + i).toNat = if i < n then zV z i.toNat else 0
      rw [gvM_b, if_pos ⟨rfl, by omega, by omega⟩]
      unfold gvF
      by_cases c : i < n
      · rw [if_pos (by omega), if_pos c, show (82 * m + 16 * 0 + i).toNat - (82 * m).toNat = i.toNat by omega]
        exact v7 i.toNat (by omega)
      · rw [if_neg (by omega), if_neg c]
  · rw [go _ (by omega)]; exact v1
  · rw [gd _ (by omega)]; exact v4
  · rw [gd _ (by omega)]; exact v5
  · rw [go _ (by omega)]; exact v2
  · rw [go _ (by omega)]; exact v3
  · rw [go _ (by omega)]; exact hf.1
  · exact mRw_c (hf.2 j a b) (fun i c d => go i (by omega)) (fun i c d => gd i (by omega)) ⟨hm.1, by omega⟩
theorem cpRow_a (M : xm) (f r t u : Int) (l j : Nat) : mA (cpRow M f r t u) l j = if l = amIn ∧ (20 * t + 3 * u).toNat ≤ j ∧ j < (20 * t + 3 * u).toNat + 3 then mA M amIn (j - (20 * t + 3 * u).toNat + (20 * f + 3 * r).toNat) else mA M l j := rfl
theorem cpRow_b (M : xm) (f r t u : Int) (l j : Nat) : mB (cpRow M f r t u) l j = if l = amDb ∧ (82 * t + 16 * u).toNat ≤ j ∧ j < (82 * t + 16 * u).toNat + 16 then mB M amDb (j - (82 * t + 16 * u).toNat + (82 * f + 16 * r).toNat) else mB M l j := rfl
theorem cpRow_w {M : xm} {f r t u : Int} {x : Option Rw} (h : mRw M f r x) (h0 : 0 ≤ f ∧ 0 ≤ r) (h1 : 0 ≤ t ∧ 0 ≤ u) : mRw (cpRow M f r t u) t u x := by
  cases x with
  | none =>
    show mA (cpRow M f r t u) amIn (20 * t + 3 * u).toNat = 0
    rw [cpRow_a, if_pos ⟨rfl, by omega, by omega⟩, show (20 * t + 3 * u).toNat - (20 * t + 3 * u).toNat + (20 * f + 3 * r).toNat = (20 * f + 3 * r).toNat by omega]
    exact h
  | some w =>
    obtain ⟨a, b, c, d⟩ := h
    refine ⟨?_, ?_, ?_, fun i hi1 hi2 => ?_⟩
    · rw [cpRow_a, if_pos ⟨rfl, by omega, by omega⟩, show (20 * t + 3 * u).toNat - (20 * t + 3 * u).toNat + (20 * f + 3 * r).toNat = (20 * f + 3 * r).toNat by omega]; exact a
    · rw [cpRow_a, if_pos ⟨rfl, by omega, by omega⟩, show (20 * t + 3 * u + 1).toNat - (20 * t + 3 * u).toNat + (20 * f + 3 * r).toNat = (20 * f + 3 * r + 1).toNat by omega]; exact b
    · rw [cpRow_a, if_pos ⟨rfl, by omega, by omega⟩, show (20 * t + 3 * u + 2).toNat - (20 * t + 3 * u).toNat + (20 * f + 3 * r).toNat = (20 * f + 3 * r + 2).toNat by omega]; exact c
    · rw [cpRow_b, if_pos ⟨rfl, by omega, by omega⟩, show (82 * t + 16 * u + i).toNat - (82 * t + 16 * u).toNat + (82 * f + 16 * r).toNat = (82 * f + 16 * r + i).toNat by omega]; exact d i hi1 hi2
theorem cpRow_R {M : xm} (h : inR M) (f r t u : Int) : inR (cpRow M f r t u) := fun l j => by
  rw [cpRow_a]
  split
  · exact h _ _
  · exact h _ _
/-- a row comes to be the one that module m gives -/
theorem put_ok {M M' : xm} {m : Int} {s : SS} {x : Option Rw} (h : mS1 M m s) (hm : 0 ≤ m ∧ m ≤ 23) (hx : mRw M' m 0 x) (h1 : ∀ l j, ¬ (l = amIn ∧ (20 * m).toNat ≤ j ∧ j < (20 * m + 3).toNat) → mA M' l j = mA M l j) (h2 : ∀ l j, ¬ (l = amDb ∧ (82 * m).toNat ≤ j ∧ j < (82 * m + 16).toNat) → mB M' l j = mB M l j) (h3 : mR M' = mR M ∧ mC M' = mC M ∧ mK M' = mK M ∧ mS M' = mS M) (hR : inR M') : mG M m M' ∧ mS1 M' m (setR s x) := by
  obtain ⟨_, b2, b3, b4, b5, b6, b7, b8⟩ := h
  refine ⟨⟨fun l j a _ _ => h1 l j a, fun l j a _ _ => h2 l j a, h3.1, h3.2.1, ⟨h3.2.2.1, h3.2.2.2, h1 _ _ (fun q => absurd q.1 (by decide))⟩, hR⟩, hx, ?_, ?_, ?_, ?_, ?_, ?_, fun j a b => ?_⟩
  · rw [h1 _ _ (by omega)]; exact b2
  · rw [h2 _ _ (by omega)]; exact b3
  · rw [h2 _ _ (by omega)]; exact b4
  · rw [h1 _ _ (by omega)]; exact b5
  · rw [h1 _ _ (by omega)]; exact b6
  · rw [h1 _ _ (by omega)]; exact b7
  · exact mRw_c (b8 j a b) (fun i c d => h1 _ _ (by omega)) (fun i c d => h2 _ _ (by omega)) ⟨hm.1, by omega⟩
theorem cp_ok {M : xm} {m f r : Int} {s : SS} {x : Option Rw} (h : mS1 M m s) (hm : 0 ≤ m ∧ m ≤ 23) (hf : 0 ≤ f ∧ 0 ≤ r) (hx : mRw M f r x) (hR : inR M) : mG M m (cpRow M f r m 0) ∧ mS1 (cpRow M f r m 0) m (setR s x) :=
  put_ok h hm (cpRow_w hx hf ⟨hm.1, by omega⟩) (fun l j a => by rw [cpRow_a, if_neg (fun q => a ⟨q.1, by omega, by omega⟩)]) (fun l j a => by rw [cpRow_b, if_neg (fun q => a ⟨q.1, by omega, by omega⟩)]) ⟨rfl, rfl, rfl, rfl⟩ (cpRow_R hR _ _ _ _)
theorem no_ok {M : xm} {m : Int} {s : SS} (h : mS1 M m s) (hm : 0 ≤ m ∧ m ≤ 23) (hR : inR M) : mG M m (wA M amIn (20 * m + 3 * 0).toNat 0) ∧ mS1 (wA M amIn (20 * m + 3 * 0).toNat 0) m (setR s none) :=
  put_ok h hm (wA_e _ _ _ _) (fun l j a => wA_o M _ (fun q => a ⟨q.1, by omega, by omega⟩)) (fun l j a => rfl) ⟨rfl, rfl, rfl, rfl⟩ (hR.wA _ _ (by decide))
