/-! 91.cuni2: the developers' own: a new module, made -/
theorem nw_le (M : xm) (t n c s k : Nat) : mC M k ≤ mC (nw M t n c s) k := by
  rw [MM.2.2.2.2.2.2.2.2.2.2.2.2.2.2.2.2.2.2.2]
  split <;> omega
def unM (M : xm) (n : Nat) (kd rk : Int) (nn : Nat) : xm := wR (nw (wA (wA (wA (wR (nw (wR (wR (nw (nw (wR (nw M 32 3 39942 3) (uA n) 3 (knA n)) 6 0 39948 8) 35 4 31238 4) (nowA n) 7 (fedA (10 * n))) (uA n) 4 (nowA n)) 36 9 39961 9) (uA n) 6 (paA n)) (uA n) 0 n) (uA n) 1 kd) (uA n) 2 rk) 32 nn 39993 nn) (uA n) 5 (na M 32 nn 39993)
section UM
variable {M : xm} {n nn : Nat} {kd rk : Int}
def cnt (M : xm) (n : Nat) : Prop := mC M 83764445408 = n ∧ mC M 83777028102 = n ∧ mC M 83804291684 = n ∧ mC M 83972063238 = 9 * n ∧ mC M 65510834467 = 10 * n
theorem cnt.e (h : cnt M n) : na M 32 3 39942 = knA n ∧ na M 6 0 39948 = nowA n ∧ na M 35 4 31238 = fedA (10 * n) ∧ na M 36 9 39961 = paA n := by
  obtain ⟨a, b, c, d, e⟩ := h
  exact ⟨na_e (show mC M (ky 32 3 39942) = n from a), na_e (show mC M (ky 6 0 39948) = n from b), na_e (show mC M (ky 35 4 31238) = 10 * n from e), na_e (show mC M (ky 36 9 39961) = n from c)⟩
theorem un_ne (n I : Nat) (h : I % 274877906944 = 83871400160 ∨ I % 274877906944 = 83871400096) : ¬ uA n = I ∧ ¬ knA n = I ∧ ¬ nowA n = I ∧ ¬ fedA (10 * n) = I := by
  refine ⟨fun q => ?_, fun q => ?_, fun q => ?_, fun q => ?_⟩
  · rw [← q, show uA n % 274877906944 = 42970644489 by unfold uA; omega] at h; omega
  · rw [← q, show knA n % 274877906944 = 83764445408 by unfold knA; omega] at h; omega
  · rw [← q, show nowA n % 274877906944 = 83777028102 by unfold nowA; omega] at h; omega
  · rw [← q, show fedA (10 * n) % 274877906944 = 65510834467 by unfold fedA; omega] at h; omega
theorem un_d (n : Nat) : (¬ uA n = paA n ∧ ¬ uA n = fedA (10 * n) ∧ ¬ uA n = nowA n ∧ ¬ uA n = knA n) ∧ (¬ nowA n = paA n ∧ ¬ nowA n = fedA (10 * n) ∧ ¬ knA n = paA n ∧ ¬ knA n = fedA (10 * n) ∧ ¬ knA n = nowA n ∧ ¬ fedA (10 * n) = paA n) := by
  unfold uA paA fedA nowA knA
  refine ⟨⟨?_, ?_, ?_, ?_⟩, ?_, ?_, ?_, ?_, ?_, ?_⟩ <;> omega
theorem mod_ad (key c : Nat) (h : key < 274877906944) : (key + 274877906944 * c) % 274877906944 = key ∧ (key + 274877906944 * c) / 274877906944 = c := by omega
theorem uS_0 (hR : inR M) (h : cnt M n) (hn : (n : Int) ≤ 23) (hk : 0 ≤ kd ∧ kd ≤ 10) (hr : 0 ≤ rk ∧ rk ≤ 4) (hnn : (nn = 3 ∧ kd = 5) ∨ (nn = 2 ∧ ¬ kd = 5)) : uS M (unM M n kd rk nn) n kd rk (na M 32 nn 39993) 0 := by
  have kK : mK M + 1 + 1 + 1 + 1 + 1 ≤ mK M + 5 + 2 * 0 := Nat.le_refl _
  have kS : mS M + 3 + 8 + 4 + 9 + nn ≤ mS M + 63 + 12 * 0 := by
    rcases hnn with ⟨rfl, _⟩ | ⟨rfl, _⟩ <;> omega
  have wK : wr kd = kd := wr_id (by omega) (by omega)
  have wN : wr (n : Int) = n := wr_id (by omega) (by omega)
  have wQ : wr rk = rk := wr_id (by omega) (by omega)
  obtain ⟨e1, e2, e3, e4⟩ := h.e
  obtain ⟨h1, h2, h3, h4, h5⟩ := h
  have kI : ky 32 nn 39993 = if kd = 5 then 83871400160 else 83871400096 := by
    rcases hnn with ⟨rfl, q⟩ | ⟨rfl, q⟩
    · rw [if_pos q]; rfl
    · rw [if_neg q]; rfl
  have kk : ky 32 nn 39993 = 83871400160 ∨ ky 32 nn 39993 = 83871400096 := by
    rw [kI]
    split
    · exact Or.inl rfl
    · exact Or.inr rfl
  have dd : ∀ k, ¬ k = 83871400160 → ¬ k = 83871400096 → ¬ ky 32 nn 39993 = k := fun k x y q => by
    rcases kk with z | z
    · exact x (q.symm.trans z)
    · exact y (q.symm.trans z)
  have d1 : ¬ ky 32 nn 39993 = ky 32 3 39942 := dd _ (by decide) (by decide)
  have d2 : ¬ ky 32 nn 39993 = ky 6 0 39948 := dd _ (by decide) (by decide)
  have d3 : ¬ ky 32 nn 39993 = ky 35 4 31238 := dd _ (by decide) (by decide)
  have d4 : ¬ ky 32 nn 39993 = ky 36 9 39961 := dd _ (by decide) (by decide)
  have kl : ky 32 nn 39993 < 274877906944 := by rcases kk with z | z <;> (rw [z]; decide)
  generalize hI : na M 32 nn 39993 = I
  generalize hM' : unM M n kd rk nn = M'
  unfold unM at hM'
  rw [hI] at hM'
  have nI : na M 32 nn 39993 = ky 32 nn 39993 + 274877906944 * mC M (ky 32 nn 39993) := rfl
  rw [hI] at nI
  have mI : I % 274877906944 = ky 32 nn 39993 := by rw [nI]; exact (mod_ad _ _ kl).1
  have qI : I / 274877906944 = mC M (ky 32 nn 39993) := by rw [nI]; exact (mod_ad _ _ kl).2
  have eA : ∀ l j, mA M' l j = if l = I then 0 else if l = uA n ∧ j = 2 then rk else if l = uA n ∧ j = 1 then kd else if l = uA n ∧ j = 0 then (n : Int) else if l = paA n then 0 else if l = fedA (10 * n) then 0 else if l = nowA n then 0 else if l = knA n then 0 else mA M l j := fun l j => by
    rw [← hM']
    simp (disch := first | assumption | decide) only [MM, NW, e1, e2, e3, e4, hI]
  have eB : ∀ l j, mB M' l j = if l = I then 0 else if l = paA n then 0 else if l = fedA (10 * n) then 0 else if l = nowA n then 0 else if l = knA n then 0 else mB M l j := fun l j => by
    rw [← hM']
    simp (disch := first | assumption | decide) only [MM, NW, e1, e2, e3, e4, hI]
  have eR : ∀ l j, mR M' l j = if l = uA n ∧ j = 5 then I else if l = I then 0 else if l = uA n ∧ j = 6 then paA n else if l = paA n then 0 else if l = uA n ∧ j = 4 then nowA n else if l = nowA n ∧ j = 7 then fedA (10 * n) else if l = fedA (10 * n) then 0 else if l = nowA n then 0 else if l = uA n ∧ j = 3 then knA n else if l = knA n then 0 else mR M l j := fun l j => by
    rw [← hM']
    simp (disch := first | assumption | decide) only [MM, NW, e1, e2, e3, e4, hI]
  have eC : ∀ k, ¬ k = ky 32 nn 39993 → mC M' k = if k = ky 36 9 39961 then mC M k + 1 else if k = ky 35 4 31238 then mC M k + 1 else if k = ky 6 0 39948 then mC M k + 1 else if k = ky 32 3 39942 then mC M k + 1 else mC M k := fun k q => by
    rw [← hM']
    simp only [MM, q, if_false]
    by_cases q1 : k = ky 36 9 39961
    · have x2 : ¬ k = ky 35 4 31238 := by rw [q1]; decide
      have x3 : ¬ k = ky 6 0 39948 := by rw [q1]; decide
      have x4 : ¬ k = ky 32 3 39942 := by rw [q1]; decide
      simp only [q1, x2, x3, x4, if_true, if_false]
      rw [← q1, if_neg x2, if_neg x3, if_neg x4]
    · by_cases q2 : k = ky 35 4 31238
      · have x3 : ¬ k = ky 6 0 39948 := by rw [q2]; decide
        have x4 : ¬ k = ky 32 3 39942 := by rw [q2]; decide
        rw [if_neg q1, if_neg q1, if_pos q2, if_pos q2, if_neg x3, if_neg x4]
      · by_cases q3 : k = ky 6 0 39948
        · have x4 : ¬ k = ky 32 3 39942 := by rw [q3]; decide
          rw [if_neg q1, if_neg q1, if_neg q2, if_neg q2, if_pos q3, if_pos q3, if_neg x4]
        · rw [if_neg q1, if_neg q1, if_neg q2, if_neg q2, if_neg q3, if_neg q3]
  have cI : mC M' (ky 32 nn 39993) = mC M (ky 32 nn 39993) + 1 := by
    rw [← hM']
    simp only [MM, if_pos, d1, d2, d3, d4, if_false]
  have le : ∀ k, mC M k ≤ mC M' k := fun k => by
    by_cases q : k = ky 32 nn 39993
    · rw [q, cI]; exact Nat.le_succ _
    · rw [eC k q]
      split
      · exact Nat.le_succ _
      · split
        · exact Nat.le_succ _
        · split
          · exact Nat.le_succ _
          · split
            · exact Nat.le_succ _
            · exact Nat.le_refl _
  have eD : ∀ k, ¬ k = 83871400160 → ¬ k = 83871400096 → mC M' k = if k = ky 36 9 39961 then mC M k + 1 else if k = ky 35 4 31238 then mC M k + 1 else if k = ky 6 0 39948 then mC M k + 1 else if k = ky 32 3 39942 then mC M k + 1 else mC M k := fun k x y => eC k (fun q => by
    rcases kk with z | z
    · exact x (q.trans z)
    · exact y (q.trans z))
  have aI : alv M' I := by
    unfold alv
    rw [mI, cI, qI]
    exact Nat.lt_succ_self _
  have bI : ¬ alv M I := by
    unfold alv
    rw [mI, qI]
    exact Nat.lt_irrefl _
  obtain ⟨I1, I2, I3, I4⟩ := un_ne n I (by rw [mI]; exact kk)
  obtain ⟨⟨a1, a2, a3, a4⟩, b1, b2, b3, b4, b5, b6⟩ := un_d n
  have n1 : ¬ nowA n = uA n := fun q => a3 q.symm
  have n2 : ¬ knA n = uA n := fun q => a4 q.symm
  have n3 : ¬ fedA (10 * n) = uA n := fun q => a2 q.symm
  have n4 : ¬ fedA (10 * n) = nowA n := fun q => b2 q.symm
  refine ⟨fun l j q => ?_, ⟨?_, ?_, ?_, fun j => ?_⟩, ⟨?_, ?_, ?_, ?_, ?_⟩, ⟨fun j => ⟨?_, ?_⟩, ?_, fun j => ?_⟩, fun i hi => absurd hi (Nat.not_lt_zero i), ⟨⟨?_, ?_, ?_, ?_, ?_, ?_⟩, le⟩, ⟨?_, ?_, ?_⟩, ⟨?_, ?_⟩, fun l j => ?_⟩
  · unfold nL at q
    have q1 : ¬ l = uA n := fun z => q (by simp [z])
    have q2 : ¬ l = knA n := fun z => q (by simp [z])
    have q3 : ¬ l = nowA n := fun z => q (by simp [z])
    have q4 : ¬ l = paA n := fun z => q (by simp [z])
    have q5 : ¬ l = I := fun z => q (by simp [z])
    have q6 : ¬ l = fedA (10 * n) := fun z => q (Or.inr (Or.inr (Or.inr (Or.inr (Or.inr (Or.inr ⟨_, Nat.le_refl _, z⟩))))))
    rw [eA, eB, eR]
    simp only [q1, q2, q3, q4, q5, q6, false_and, if_false, and_self]
  · rw [eA, if_neg I1, if_neg (fun q => absurd q.2 (by decide)), if_neg (fun q => absurd q.2 (by decide)), if_pos ⟨rfl, rfl⟩]
  · rw [eA, if_neg I1, if_neg (fun q => absurd q.2 (by decide)), if_pos ⟨rfl, rfl⟩]
  · rw [eA, if_neg I1, if_pos ⟨rfl, rfl⟩]
  · rw [eA, if_neg I2, if_neg (fun q => n2 q.1), if_neg (fun q => n2 q.1), if_neg (fun q => n2 q.1), if_neg b3, if_neg b4, if_neg b5, if_pos rfl]
  · rw [eR, if_neg (fun q => absurd q.2 (by decide)), if_neg I1, if_neg (fun q => absurd q.2 (by decide)), if_neg a1, if_neg (fun q => absurd q.2 (by decide)), if_neg (fun q => absurd q.2 (by decide)), if_neg a2, if_neg a3, if_pos ⟨rfl, rfl⟩]
  · rw [eR, if_neg (fun q => absurd q.2 (by decide)), if_neg I1, if_neg (fun q => absurd q.2 (by decide)), if_neg a1, if_pos ⟨rfl, rfl⟩]
  · rw [eR, if_pos ⟨rfl, rfl⟩]
  · rw [eR, if_neg (fun q => absurd q.2 (by decide)), if_neg I1, if_pos ⟨rfl, rfl⟩]
  · rw [eR, if_neg (fun q => absurd q.2 (by decide)), if_neg I3, if_neg (fun q => absurd q.2 (by decide)), if_neg b1, if_neg (fun q => absurd q.2 (by decide)), if_pos ⟨rfl, rfl⟩]
  · rw [eA, if_neg I3, if_neg (fun q => n1 q.1), if_neg (fun q => n1 q.1), if_neg (fun q => n1 q.1), if_neg b1, if_neg b2, if_pos rfl]
  · rw [eB, if_neg I3, if_neg b1, if_neg b2, if_pos rfl]
  · rw [eR, if_neg (fun q => absurd q.2 (by decide)), if_neg I3, if_neg (fun q => absurd q.2 (by decide)), if_neg b1, if_neg (fun q => absurd q.2 (by decide)), if_neg (fun q => absurd q.2 (by decide)), if_neg b2, if_pos rfl]
  · rw [eR, if_neg (fun q => n3 q.1), if_neg I4, if_neg (fun q => n3 q.1), if_neg b6, if_neg (fun q => n3 q.1), if_neg (fun q => n4 q.1), if_pos rfl]
  · rw [eD _ (by decide) (by decide), if_neg (by decide), if_neg (by decide), if_neg (by decide), if_neg (by decide)]
  · rw [eD _ (by decide) (by decide), if_neg (by decide), if_neg (by decide), if_neg (by decide), if_pos (by decide), h1]
  · rw [eD _ (by decide) (by decide), if_neg (by decide), if_neg (by decide), if_pos (by decide), h2]
  · rw [eD _ (by decide) (by decide), if_pos (by decide), h3]
  · rw [eD _ (by decide) (by decide), if_neg (by decide), if_neg (by decide), if_neg (by decide), if_neg (by decide), h4]
    rfl
  · rw [eD _ (by decide) (by decide), if_neg (by decide), if_pos (by decide), h5]
  · rw [mI]; exact kI
  · exact aI
  · exact bI
  · rw [← hM']
    exact kK
  · rw [← hM']
    exact kS
  · rw [eA]
    split
    · decide
    · split
      · exact wQ
      · split
        · exact wK
        · split
          · exact wN
          · split
            · decide
            · split
              · decide
              · split
                · decide
                · split
                  · decide
                  · exact hR l j
/-- 0 .. k - 1 of the ins are -1 -/
def inK (M : xm) (I : Nat) (k : Int) : Prop := ∀ j : Int, 0 ≤ j → j < k → mA M I j.toNat = -1
theorem l_ins {M0 : xm} {I : Nat} (x1 : Int) (hk : 0 ≤ kd ∧ kd ≤ 10) (Q : Option xv → xm → Prop) (hg : ∀ M, uS M0 M n kd rk I 0 → inK M I (nin kd) → Wp qX8_init 92 [vR (uA n), vI x1, vI kd, vI rk, vI 0] [] M Q) : ∀ (d : Nat) (i : Int) (M : xm), i + d = nin kd → 0 ≤ i → uS M0 M n kd rk I 0 → inK M I i → Wp qX8_init 65 [vR (uA n), vI x1, vI kd, vI rk, vI i] [] M Q
  | 0, i, M, hd, h0, hu, hi => by
    have hb := nin_b kd
    obtain ⟨t1, t2⟩ := hu.t
    have tz := tg_ne t1 (by decide)
    have e5 := hu.2.2.1.2.2.1
    obtain rfl : i = nin kd := by omega
    have g := hg M hu hi
    rw [HX8_init_65]
    simp (disch := first | omega | (simp only [DT, DS, ne_eq, Nat.reduceEqDiff, not_false_eq_true]; done)) only [RX8_init, TGf, e5, t1, t2, tz, BW, wr_id, OM, OE, PL, ↓reduceIte, TGs, bi_T, bi_F, bi_ff, Nat.reduceLeDiff, Nat.reduceLT, Nat.reduceAdd]
    exact g
  | d + 1, i, M, hd, h0, hu, hi => by
    have hb := nin_b kd
    obtain ⟨t1, t2⟩ := hu.t
    have tz := tg_ne t1 (by decide)
    have e5 := hu.2.2.1.2.2.1
    have g := l_ins x1 hk Q hg d (i + 1) (wA M I i.toNat (-1)) (by omega) (by omega) (uS_i hu _) (fun j a b => by
      by_cases z : j = i
      · rw [z, wA_e]
      · rw [wA_o _ _ (fun q => by have := q.2; omega)]
        exact hi j a (by omega))
    rw [HX8_init_65]
    simp (disch := first | omega | (simp only [DT, DS, ne_eq, Nat.reduceEqDiff, not_false_eq_true]; done)) only [RX8_init, TGf, e5, t1, t2, tz, BW, wr_id, OM, OE, PL, ↓reduceIte, TGs, bi_T, bi_F, bi_ff, Nat.reduceLeDiff, Nat.reduceLT, Nat.reduceAdd]
    exact g
theorem l_past {M0 : xm} {I : Nat} (x1 : Int) (Q : Option xv → xm → Prop) (hg : ∀ M, uS M0 M n kd rk I 9 → inK M I (nin kd) → Q none M) : ∀ (d : Nat) (i : Int) (M : xm), i + d = 9 → 0 ≤ i → uS M0 M n kd rk I i.toNat → inK M I (nin kd) → Wp qX8_init 92 [vR (uA n), vI x1, vI kd, vI rk, vI i] [] M Q
  | 0, i, M, hd, h0, hu, hi => by
    obtain rfl : i = 9 := by omega
    have g := hg M hu hi
    rw [HX8_init_92]
    simp (disch := first | omega | (simp only [DT, DS, ne_eq, Nat.reduceEqDiff, not_false_eq_true]; done)) only [RX8_init, TGf, BW, wr_id, OM, OE, PL, ↓reduceIte, TGs, bi_T, bi_F, bi_ff, Nat.reduceLeDiff, Nat.reduceLT, Nat.reduceAdd]
    exact g
  | d + 1, i, M, hd, h0, hu, hi => by
    have e6 := hu.2.2.1.2.2.2.1
    have tI := hu.t.1
    have f := hu.2.2.2.2.2.1.1
    have e1 : na M 6 0 40041 = psA (9 * n + i.toNat) := na_e (show mC M (ky 6 0 40041) = 9 * n + i.toNat from f.2.2.2.2.1)
    have e2 : na (nw M 6 0 40041 8) 35 4 31238 = fedA (10 * n + 1 + i.toNat) := by
      rw [NW.2.2 _ _ _ _ _ _ _ _ (by decide)]
      exact na_e (show mC M (ky 35 4 31238) = 10 * n + 1 + i.toNat from f.2.2.2.2.2)
    have up : ¬ uA n = psA (9 * n + i.toNat) := by unfold uA psA; omega
    have ih := fun M' => l_past x1 Q hg d (i + 1) M' (by omega) (by omega)
    rw [show (i + 1).toNat = i.toNat + 1 by omega] at ih
    have g := ih _ (uS_s hu) (fun j a b => by
      have q1 : ¬ I = fedA (10 * n + 1 + i.toNat) := fun z => by rw [z, TGf.2.2.2.2.2.2.2.2.2.2.2.2.2.2.1] at tI; omega
      have q2 : ¬ I = psA (9 * n + i.toNat) := fun z => by rw [z, ps_t] at tI; omega
      show mA (nw (nw M 6 0 40041 8) 35 4 31238 4) I j.toNat = -1
      rw [MM.2.2.2.2.2.2.2.2.2.2.2.2.2.2.2.2.1, e2, if_neg q1, MM.2.2.2.2.2.2.2.2.2.2.2.2.2.2.2.2.1, e1, if_neg q2]
      exact hi j a b)
    have q5 := fun M Q => c_init5 (M := M) (L := psA (9 * n + i.toNat)) (ps_t _) Q
    have e7 : ∀ a, mR (nw M 6 0 40041 a) (uA n) 6 = paA n := fun a => by rw [MM.2.2.2.2.2.2.2.2.2.2.2.2.2.2.2.2.2.2.1, e1, if_neg up, e6]
    rw [HX8_init_92]
    simp (disch := first | omega | (simp only [DT, DS, ne_eq, Nat.reduceEqDiff, not_false_eq_true]; done)) only [RX8_init, TGf, e1, e2, e6, q5, ps_t, xel, BW, wr_id, OM, OE, PL, ↓reduceIte, TGs, bi_T, bi_F, bi_ff, Nat.reduceLeDiff, Nat.reduceLT, Nat.reduceAdd]
    exact g
end UM
