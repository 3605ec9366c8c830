/-! 42.mact: the reference: SWITCH, DELAY; a module acts (written by wip/whole/wgen4.py) -/
def aPost (M0 : xm) (m : Int) (Q : Option xv → xm → Prop) : (Int × Int) ⊕ SS → Prop
  | .inr s => ∀ M, mG M0 m M → mS1 M m s → Q (some (vI 1)) M
  | .inl (f, k) => ∀ M, mGo M0 m M → mA M aM 16 = f → mA M aM 17 = m → mA M aM 18 = k → Q (some (vI 0)) M
theorem mG.trans {M0 M1 M2 : xm} {m : Int} (h : mG M0 m M1) (g : mG M1 m M2) : mG M0 m M2 := by
  obtain ⟨a1, a2, a3, a4, a5, a6⟩ := h
  obtain ⟨b1, b2, b3, b4, b5, b6⟩ := g
  exact ⟨fun l j x y z => (b1 l j x y z).trans (a1 l j x y z), fun l j x y z => (b2 l j x y z).trans (a2 l j x y z), b3.trans a3, b4.trans a4, ⟨b5.1.trans a5.1, b5.2.1.trans a5.2.1, b5.2.2.trans a5.2.2⟩, b6⟩
theorem mGo.trans {M0 M1 M2 : xm} {m : Int} (h : mGo M0 m M1) (g : mGo M1 m M2) : mGo M0 m M2 := by
  obtain ⟨a1, a2, a3, a4, a5, a6⟩ := h
  obtain ⟨b1, b2, b3, b4, b5, b6⟩ := g
  exact ⟨fun l j x y z => (b1 l j x y z).trans (a1 l j x y z), fun l j x y z => (b2 l j x y z).trans (a2 l j x y z), b3.trans a3, b4.trans a4, ⟨b5.1.trans a5.1, b5.2.trans a5.2⟩, b6⟩
theorem afail {M : xm} {m f k : Int} {Q : Option xv → xm → Prop} (hR : inR M) (hm : 0 ≤ m) (hf : wr f = f) (hmw : wr m = m) (hk : wr k = k) (hP : aPost M m Q (.inl (f, k))) : Q (some (vI 0)) (wA (wA (wA M aM 16 f) aM 17 m) aM 18 k) := by
  refine hP _ (mFo.g ((((mF.refl m hR).o.wM (Or.inl rfl) hf).wM (Or.inr (Or.inl rfl)) hmw).wM (Or.inr (Or.inr (Or.inl rfl))) hk) hm) ?_ ?_ ?_ <;> simp [MM]
theorem fam_post {M1 : xm} {m n kd : Int} {s : SS} {C Q : Option xv → xm → Prop} (hc : mCf M1 n) (hm : 0 ≤ m ∧ m ≤ 23) (hk : 0 ≤ kd ∧ kd ≤ 4) (s1 : mS1 M1 m s) (hf : ∀ M, Q (some (vI 0)) M → C (some (vI 0)) M) (hg : ∀ M, mSt M → inR M → mA M aM 19 = n → Q (some (vI 1)) (gvM M m kd n) → C (some (vI 1)) M) : ∀ R, aPost M1 m Q (famF s kd n R) → mPost M1 m n C R
  | .inl (f, k), hP => fun M hF a b c => hf M (hP M (hF.g hm.1) a b c)
  | .inr z, hP => fun M hF hV => by
    have e := give_ok (kd := kd) hF hV s1 hm hc.2.2.2.2.2.2.2.2 hk
    exact hg M (hF.st hc.1) hF.2.2.2.2.2 (by rw [mF_m hF (by decide)]; exact hc.2.2.2.2.2.2.2.1) (hP _ e.1 e.2)
theorem fam_bZ (s : SS) (kd n : Int) (w : Int ⊕ Rw) (f : Rw → (Int × Int) ⊕ ZT) : bindW w (fun r => famF s kd n (f r)) = famF s kd n (bZ w f) := by
  cases w <;> rfl
theorem fam_if (s : SS) (kd n : Int) (p : Prop) [Decidable p] (x : Int × Int) (R : (Int × Int) ⊕ ZT) : (if p then .inl x else famF s kd n R) = famF s kd n (if p then .inl x else R) := by
  by_cases h : p
  · rw [if_pos h, if_pos h]; rfl
  · rw [if_neg h, if_neg h]
theorem w_switch {M : xm} {n t m : Int} {A : Int → SS} (hc : mCf M n) (ha : mAs M t A) (hm : 0 ≤ m ∧ m ≤ 23) (hself : ¬ mA M amCo (3 * m).toNat = m + 1) (Q : Option xv → xm → Prop) (hP : aPost M m Q (bindW (wantF A (mA M amCo (3 * m).toNat) (-1)) (fun r => bindW (wantF A (mA M amCo (3 * m + 1).toNat) 0) (fun g => if rwL g ≤ n - 1 then .inl (3, n - 1) else if FP.dcmp (rwV g (n - 1)) FP.dconst1 = some .eq then .inr (setR (A m) (some r)) else .inr (setR (A m) none))))) : Wp qX10_doesSwitch 0 [vR aM, vI m] [] M Q := by
  obtain ⟨hs, hR, hco, hkd, hrk, hkn, htm, en, hn⟩ := id hc
  have hR' : ∀ L k, wr (mA M L k) = mA M L k := hR
  obtain ⟨s1, s2⟩ := ha m hm.1 hm.2
  have hc0 := hco (3 * m).toNat
  have hc1 := hco (3 * m + 1).toNat
  have qw0 := fun Q => q_want (i := 0) (k := -1) hc ha hm (by omega) (by omega) Q
  rw [Int.add_zero] at qw0
  have qw1 := fun Q => q_want (i := 1) (k := 0) hc ha hm (by omega) (by omega) Q
  cases hw0 : wantF A (mA M amCo (3 * m).toNat) (-1) with
  | inl f =>
    rw [hw0] at hP qw0
    have hf := want_l hw0
    change ∀ Q : Option xv → xm → Prop, _ ↔ Q (some (vI 0)) (wA (wA (wA M aM 16 f) aM 17 m) aM 18 (-1)) at qw0
    have g := afail hR hm.1 (wr_id (by omega) (by omega)) (wr_id (by omega) (by omega)) (by decide) hP
    simp (disch := first | omega | (simp only [DT, DS, ne_eq, Nat.reduceEqDiff, not_false_eq_true]; done)) only [RX10_doesSwitch, BW, wr_id, OM, OE, PL, ↓reduceIte, mSt.e hs, hR', TGs, qw0, Nat.reduceLeDiff, Nat.reduceAdd]
    exact g
  | inr r =>
    rw [hw0] at hP qw0
    change ∀ Q : Option xv → xm → Prop, _ ↔ Q (some (vI 1)) M at qw0
    cases hw1 : wantF A (mA M amCo (3 * m + 1).toNat) 0 with
    | inl f =>
      change aPost M m Q (bindW (wantF A (mA M amCo (3 * m + 1).toNat) 0) _) at hP
      rw [hw1] at hP qw1
      have hf := want_l hw1
      change ∀ Q : Option xv → xm → Prop, _ ↔ Q (some (vI 0)) (wA (wA (wA M aM 16 f) aM 17 m) aM 18 (-1)) at qw1
      have g := afail hR hm.1 (wr_id (by omega) (by omega)) (wr_id (by omega) (by omega)) (by decide) hP
      simp (disch := first | omega | (simp only [DT, DS, ne_eq, Nat.reduceEqDiff, not_false_eq_true]; done)) only [RX10_doesSwitch, BW, wr_id, OM, OE, PL, ↓reduceIte, mSt.e hs, hR', TGs, qw0, qw1, Nat.reduceLeDiff, Nat.reduceAdd]
      exact g
    | inr g =>
      change aPost M m Q (bindW (wantF A (mA M amCo (3 * m + 1).toNat) 0) _) at hP
      rw [hw1] at hP qw1
      change ∀ Q : Option xv → xm → Prop, _ ↔ Q (some (vI 1)) M at qw1
      change aPost M m Q (if rwL g ≤ n - 1 then .inl (3, n - 1) else if FP.dcmp (rwV g (n - 1)) FP.dconst1 = some .eq then .inr (setR (A m) (some r)) else .inr (setR (A m) none)) at hP
      obtain ⟨u1, u2, u3⟩ := want_r hw0
      obtain ⟨w1, w2, w3⟩ := want_r hw1
      have t3 := (ha (mA M amCo (3 * m).toNat - 1) (by omega) (by omega)).1.1
      rw [u2] at t3
      have t4 := (ha (mA M amCo (3 * m + 1).toNat - 1) (by omega) (by omega)).1.1
      rw [w2] at t4
      obtain ⟨r1, r2, r3, r4⟩ := mRw_s t4
      have iq := in_q (k := n - 1) hs (mF.refl m hR) hm hco (i := 1) (o := mA M amCo (3 * m + 1).toNat - 1) (by omega) (by omega) (by omega) (by omega)
      rw [r2, r4 (n - 1) (by omega) (by omega)] at iq
      by_cases c1 : rwL g ≤ n - 1
      · rw [if_pos c1] at hP
        have g2 := afail hR hm.1 (by decide) (wr_id (by omega) (by omega)) (wr_id (by omega) (by omega)) hP
        simp (disch := first | omega | (simp only [DT, DS, ne_eq, Nat.reduceEqDiff, not_false_eq_true]; done)) only [RX10_doesSwitch, BW, wr_id, OM, OE, PL, ↓reduceIte, mSt.e hs, hR', TGs, qw0, qw1, en, iq.1, Nat.reduceLeDiff, Nat.reduceAdd]
        exact g2
      · rw [if_neg c1] at hP
        by_cases c2 : FP.dcmp (rwV g (n - 1)) FP.dconst1 = some .eq
        · rw [if_pos c2] at hP
          have e := cp_ok (f := mA M amCo (3 * m).toNat - 1) (r := 0) s1 hm (by omega) t3 hR
          have g2 := hP _ e.1 e.2
          simp (disch := first | omega | (simp only [DT, DS, ne_eq, Nat.reduceEqDiff, not_false_eq_true]; done)) only [RX10_doesSwitch, BW, wr_id, OM, OE, PL, ↓reduceIte, mSt.e hs, hR', TGs, qw0, qw1, en, iq.1, iq.2.2, cmp_l, c2, s_copyRow _ 0 m 0 M hs hR, Nat.reduceLeDiff, Nat.reduceAdd]
          exact g2
        · rw [if_neg c2] at hP
          have e := no_ok s1 hm hR
          have g2 := hP _ e.1 e.2
          simp (disch := first | omega | (simp only [DT, DS, ne_eq, Nat.reduceEqDiff, not_false_eq_true]; done)) only [RX10_doesSwitch, BW, wr_id, OM, OE, PL, ↓reduceIte, mSt.e hs, hR', TGs, qw0, qw1, en, iq.1, iq.2.2, cmp_l, c2, s_noRow m 0 M hs hR, Nat.reduceLeDiff, Nat.reduceAdd]
          exact g2
theorem w_delay {M : xm} {n m : Int} (hc : mCf M n) (hm : 0 ≤ m ∧ m ≤ 23) (Q : Option xv → xm → Prop) (hP : Q none (cpRow M m (clp (mA M amKn (3 * m).toNat)) m 0)) : Wp qX10_delay 0 [vR aM, vI m, vX] [] M Q := by
  obtain ⟨hs, hR, hco, hkd, hrk, hkn, htm, en, hn⟩ := id hc
  have hR' : ∀ L k, wr (mA M L k) = mA M L k := hR
  have hk := hkn (3 * m).toNat
  unfold clp at hP
  by_cases c1 : mA M amKn (3 * m).toNat < 1
  · rw [if_pos c1] at hP
    simp (disch := first | omega | (simp only [DT, DS, ne_eq, Nat.reduceEqDiff, not_false_eq_true]; done)) only [RX10_delay, BW, wr_id, OM, OE, PL, ↓reduceIte, mSt.e hs, hR', TGs, s_copyRow m _ m 0 M hs hR, Nat.reduceLeDiff, Nat.reduceAdd]
    exact hP
  · rw [if_neg c1] at hP
    by_cases c2 : 4 < mA M amKn (3 * m).toNat
    · rw [if_pos c2] at hP
      simp (disch := first | omega | (simp only [DT, DS, ne_eq, Nat.reduceEqDiff, not_false_eq_true]; done)) only [RX10_delay, BW, wr_id, OM, OE, PL, ↓reduceIte, mSt.e hs, hR', TGs, s_copyRow m _ m 0 M hs hR, Nat.reduceLeDiff, Nat.reduceAdd]
      exact hP
    · rw [if_neg c2] at hP
      simp (disch := first | omega | (simp only [DT, DS, ne_eq, Nat.reduceEqDiff, not_false_eq_true]; done)) only [RX10_delay, BW, wr_id, OM, OE, PL, ↓reduceIte, mSt.e hs, hR', TGs, s_copyRow m _ m 0 M hs hR, Nat.reduceLeDiff, Nat.reduceAdd]
      exact hP
