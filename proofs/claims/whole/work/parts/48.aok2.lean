/-! 48.aok2: a module's act: its state is one as it may be; the act ahead of newNone = 0 -/
theorem z0_ok {kd t : Int} {s : SS} (h : okS t s) : zOk kd (sN s) 0 (z0 s) := by
  obtain ⟨_, g2, g3, g4, g5, _, _⟩ := h
  exact ⟨g2, g3, g4, ⟨g5.1, by show sN s ≤ sN s + 0; omega⟩, ⟨Int.le_refl 0, by show (0 : Int) < 2 ^ 0; decide⟩, fun _ => rfl, fun j a b => absurd a (by omega), fun j a b => absurd a (by omega)⟩
theorem fam_ok {step : Int → ZT → Int ⊕ ZT} {s s' : SS} {kd n t : Int} (hs : okS t s) (hn : 1 ≤ n ∧ n ≤ 16) (hk : 0 ≤ kd ∧ kd ≤ 4) (hI : ∀ j y w, 0 ≤ j ∧ j ≤ 15 → zOk kd (sN s) j y → step j y = .inr w → zOk kd (sN s) (j + 1) w) (h : famF s kd n (lpF step n.toNat 0 (z0 s)) = .inr s') : okS (t + 1) s' := by
  cases e : lpF step n.toNat 0 (z0 s) with
  | inl f =>
    rw [e] at h
    exact absurd h (by simp [famF])
  | inr z =>
    rw [e] at h
    obtain rfl := Sum.inr.inj (show Sum.inr (newS s z kd n) = Sum.inr s' from h)
    have g := lpF_inv (zOk kd (sN s)) n.toNat 0 (z0 s) z (fun j y w a b c d => hI j y w (by omega) c d) (z0_ok hs) e
    rw [show (0 : Int) + (n.toNat : Int) = n by omega] at g
    exact new_ok hs hn hk g
theorem set_ok {s : SS} {t : Int} {x : Option Rw} (hs : okS t s) (hx : okO x) : okS (t + 1) (setR s x) := by
  obtain ⟨g1, g2, g3, g4, g5, g6, g7⟩ := hs
  exact ⟨hx, g2, g3, g4, ⟨g5.1, by show sN s ≤ _; have := g5.2; omega⟩, g6, g7⟩
theorem okO_n : okO none := fun _ h => absurd h (by simp)
theorem fam_l {s s' : SS} {kd n : Int} {x : Int × Int} : ¬ famF s kd n (.inl x) = .inr s' := fun h => absurd h (by simp [famF])
theorem act_ok {M : xm} {n t m : Int} {A : Int → SS} {s' : SS} (hc : mCf M n) (ha : ∀ o, 0 ≤ o → o ≤ 23 → okS t (A o)) (hm : 0 ≤ m ∧ m ≤ 23) (h : actF (mA M) n A m = .inr s') : okS (t + 1) s' := by
  obtain ⟨hs, hR, hco, hkd, hrk, hkn, htm, en, hn⟩ := id hc
  have s2 := ha m hm.1 hm.2
  have hk := hkd m.toNat
  have hc0 := hco (3 * m).toNat
  have hc1 := hco (3 * m + 1).toNat
  have rok : ∀ {k : Int} {r : Rw}, wantF A (mA M amCo (3 * m).toNat) k = .inr r → okR r := fun {k r} hw => (ha _ (by have := (want_r hw).1; omega) (by omega)).1 r (want_r hw).2.1
  have bz : ∀ {k kd : Int} {f : Rw → (Int × Int) ⊕ ZT}, famF (A m) kd n (bZ (wantF A (mA M amCo (3 * m).toNat) k) f) = .inr s' → ∃ r, wantF A (mA M amCo (3 * m).toNat) k = .inr r ∧ famF (A m) kd n (f r) = .inr s' := fun {k kd f} hq => by
    cases e : wantF A (mA M amCo (3 * m).toNat) k with
    | inl x =>
      rw [e] at hq
      exact absurd hq fam_l
    | inr r =>
      rw [e] at hq
      exact ⟨r, rfl, hq⟩
  by_cases e0 : mA M amKd m.toNat = 0
  · rw [actF_0 e0] at h
    by_cases c1 : ¬ (0 ≤ mA M amKn (3 * m).toNat ∧ mA M amKn (3 * m).toNat ≤ 7)
    · rw [if_pos c1] at h
      exact absurd h fam_l
    · rw [if_neg c1] at h
      by_cases c2 : mA M amTm (mA M amKn (3 * m).toNat).toNat = 0
      · rw [if_pos c2] at h
        exact absurd h fam_l
      · rw [if_neg c2] at h
        exact fam_ok s2 hn (hrk _) (fun j y w a b c => srcS_ok b a (by have := htm (mA M amKn (3 * m).toNat).toNat; omega) (hrk _) (fun j => inR.b hR _ _) c) h
  by_cases e5 : mA M amKd m.toNat = 5
  · rw [actF_5 e5] at h
    split at h
    · exact absurd h (by simp)
    · split at h
      · exact fam_ok s2 hn (by omega) (fun j y w a b c => mixS_ok b a c) h
      · obtain rfl := Sum.inr.inj h
        exact set_ok s2 okO_n
  by_cases e6 : mA M amKd m.toNat = 6
  · rw [actF_6 e6] at h
    obtain rfl := Sum.inr.inj h
    have hcl : 1 ≤ clp (mA M amKn (3 * m).toNat) ∧ clp (mA M amKn (3 * m).toNat) ≤ 4 := by
      unfold clp
      repeat' split
      all_goals omega
    exact set_ok s2 (s2.2.2.2.2.2.2 _ hcl.1 hcl.2)
  by_cases e7 : mA M amKd m.toNat = 7
  · rw [actF_7 e7] at h
    obtain ⟨r, hr, h⟩ := bz h
    exact fam_ok s2 hn (by omega) (fun j y w a b c => gatS_ok b a c) h
  by_cases e8 : mA M amKd m.toNat = 8
  · rw [actF_8 e8] at h
    obtain ⟨r, hr, h⟩ := bz h
    have ok := rok hr
    exact fam_ok s2 hn (hrk _) (fun j y w a b c => trnS_ok b a (hrk _) (fun q => (ok.2.2.2.2.1 j a.1 a.2).2 (of_decide_eq_true q)) (fun q => sv_in (ok.2.2.2.2.1 j a.1 a.2) (by have := of_decide_eq_false q; omega)) c) h
  by_cases e9 : mA M amKd m.toNat = 9
  · rw [actF_9 e9] at h
    cases e : wantF A (mA M amCo (3 * m).toNat) (-1) with
    | inl x =>
      rw [e] at h
      exact absurd h (by simp [bindW])
    | inr r =>
      rw [e] at h
      change bindW (wantF A (mA M amCo (3 * m + 1).toNat) 0) _ = _ at h
      cases e' : wantF A (mA M amCo (3 * m + 1).toNat) 0 with
      | inl x =>
        rw [e'] at h
        exact absurd h (by simp [bindW])
      | inr g =>
        rw [e'] at h
        change (if rwL g ≤ n - 1 then Sum.inl (3, n - 1) else if FP.dcmp (rwV g (n - 1)) FP.dconst1 = some .eq then Sum.inr (setR (A m) (some r)) else Sum.inr (setR (A m) none)) = Sum.inr s' at h
        split at h
        · exact absurd h (by simp)
        · split at h
          · obtain rfl := Sum.inr.inj h
            exact set_ok s2 (fun w hw => by obtain rfl := Option.some.inj hw; exact rok e)
          · obtain rfl := Sum.inr.inj h
            exact set_ok s2 okO_n
  by_cases e10 : mA M amKd m.toNat = 10
  · rw [actF_10 e10] at h
    obtain ⟨r, hr, h⟩ := bz h
    exact fam_ok s2 hn (by omega) (fun j y w a b c => menS_ok b a c) h
  rw [actF_1 (by omega)] at h
  obtain ⟨r, hr, h⟩ := bz h
  have ok := rok hr
  have k4 : rwK r = 4 := by have := (want_r hr).2.2; omega
  exact fam_ok s2 hn (by omega) (fun j y w a b c => shpS_ok b a hn (sv_mg (ok.2.2.2.2.1 j a.1 a.2) (by omega)) c) h
/-- a block leaves these alone -/
def cEq (M M' : xm) : Prop := ∀ j, mA M' amKd j = mA M amKd j ∧ mA M' amRk j = mA M amRk j ∧ mA M' amKn j = mA M amKn j ∧ mA M' amCo j = mA M amCo j ∧ mA M' amTm j = mA M amTm j ∧ mA M' amTb j = mA M amTb j
theorem actF_c {M M' : xm} (h : cEq M M') (n : Int) (A : Int → SS) (m : Int) : actF (mA M') n A m = actF (mA M) n A m := by
  unfold actF
  simp only [fun j => (h j).1, fun j => (h j).2.1, fun j => (h j).2.2.1, fun j => (h j).2.2.2.1, fun j => (h j).2.2.2.2.1, fun j => (h j).2.2.2.2.2]
theorem mCf_c {M M' : xm} {n : Int} (hc : mCf M n) (h : cEq M M') (hR : inR M') (hp : mR M' = mR M) (h19 : mA M' aM 19 = mA M aM 19) : mCf M' n := by
  obtain ⟨hs, _, hco, hkd, hrk, hkn, htm, en, hn⟩ := hc
  refine ⟨?_, hR, fun j => ?_, fun j => ?_, fun j => ?_, fun j => ?_, fun j => ?_, h19.trans en, hn⟩
  · unfold mSt at hs ⊢
    rw [hp]
    exact hs
  · rw [(h j).2.2.2.1]; exact hco j
  · rw [(h j).1]; exact hkd j
  · rw [(h j).2.1]; exact hrk j
  · rw [(h j).2.2.1]; exact hkn j
  · rw [(h j).2.2.2.2.1]; exact htm j
theorem mG.c {M0 M : xm} {m : Int} (h : mG M0 m M) : cEq M0 M := fun j => by
  refine ⟨?_, ?_, ?_, ?_, ?_, ?_⟩ <;> exact h.1 _ _ (fun q => absurd q.1 (by decide)) (fun q => absurd q.1 (by decide)) (fun q => absurd q.1 (by decide))
