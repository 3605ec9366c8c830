/-! 20.wrow: Wp, a row an instruction -/
section WR
variable {q : xq} {pc : Nat} {lv st : List xv} {M : xm} {Q : Option xv → xm → Prop}
theorem xstep_of {i : Instr} {n : Nat} (hd : decode (xqc q) pc = .ok (i, n)) (hn : n = xlen i n) : xstep q pc lv st M = xins q pc lv st M i := by
  unfold xstep
  rw [hd]
  exact if_pos hn
theorem w_go {i : Instr} {n pc' : Nat} {lv' st' : List xv} {M' : xm} (hd : decode (xqc q) pc = .ok (i, n)) (hn : n = xlen i n) (h : xins q pc lv st M i = xgo pc' lv' st' M') : Wp q pc lv st M Q ↔ Wp q pc' lv' st' M' Q := Wp_go ((xstep_of hd hn).trans h)
theorem w_if {i : Instr} {n pc' : Nat} {lv' st' : List xv} {M' : xm} {c : Prop} [Decidable c] (hd : decode (xqc q) pc = .ok (i, n)) (hn : n = xlen i n) (h : xins q pc lv st M i = if c then xgo pc' lv' st' M' else none) : Wp q pc lv st M Q ↔ c ∧ Wp q pc' lv' st' M' Q := Wp_if ((xstep_of hd hn).trans h)
theorem w_ni {i : Instr} {n pc' : Nat} {lv' st' : List xv} {M' : xm} {c : Prop} [Decidable c] (hd : decode (xqc q) pc = .ok (i, n)) (hn : n = xlen i n) (h : xins q pc lv st M i = if c then none else xgo pc' lv' st' M') : Wp q pc lv st M Q ↔ ¬ c ∧ Wp q pc' lv' st' M' Q := by
  by_cases hc : c
  · rw [if_pos hc] at h
    exact ⟨fun x => absurd x (Wp_no ((xstep_of hd hn).trans h)), fun x => absurd hc x.1⟩
  · rw [if_neg hc] at h
    rw [Wp_go ((xstep_of hd hn).trans h)]
    exact ⟨fun x => ⟨hc, x⟩, fun x => x.2⟩
theorem w_rt {i : Instr} {n : Nat} {r : Option xv} (hd : decode (xqc q) pc = .ok (i, n)) (hn : n = xlen i n) (h : xins q pc lv st M i = xrt r M) : Wp q pc lv st M Q ↔ Q r M := Wp_ret ((xstep_of hd hn).trans h)
theorem w_rti {i : Instr} {n : Nat} {r : Option xv} {c : Prop} [Decidable c] (hd : decode (xqc q) pc = .ok (i, n)) (hn : n = xlen i n) (h : xins q pc lv st M i = if c then xrt r M else none) : Wp q pc lv st M Q ↔ c ∧ Q r M := by
  by_cases hc : c
  · rw [if_pos hc] at h
    rw [Wp_ret ((xstep_of hd hn).trans h)]
    exact ⟨fun x => ⟨hc, x⟩, fun x => x.2⟩
  · rw [if_neg hc] at h
    exact ⟨fun x => absurd x (Wp_no ((xstep_of hd hn).trans h)), fun x => absurd x.1 hc⟩
theorem w_br {i : Instr} {n t : Nat} {off : Int} {c : Bool} {P : Prop} [Decidable P] {lv' st' : List xv} (hd : decode (xqc q) pc = .ok (i, n)) (hn : n = xlen i n) (ht : (pc : Int) + off = (t : Int)) (h : xins q pc lv st M i = xbr c pc off lv' st' M) (hp : c = true ↔ P) : Wp q pc lv st M Q ↔ if P then Wp q t lv' st' M Q else Wp q (pc + 3) lv' st' M Q := by
  have h1 : xins q pc lv st M i = xgo (if c = true then t else pc + 3) lv' st' M := by
    rw [h]
    unfold xbr
    rw [if_pos (by omega), show ((pc : Int) + off).toNat = t by omega]
  rw [Wp_go ((xstep_of hd hn).trans h1)]
  by_cases hP : P
  · rw [if_pos hP, if_pos (hp.mpr hP)]
  · rw [if_neg hP, if_neg (fun z => hP (hp.mp z))]
theorem w_brn {i : Instr} {n t : Nat} {off : Int} {c : Bool} {P : Prop} [Decidable P] {lv' st' : List xv} (hd : decode (xqc q) pc = .ok (i, n)) (hn : n = xlen i n) (ht : (pc : Int) + off = (t : Int)) (h : xins q pc lv st M i = xbr c pc off lv' st' M) (hp : c = true ↔ ¬ P) : Wp q pc lv st M Q ↔ if P then Wp q (pc + 3) lv' st' M Q else Wp q t lv' st' M Q := by
  rw [w_br hd hn ht h hp]
  by_cases hP : P
  · rw [if_pos hP, if_neg (fun z => z hP)]
  · rw [if_neg hP, if_pos hP]
theorem w_ca {i : Instr} {n : Nat} {q1 : xq} {lv0 lv' st' : List xv} {c : Prop} [Decidable c] (hd : decode (xqc q) pc = .ok (i, n)) (hn : n = xlen i n) (h : xins q pc lv st M i = if c then some (.inr (.inr (q1, lv0, (pc + 3, lv', st', M)))) else none) : Wp q pc lv st M Q ↔ c ∧ Wp q1 0 lv0 [] M (cont q (pc + 3) lv' st' Q) := by
  by_cases hc : c
  · rw [if_pos hc] at h
    rw [Wp_call ((xstep_of hd hn).trans h)]
    exact ⟨fun x => ⟨hc, x⟩, fun x => x.2⟩
  · rw [if_neg hc] at h
    exact ⟨fun x => absurd x (Wp_no ((xstep_of hd hn).trans h)), fun x => absurd x.1 hc⟩
theorem w_jm {i : Instr} {n t : Nat} {off : Int} {lv' st' : List xv} (hd : decode (xqc q) pc = .ok (i, n)) (hn : n = xlen i n) (ht : (pc : Int) + off = (t : Int)) (h : xins q pc lv st M i = xjmp pc off lv' st' M) : Wp q pc lv st M Q ↔ Wp q t lv' st' M Q := by
  refine Wp_go ((xstep_of hd hn).trans (h.trans ?_))
  unfold xjmp
  rw [if_pos (by omega), show ((pc : Int) + off).toNat = t by omega]
theorem cnd_lt (a b : Int) : xcnd .lt a b = true ↔ a < b := decide_eq_true_iff
theorem cnd_gt (a b : Int) : xcnd .gt a b = true ↔ b < a := decide_eq_true_iff
theorem cnd_eq (a b : Int) : xcnd .eq a b = true ↔ a = b := decide_eq_true_iff
theorem cnd_ne (a b : Int) : xcnd .ne a b = true ↔ ¬ a = b := decide_eq_true_iff
theorem cnd_ge (a b : Int) : xcnd .ge a b = true ↔ ¬ a < b := (decide_eq_true_iff (p := b ≤ a)).trans (by omega)
theorem cnd_le (a b : Int) : xcnd .le a b = true ↔ ¬ b < a := (decide_eq_true_iff (p := a ≤ b)).trans (by omega)
theorem and_tg {L t : Nat} {P : Prop} (h : 0 < t) : ((tg L = t ∧ ¬ L = 0) ∧ P) ↔ (tg L = t ∧ P) := ⟨fun x => ⟨x.1.1, x.2⟩, fun x => ⟨⟨x.1, tg_ne x.1 h⟩, x.2⟩⟩
end WR
theorem cl_I (x : Int) : cl (vI x) = vI x := rfl
theorem cl_R (x : Nat) : cl (vR x) = vR x := rfl
theorem cl_X : cl vX = vX := rfl
theorem cl_D (x : UInt64) : cl (vD x) = vX := rfl
theorem cl_J (x : Int) : cl (vJ x) = vX := rfl
theorem cs_n : cs [] = 0 := rfl
theorem cs_I (x : Int) (l : List xv) : cs (vI x :: l) = 1 + cs l := rfl
theorem cs_R (x : Nat) (l : List xv) : cs (vR x :: l) = 1 + cs l := rfl
theorem cs_D (x : UInt64) (l : List xv) : cs (vD x :: l) = 2 + cs l := rfl
theorem cs_J (x : Int) (l : List xv) : cs (vJ x :: l) = 2 + cs l := rfl
theorem wr_id {x : Int} (h1 : -2147483648 ≤ x) (h2 : x ≤ 2147483647) : wr x = x := by unfold wr; omega
theorem w64_id {x : Int} (h1 : -9223372036854775808 ≤ x) (h2 : x ≤ 9223372036854775807) : w64 x = x := by unfold w64; omega
section WS
variable {q : xq} {pc : Nat} {lv st : List xv} {M : xm} {Q : Option xv → xm → Prop}
theorem room_s {a b c d e f g : Nat} (h1 : a ≤ b) (h2 : c ≤ d) (h3 : f ≤ g) : (a ≤ b ∧ c ≤ d ∧ e ≤ 8 ∧ f ≤ g) ↔ e ≤ 8 := ⟨fun x => x.2.2.1, fun x => ⟨h1, h2, x, h3⟩⟩
theorem w_cv {i : Instr} {n L t : Nat} {q1 : xq} {lv' st' av : List xv} (hd : decode (xqc q) pc = .ok (i, n)) (hn : n = xlen i n) (h : xins q pc lv st M i = if tg L = t ∧ ¬ L = 0 then xcall q q1 pc av lv' st' M else none) (h0 : 0 < t) (h1 : xqF q1 + 1 ≤ xqF q) (h2 : 8 + (xqn q1 + 11) + xqW q1 ≤ xqW q) (h3 : (xfl av).length ≤ xqn q1) : Wp q pc lv st M Q ↔ (tg L = t ∧ cs st' ≤ 8) ∧ Wp q1 0 (xloc av (xqn q1)) [] M (cont q (pc + 3) lv' st' Q) := by
  have h' : xins q pc lv st M i = if tg L = t ∧ cs st' ≤ 8 then some (.inr (.inr (q1, xloc av (xqn q1), (pc + 3, lv', st', M)))) else none := by
    rw [h]
    unfold xcall
    by_cases ht : tg L = t
    · rw [if_pos ⟨ht, tg_ne ht h0⟩]
      by_cases hc : cs st' ≤ 8
      · rw [if_pos ⟨h1, h2, hc, h3⟩, if_pos ⟨ht, hc⟩]
      · rw [if_neg (fun z => hc z.2.2.1), if_neg (fun z => hc z.2)]
    · rw [if_neg (fun z => ht z.1), if_neg (fun z => ht z.1)]
  exact w_ca hd hn h'
theorem w_tb {dflt lo hi : Int} {offs : Array Int} {n t : Nat} {x v off : Int} (hd : decode (xqc q) pc = .ok (.tableswitch dflt lo hi offs, n)) (h : wr x = v) (h1 : lo ≤ v) (h2 : v ≤ hi) (h3 : offs[(v - lo).toNat]? = some off) (ht : (pc : Int) + off = (t : Int)) : Wp q pc lv (vI x :: st) M Q ↔ Wp q t lv st M Q := by
  refine w_jm hd rfl ht ?_
  show (if lo ≤ wr x ∧ wr x ≤ hi then (match offs[(wr x - lo).toNat]? with
    | some off => xjmp pc off lv st M
    | none => none) else xjmp pc dflt lv st M) = _
  rw [h, if_pos ⟨h1, h2⟩, h3]
theorem w_tbd {dflt lo hi : Int} {offs : Array Int} {n t : Nat} {x : Int} (hd : decode (xqc q) pc = .ok (.tableswitch dflt lo hi offs, n)) (h : ¬ (lo ≤ wr x ∧ wr x ≤ hi)) (ht : (pc : Int) + dflt = (t : Int)) : Wp q pc lv (vI x :: st) M Q ↔ Wp q t lv st M Q := by
  refine w_jm hd rfl ht ?_
  show (if lo ≤ wr x ∧ wr x ≤ hi then (match offs[(wr x - lo).toNat]? with
    | some off => xjmp pc off lv st M
    | none => none) else xjmp pc dflt lv st M) = _
  rw [if_neg h]
end WS
