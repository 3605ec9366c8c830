/-! 96.init: both as they begin -/
/-- nothing yet -/
def Z0 : xm := (fun _ => 0, fun _ _ => 0, fun _ _ => 0, fun _ _ => 0, 0, 0)
/-- a new array, put into a field -/
def nwR (M : xm) (t n c sl L f : Nat) : xm := wR (nw M t n c sl) L f (na M t n c)
def iRack (M : xm) (L : Nat) : xm := nwR (nwR (nwR (nwR M 37 24 17927 24 L 1) 32 24 17936 24 L 2) 34 24 17944 24 L 3) 32 24 17952 24 L 4
theorem c_init3 {M : xm} {L : Nat} (t : tg L = 4) (Q : Option xv → xm → Prop) : Wp qX3_init 0 [vR L] [] M Q ↔ Q none (iRack M L) := by
  have hz := tg_ne t (by decide)
  simp (disch := first | omega | (simp only [DT, DS, ne_eq, Nat.reduceEqDiff, not_false_eq_true]; done)) only [RX3_init, t, hz, Int.reduceToNat, BW, wr_id, OM, OE, PL, ↓reduceIte, TGs, bi_T, bi_F, bi_ff, Nat.reduceLeDiff, Nat.reduceLT, Nat.reduceAdd]
  rfl
theorem c_init7 {M : xm} {L : Nat} (t : tg L = 8) (Q : Option xv → xm → Prop) : Wp qX7_init 0 [vR L] [] M Q ↔ Q none (nwR M 35 40 37895 40 L 1) := by
  have hz := tg_ne t (by decide)
  simp (disch := first | omega | (simp only [DT, DS, ne_eq, Nat.reduceEqDiff, not_false_eq_true]; done)) only [RX7_init, t, hz, Int.reduceToNat, BW, wr_id, OM, OE, PL, ↓reduceIte, TGs, bi_T, bi_F, bi_ff, Nat.reduceLeDiff, Nat.reduceLT, Nat.reduceAdd]
  rfl
theorem c_init1 {M : xm} {L R : Nat} (t : tg L = 2) (tr : tg R = 4) (Q : Option xv → xm → Prop) : Wp qX1_init 0 [vR L, vR R] [] M Q ↔ Q none (wR M L 2 R) := by
  have hz := tg_ne t (by decide)
  simp (disch := first | omega | (simp only [DT, DS, ne_eq, Nat.reduceEqDiff, not_false_eq_true]; done)) only [RX1_init, t, tr, hz, Int.reduceToNat, BW, wr_id, OM, OE, PL, ↓reduceIte, TGs, bi_T, bi_F, bi_ff, Nat.reduceLeDiff, Nat.reduceLT, Nat.reduceAdd]
theorem c_init0 {M : xm} {L R T : Nat} (t : tg L = 1) (tr : tg R = 4) (tt : tg T = 7) (Q : Option xv → xm → Prop) : Wp qX0_init 0 [vR L, vR R, vR T] [] M Q ↔ Q none (wR (wR (nwR M 32 48 7 48 L 5) L 3 R) L 4 T) := by
  have hz := tg_ne t (by decide)
  simp (disch := first | omega | (simp only [DT, DS, ne_eq, Nat.reduceEqDiff, not_false_eq_true]; done)) only [RX0_init, t, tr, tt, hz, Int.reduceToNat, BW, wr_id, OM, OE, PL, ↓reduceIte, TGs, bi_T, bi_F, bi_ff, Nat.reduceLeDiff, Nat.reduceLT, Nat.reduceAdd]
  rfl
/-- 8 times -1 -/
def m8 (M : xm) (L : Nat) : Nat → xm
  | 0 => M
  | k + 1 => wA (m8 M L k) L k (-1)
theorem m8_R (M : xm) (L : Nat) : ∀ k, mR (m8 M L k) = mR M
  | 0 => rfl
  | k + 1 => m8_R M L k
theorem l_m6 {L V : Nat} (t : tg L = 7) (tv : tg V = 32 ∧ ln V = 8) (M : xm) (hv : mR M L 1 = V) (Q : Option xv → xm → Prop) : ∀ (d k : Nat), k + d = 8 → (Wp qX6_init 26 [vR L, vI k] [] (m8 M V k) Q ↔ Q none (m8 M V 8))
  | 0, k, hd => by
    obtain rfl : k = 8 := by omega
    rw [HX6_init_26]
    simp (disch := first | omega | (simp only [DT, DS, ne_eq, Nat.reduceEqDiff, not_false_eq_true]; done)) only [RX6_init, t, BW, wr_id, OM, OE, PL, ↓reduceIte, TGs, bi_T, bi_F, bi_ff, Nat.reduceLeDiff, Nat.reduceLT, Nat.reduceAdd]
  | d + 1, k, hd => by
    have ih := l_m6 t tv M hv Q d (k + 1) (by omega)
    have hv' : mR (m8 M V k) L 1 = V := by rw [m8_R]; exact hv
    have hz := tg_ne tv.1 (by decide)
    rw [HX6_init_26]
    simp (disch := first | omega | (simp only [DT, DS, ne_eq, Nat.reduceEqDiff, not_false_eq_true]; done)) only [RX6_init, t, hv', tv.1, tv.2, hz, Int.toNat_natCast, BW, wr_id, OM, OE, PL, ↓reduceIte, TGs, bi_T, bi_F, bi_ff, Nat.reduceLeDiff, Nat.reduceLT, Nat.reduceAdd]
    exact ih
theorem l_m2 {L V : Nat} (t : tg L = 3) (tv : tg V = 32 ∧ ln V = 8) (M : xm) (hv : mR M L 1 = V) (Q : Option xv → xm → Prop) : ∀ (d k : Nat), k + d = 8 → (Wp qX2_init 26 [vR L, vI k] [] (m8 M V k) Q ↔ Q none (m8 M V 8))
  | 0, k, hd => by
    obtain rfl : k = 8 := by omega
    rw [HX2_init_26]
    simp (disch := first | omega | (simp only [DT, DS, ne_eq, Nat.reduceEqDiff, not_false_eq_true]; done)) only [RX2_init, t, BW, wr_id, OM, OE, PL, ↓reduceIte, TGs, bi_T, bi_F, bi_ff, Nat.reduceLeDiff, Nat.reduceLT, Nat.reduceAdd]
  | d + 1, k, hd => by
    have ih := l_m2 t tv M hv Q d (k + 1) (by omega)
    have hv' : mR (m8 M V k) L 1 = V := by rw [m8_R]; exact hv
    have hz := tg_ne tv.1 (by decide)
    rw [HX2_init_26]
    simp (disch := first | omega | (simp only [DT, DS, ne_eq, Nat.reduceEqDiff, not_false_eq_true]; done)) only [RX2_init, t, hv', tv.1, tv.2, hz, Int.toNat_natCast, BW, wr_id, OM, OE, PL, ↓reduceIte, TGs, bi_T, bi_F, bi_ff, Nat.reduceLeDiff, Nat.reduceLT, Nat.reduceAdd]
    exact ih
/-- a grid of 8 rows, put into a field -/
def grR (M : xm) (n c L f : Nat) : xm := wR (nws (nw M 38 8 c 8) (na M 38 8 c) n c 8) L f (na M 38 8 c)
theorem c_init6 {M : xm} {L V : Nat} (t : tg L = 7) (tv : tg V = 32 ∧ ln V = 8) (hv : na (grR M 16 33801 L 0) 32 8 33811 = V) (Q : Option xv → xm → Prop) : Wp qX6_init 0 [vR L, vX] [] M Q ↔ Q none (m8 (nwR (grR M 16 33801 L 0) 32 8 33811 8 L 1) V 8) := by
  have hz := tg_ne t (by decide)
  have g := l_m6 t tv (nwR (grR M 16 33801 L 0) 32 8 33811 8 L 1) (by unfold nwR; rw [MM.2.2.2.2.2.2.2.2.1, if_pos ⟨rfl, rfl⟩]; exact hv) Q 8 0 rfl
  rw [← g]
  unfold nwR grR m8
  simp (disch := first | omega | (simp only [DT, DS, ne_eq, Nat.reduceEqDiff, not_false_eq_true]; done)) only [RX6_init, t, hz, Int.reduceToNat, BW, wr_id, OM, OE, PL, ↓reduceIte, TGs, bi_T, bi_F, bi_ff, Nat.reduceLeDiff, Nat.reduceLT, Nat.reduceAdd]
  exact Iff.rfl
theorem c_init2 {M : xm} {L V : Nat} (t : tg L = 3) (tv : tg V = 32 ∧ ln V = 8) (hv : na (grR M 72 15369 L 0) 32 8 15379 = V) (Q : Option xv → xm → Prop) : Wp qX2_init 0 [vR L, vX] [] M Q ↔ Q none (m8 (nwR (grR M 72 15369 L 0) 32 8 15379 8 L 1) V 8) := by
  have hz := tg_ne t (by decide)
  have g := l_m2 t tv (nwR (grR M 72 15369 L 0) 32 8 15379 8 L 1) (by unfold nwR; rw [MM.2.2.2.2.2.2.2.2.1, if_pos ⟨rfl, rfl⟩]; exact hv) Q 8 0 rfl
  rw [← g]
  unfold nwR grR m8
  simp (disch := first | omega | (simp only [DT, DS, ne_eq, Nat.reduceEqDiff, not_false_eq_true]; done)) only [RX2_init, t, hz, Int.reduceToNat, BW, wr_id, OM, OE, PL, ↓reduceIte, TGs, bi_T, bi_F, bi_ff, Nat.reduceLeDiff, Nat.reduceLT, Nat.reduceAdd]
  exact Iff.rfl
