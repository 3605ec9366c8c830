/-! 81.abit: how many bits of a word of 16 are set -/
def bcN (x : Nat) : Nat := let a := x - ((x >>> 1) &&& 1431655765); let b := (a &&& 858993459) + ((a >>> 2) &&& 858993459); let c := (b + (b >>> 4)) &&& 252645135; let d := c + (c >>> 8); let e := d + (d >>> 16); e &&& 63
def nn16 (x : Nat) : Nat := x % 2 + x / 2 % 2 + x / 4 % 2 + x / 8 % 2 + x / 16 % 2 + x / 32 % 2 + x / 64 % 2 + x / 128 % 2 + x / 256 % 2 + x / 512 % 2 + x / 1024 % 2 + x / 2048 % 2 + x / 4096 % 2 + x / 8192 % 2 + x / 16384 % 2 + x / 32768 % 2
def chk : Nat → Bool
  | 0 => true
  | k + 1 => Nat.beq (bcN k) (nn16 k) && chk k
theorem chk_s : ∀ n, chk n = true → ∀ x, x < n → bcN x = nn16 x
  | 0, _, x, h => absurd h (Nat.not_lt_zero x)
  | n + 1, h, x, hx => by
    have g := Bool.and_eq_true_iff.mp h
    by_cases e : x = n
    · rw [e]
      exact Nat.eq_of_beq_eq_true g.1
    · exact chk_s n g.2 x (by omega)
set_option maxRecDepth 200000 in
theorem chk_all : chk 65536 = true := by decide +kernel
theorem bc_nn {x : Nat} (h : x < 65536) : bcN x = nn16 x := chk_s 65536 chk_all x h
