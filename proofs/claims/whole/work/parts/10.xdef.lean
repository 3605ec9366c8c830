/-! 10.xdef: A SMALL MACHINE over the logical memory: its values, its memory, its steps, and 'Wp': from here it ends with Q -/
abbrev xv : Type := Int ⊕ (Int ⊕ (UInt64 ⊕ (UInt32 ⊕ (Nat ⊕ Unit))))
def vI (x : Int) : xv := .inl x
def vJ (x : Int) : xv := .inr (.inl x)
def vD (x : UInt64) : xv := .inr (.inr (.inl x))
def vF (x : UInt32) : xv := .inr (.inr (.inr (.inl x)))
def vR (x : Nat) : xv := .inr (.inr (.inr (.inr (.inl x))))
def vX : xv := .inr (.inr (.inr (.inr (.inr ()))))
def xval : xv → Value
  | .inl x => .int (Int32.ofInt x)
  | .inr (.inl x) => .long (Int64.ofInt x)
  | .inr (.inr (.inl x)) => .double x
  | .inr (.inr (.inr (.inl x))) => .float x
  | .inr (.inr (.inr (.inr (.inl x)))) => if x = 0 then .null else .ref x
  | .inr (.inr (.inr (.inr (.inr _)))) => .null
def isI : xv → Bool
  | .inl _ => true
  | _ => false
def isJ : xv → Bool
  | .inr (.inl _) => true
  | _ => false
def isD : xv → Bool
  | .inr (.inr (.inl _)) => true
  | _ => false
def isR : xv → Bool
  | .inr (.inr (.inr (.inr (.inl _)))) => true
  | _ => false
def isX : xv → Bool
  | .inr (.inr (.inr (.inr (.inr _)))) => true
  | _ => false
def xc2 : xv → Bool
  | .inr (.inl _) => true
  | .inr (.inr (.inl _)) => true
  | _ => false
/-- what is left of a local at n where n + 1 is written -/
def cl (v : xv) : xv := if xc2 v then vX else v
def cs : List xv → Nat
  | [] => 0
  | v :: l => (if xc2 v then 2 else 1) + cs l
def gv : Nat → List xv → xv
  | _, [] => vX
  | 0, a :: _ => a
  | k + 1, _ :: l => gv k l
def st1 : Nat → xv → List xv → List xv
  | _, _, [] => []
  | 0, v, _ :: l => v :: l
  | 1, v, a :: l => cl a :: st1 0 v l
  | k + 2, v, a :: l => a :: st1 (k + 1) v l
def st2 : Nat → xv → List xv → List xv
  | _, _, [] => []
  | 0, _, [_] => []
  | 0, v, _ :: _ :: l => v :: vX :: l
  | 1, v, a :: l => cl a :: st2 0 v l
  | k + 2, v, a :: l => a :: st2 (k + 1) v l
def wr (x : Int) : Int := (x + 2147483648) % 4294967296 - 2147483648
def w64 (x : Int) : Int := (x + 9223372036854775808) % 18446744073709551616 - 9223372036854775808
/-- addresses: tag (1 + class, 32 + kind of array), length, colour, number -/
def ky (t n c : Nat) : Nat := t + 64 * (n + 32768 * c)
def ad (t n c i : Nat) : Nat := ky t n c + 274877906944 * i
def tg (L : Nat) : Nat := L % 64
def ln (L : Nat) : Nat := L / 64 % 32768
/-- how many of each key; ints, doubles, references; cells and slots made -/
abbrev xm : Type := (Nat → Nat) × (Nat → Nat → Int) × (Nat → Nat → UInt64) × (Nat → Nat → Nat) × Nat × Nat
def mC (M : xm) : Nat → Nat := M.1
def mA (M : xm) : Nat → Nat → Int := M.2.1
def mB (M : xm) : Nat → Nat → UInt64 := M.2.2.1
def mR (M : xm) : Nat → Nat → Nat := M.2.2.2.1
def mK (M : xm) : Nat := M.2.2.2.2.1
def mS (M : xm) : Nat := M.2.2.2.2.2
def wA (M : xm) (L k : Nat) (x : Int) : xm := (M.1, lz_up M.2.1 L k x, M.2.2)
def wB (M : xm) (L k : Nat) (x : UInt64) : xm := (M.1, M.2.1, lz_up M.2.2.1 L k x, M.2.2.2)
def wR (M : xm) (L k : Nat) (x : Nat) : xm := (M.1, M.2.1, M.2.2.1, lz_up M.2.2.2.1 L k x, M.2.2.2.2)
/-- n ints of Ls from sp on come to Ld from dp on -/
def wC (M : xm) (Ls sp Ld dp n : Nat) : xm := (M.1, fun l j => if l = Ld ∧ dp ≤ j ∧ j < dp + n then M.2.1 Ls (sp + (j - dp)) else M.2.1 l j, M.2.2)
def na (M : xm) (t n c : Nat) : Nat := ad t n c (mC M (ky t n c))
/-- a new cell -/
def nw (M : xm) (t n c sl : Nat) : xm := (fun k => if k = ky t n c then mC M k + 1 else mC M k, fun l j => if l = na M t n c then 0 else M.2.1 l j, fun l j => if l = na M t n c then 0 else M.2.2.1 l j, fun l j => if l = na M t n c then 0 else M.2.2.2.1 l j, mK M + 1, mS M + sl)
/-- new rows 0 .. i - 1 of a grid, hung into the cell L -/
def nws (M : xm) (L n c : Nat) : Nat → xm
  | 0 => M
  | i + 1 => wR (nw (nws M L n c i) 32 n c n) L i (na (nws M L n c i) 32 n c)
abbrev xs : Type := Nat × List xv × List xv × xm
/-- class, id, name, code, most locals, answer's type, frames, words -/
abbrev xq : Type := Nat × Nat × MethodName × ByteArray × Nat × Option FieldType × Nat × Nat
def xqk (q : xq) : Nat := q.1
def xqi (q : xq) : Nat := q.2.1
def xqy (q : xq) : MethodName := q.2.2.1
def xqc (q : xq) : ByteArray := q.2.2.2.1
def xqn (q : xq) : Nat := q.2.2.2.2.1
def xqr (q : xq) : Option FieldType := q.2.2.2.2.2.1
def xqF (q : xq) : Nat := q.2.2.2.2.2.2.1
def xqW (q : xq) : Nat := q.2.2.2.2.2.2.2
abbrev xo : Type := xs ⊕ ((Option xv × xm) ⊕ (xq × List xv × xs))
def xgo (pc : Nat) (lv st : List xv) (M : xm) : Option xo := some (.inl (pc, lv, st, M))
def xrt (r : Option xv) (M : xm) : Option xo := some (.inr (.inl (r, M)))
def xI1 (st : List xv) (f : Int → List xv → Option xo) : Option xo := match st with
  | .inl a :: t => f a t
  | _ => none
def xI2 (st : List xv) (f : Int → Int → List xv → Option xo) : Option xo := match st with
  | .inl b :: .inl a :: t => f a b t
  | _ => none
def xJ1 (st : List xv) (f : Int → List xv → Option xo) : Option xo := match st with
  | .inr (.inl a) :: t => f a t
  | _ => none
def xJ2 (st : List xv) (f : Int → Int → List xv → Option xo) : Option xo := match st with
  | .inr (.inl b) :: .inr (.inl a) :: t => f a b t
  | _ => none
def xD1 (st : List xv) (f : UInt64 → List xv → Option xo) : Option xo := match st with
  | .inr (.inr (.inl a)) :: t => f a t
  | _ => none
def xD2 (st : List xv) (f : UInt64 → UInt64 → List xv → Option xo) : Option xo := match st with
  | .inr (.inr (.inl b)) :: .inr (.inr (.inl a)) :: t => f a b t
  | _ => none
def xF1 (st : List xv) (f : UInt32 → List xv → Option xo) : Option xo := match st with
  | .inr (.inr (.inr (.inl a))) :: t => f a t
  | _ => none
def xR1 (st : List xv) (f : Nat → List xv → Option xo) : Option xo := match st with
  | .inr (.inr (.inr (.inr (.inl a)))) :: t => f a t
  | _ => none
def xiand (a b : Int) : Int := (Int32.ofInt a &&& Int32.ofInt b).toInt
def xior (a b : Int) : Int := (Int32.ofInt a ||| Int32.ofInt b).toInt
def xixor (a b : Int) : Int := (Int32.ofInt a ^^^ Int32.ofInt b).toInt
def xishl (a b : Int) : Int := (Int32.ofInt a <<< (Int32.ofInt b &&& 31)).toInt
def xishr (a b : Int) : Int := (Int32.ofInt a >>> (Int32.ofInt b &&& 31)).toInt
def xiushr (a b : Int) : Int := ((Int32.ofInt a).toUInt32 >>> ((Int32.ofInt b).toUInt32 &&& Int32.toUInt32 31)).toInt32.toInt
def xlcmp (a b : Int) : Int := if a < b then -1 else if a = b then 0 else 1
def xjmp (pc : Nat) (off : Int) (lv st : List xv) (M : xm) : Option xo := if 0 ≤ (pc : Int) + off then xgo ((pc : Int) + off).toNat lv st M else none
def xcnd (c : ClassFile.Cond) (a b : Int) : Bool := match c with
  | .eq => decide (a = b)
  | .ne => decide (¬ a = b)
  | .lt => decide (a < b)
  | .ge => decide (b ≤ a)
  | .gt => decide (b < a)
  | .le => decide (a ≤ b)
/-- arguments as locals -/
def xfl : List xv → List xv
  | [] => []
  | v :: l => if xc2 v then v :: vX :: xfl l else v :: xfl l
def xloc (av : List xv) (n : Nat) : List xv := xfl av ++ List.replicate (n - (xfl av).length) vX
/-- what an array of references takes -/
def xel (t : Nat) : Nat := match t with
  | 35 => 5
  | 36 => 6
  | 37 => 9
  | _ => 0
