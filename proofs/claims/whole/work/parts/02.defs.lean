/-! values: ints as unbounded numbers, references as numbers of objects; memory; shapes -/
abbrev AV : Type := Int ⊕ Nat
abbrev Mm : Type := Nat → Int → Int
abbrev En : Type := Launch × va_G × ClassId × ClassId × (Nat → Nat) × Value × Nat × (Nat → Int32)
def e_l (E : En) : Launch := E.1
def e_D (E : En) : va_G := E.2.1
def e_I (E : En) : ClassId := E.2.2.1
def e_S (E : En) : ClassId := E.2.2.2.1
def e_r (E : En) : Nat → Nat := E.2.2.2.2.1
def e_v (E : En) : Value := E.2.2.2.2.2.1
def e_L (E : En) : Nat := E.2.2.2.2.2.2.1
def e_x (E : En) : Nat → Int32 := E.2.2.2.2.2.2.2
/-- the script: how long, what it holds -/
def e_sc (E : En) : Int × (Int → Int) := ((e_L E : Nat), fun i => (e_x E i.toNat).toInt)
def tv (E : En) : AV → Value
  | .inl z => .int (Int32.ofInt z)
  | .inr k => if k = 3000 then e_v E else .ref (e_r E k)
/-- the shapes: class, or 100 (ints), 101 (references), and how long -/
def shpL : List (Nat × Nat) := [(11, 0), (4, 0), (100, 400), (100, 401), (100, 401), (100, 401), (1, 0), (100, 16), (100, 16), (100, 16), (100, 16), (100, 400), (100, 32), (100, 64), (10, 0), (100, 16), (100, 16), (100, 128), (0, 0), (100, 16), (100, 16), (100, 16), (100, 16), (3, 0), (8, 0), (9, 0), (100, 10), (100, 10), (1, 0), (100, 16), (100, 16), (100, 16), (100, 16), (100, 400), (100, 32), (100, 64), (10, 0), (100, 16), (100, 16), (100, 128), (10, 0), (100, 16), (100, 16), (100, 128), (0, 0), (100, 16), (100, 16), (100, 16), (100, 16), (5, 0), (7, 0), (100, 12), (100, 12), (100, 10), (100, 13), (100, 25), (100, 8), (100, 10), (100, 600), (9, 0), (100, 10), (100, 10), (100, 10), (100, 9), (100, 16), (8, 0), (9, 0), (100, 10), (100, 10), (1, 0), (100, 16), (100, 16), (100, 16), (100, 16), (100, 400), (100, 32), (100, 64), (10, 0), (100, 16), (100, 16), (100, 128), (10, 0), (100, 16), (100, 16), (100, 128), (0, 0), (100, 16), (100, 16), (100, 16), (100, 16), (5, 0), (7, 0), (100, 12), (100, 12), (100, 10), (100, 13), (100, 25), (100, 8), (100, 10), (100, 600), (2, 0), (101, 6), (9, 0), (100, 10), (100, 10), (9, 0), (100, 10), (100, 10), (9, 0), (100, 10), (100, 10), (9, 0), (100, 10), (100, 10), (9, 0), (100, 10), (100, 10), (9, 0), (100, 10), (100, 10), (6, 0), (100, 256), (100, 8), (12, 0), (100, 28), (100, 168), (100, 28), (100, 600), (100, 400), (100, 120), (100, 2), (100, 48), (100, 48), (100, 48), (100, 48), (100, 1200), (100, 1200), (100, 40), (100, 65), (100, 520), (100, 32), (100, 128), (100, 9), (100, 420), (100, 10), (100, 16), (100, 12), (100, 25), (100, 13), (100, 8), (100, 117), (100, 10), (100, 256), (100, 8), (100, 6), (100, 10), (100, 2000), (100, 2400)]
abbrev NO : Nat := 158
def cls (o : Nat) : Nat := (shpL.getD o (200, 0)).1
def aln (o : Nat) : Nat := (shpL.getD o (200, 0)).2
/-- the fields' kinds: 0 int, 1 boolean, 2 a reference kept in memory, n + 3 the object n further on -/
def fkL : List (List Nat) := [[0, 4, 5, 6, 7], [0, 4, 5, 6, 7, 8, 0, 9, 0, 0, 10], [4, 0, 0], [4, 39, 42, 43, 44, 2, 1], [4, 0, 5, 6, 7, 0, 0, 0, 0, 0, 0, 0, 0, 0], [4, 9, 10, 0, 11], [0, 4, 0, 5], [4, 0, 5, 6, 7], [4, 7, 15, 19, 23, 28, 37], [4, 5, 0, 0, 0, 0, 0, 0, 0, 0], [0, 4, 5, 6], [4, 9, 17, 21, 26, 27, 68, 1, 103, 123], [0, 4, 5, 0, 6, 1, 7, 8, 0, 0, 0, 0, 0, 9, 0, 10, 11, 12, 13, 14, 15, 16, 0, 0, 0, 17, 0, 0, 0, 0, 0, 0, 0, 18, 19, 20, 0, 21, 22, 23, 24, 25, 0, 26, 27, 28, 0, 29, 30, 31, 32, 33, 34, 35, 36, 1, 1, 0, 37]]
def fk (ci k : Nat) : Nat := (fkL.getD ci []).getD k 0
def fv (μ : Mm) (o ci k : Nat) : AV := match fk ci k with
  | 0 => .inl (μ o k)
  | 1 => .inl (μ o k)
  | 2 => .inr (μ o k).toNat
  | n + 3 => .inr (o + n)
/-- the texts -/
def strL : List (List Nat) := [[115, 101, 116, 115, 32, 98, 114, 101, 97, 107, 115, 32, 100, 97, 114, 101, 115, 32, 119, 104, 101, 110, 32, 111, 114, 32, 97, 110, 100, 32, 110, 111, 116, 32, 108, 101, 110, 103, 116, 104, 32, 108, 101, 97, 115, 116, 32, 114, 101, 115, 116, 32, 100, 97, 114, 105, 110, 103, 32, 115, 97, 105, 100, 32, 100, 111, 110, 101, 32, 119, 97, 105, 116, 115, 32, 98, 108, 97, 110, 107, 115, 32, 100, 97, 121, 32], [59, 43, 45, 42, 47, 40, 41, 60, 61, 62], [102, 114, 111, 109, 32], [119, 111, 114, 100, 32], [111, 110, 32, 99, 97, 115, 116, 32, 109, 101, 108, 116, 32, 100, 97, 114, 101, 32, 99, 97, 108, 109, 32]]
def sln (i : Nat) : Nat := (strL.getD i []).length
def sch (i : Nat) (k : Int) : Int := ((strL.getD i []).getD k.toNat 0 : Nat)
/-- memory with one place written -/
def mu (μ : Mm) (o : Nat) (i v : Int) : Mm := fun a b => if a = o ∧ b = i then v else μ a b
/-- memory with n places of s from p on laid into t from q on -/
def mcp (μ : Mm) (s : Nat) (p : Int) (t : Nat) (q n : Int) : Mm := fun a b => if a = t ∧ q ≤ b ∧ b < q + n then μ s (p + (b - q)) else μ a b
/-! numbers -/
def w32 (x : Int) : Int := (x + 2147483648) % 4294967296 - 2147483648
def inR (x : Int) : Prop := -2147483648 ≤ x ∧ x < 2147483648
def iAnd (x y : Int) : Int := (Int32.ofInt x &&& Int32.ofInt y).toInt
def iOr (x y : Int) : Int := (Int32.ofInt x ||| Int32.ofInt y).toInt
def iXor (x y : Int) : Int := (Int32.ofInt x ^^^ Int32.ofInt y).toInt
def iShl (x y : Int) : Int := (Int32.ofInt x <<< (Int32.ofInt y &&& 31)).toInt
def iShr (x y : Int) : Int := (Int32.ofInt x >>> (Int32.ofInt y &&& 31)).toInt
def iUsh (x y : Int) : Int := ((Int32.ofInt x).toUInt32 >>> ((Int32.ofInt y).toUInt32 &&& Int32.toUInt32 31)).toInt32.toInt
def iDiv (x y : Int) : Int := (w32 x).tdiv (w32 y)
def iRem (x y : Int) : Int := (w32 x).tmod (w32 y)
def iChr (x : Int) : Int := ((Int32.ofInt x).toUInt32 % 65536).toInt32.toInt
def iMax (x y : Int) : Int := if w32 x < w32 y then y else x
def iMin (x y : Int) : Int := if w32 y < w32 x then y else x
def iByt (x : Int) : Int := (Int32.ofInt x).toInt8.toInt32.toInt
def cmp (c : ClassFile.Cond) (x y : Int) : Prop := match c with
  | .eq => x = y
  | .ne => x ≠ y
  | .lt => x < y
  | .ge => y ≤ x
  | .gt => y < x
  | .le => x ≤ y
/-! items: place in the bytes, instruction, length, four operands, a switch's table; methods: own class, name, bytes, locals, answer, static, places of its words, items -/
abbrev It : Type := Nat × ClassFile.Instr × Nat × Nat × Nat × Nat × Nat × List (Int × Nat)
abbrev MR : Type := String × MethodName × ByteArray × Nat × Option FieldType × Bool × List Nat × List It
def r_own (r : MR) : String := r.1
def r_y (r : MR) : MethodName := r.2.1
def r_b (r : MR) : ByteArray := r.2.2.1
def r_n (r : MR) : Nat := r.2.2.2.1
def r_t (r : MR) : Option FieldType := r.2.2.2.2.1
def r_s (r : MR) : Bool := r.2.2.2.2.2.1
def r_p (r : MR) : List Nat := r.2.2.2.2.2.2.1
def r_c (r : MR) : List It := r.2.2.2.2.2.2.2
