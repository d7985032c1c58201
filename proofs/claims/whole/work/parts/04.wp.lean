/-! the condition of a walk: one item's, then a piece of a method's between its cuts -/
def rI (f : Int → Mm → Prop) : Option AV → Mm → Prop := fun v μ => match v with
  | some (.inl z) => f z μ
  | _ => False
def rR (f : Nat → Mm → Prop) : Option AV → Mm → Prop := fun v μ => match v with
  | some (.inr z) => f z μ
  | _ => False
def rV (f : Mm → Prop) : Option AV → Mm → Prop := fun v μ => match v with
  | none => f μ
  | _ => False
abbrev Ls : Type := List (Option AV)
abbrev Go : Type := Nat → Ls → List AV → Mm → Prop
def swt (x : Int) (d : Prop) (f : Nat → Prop) : List (Int × Nat) → Prop
  | [] => d
  | (k, t) :: r => (x = k → f t) ∧ (x ≠ k → swt x d f r)
/-- constants, the stack, numbers -/
def pur (ins : ClassFile.Instr) (st : List AV) : Option (List AV) := match ins, st with
  | .iconst n, st => some (.inl n :: st)
  | .bipush n, st => some (.inl n :: st)
  | .sipush n, st => some (.inl n :: st)
  | .dup, x :: st => some (x :: x :: st)
  | .dup2, x :: y :: st => some (x :: y :: x :: y :: st)
  | .pop, _ :: st => some st
  | .iadd, .inl y :: .inl x :: st => some (.inl (x + y) :: st)
  | .isub, .inl y :: .inl x :: st => some (.inl (x - y) :: st)
  | .imul, .inl y :: .inl x :: st => some (.inl (x * y) :: st)
  | .iand, .inl y :: .inl x :: st => some (.inl (iAnd x y) :: st)
  | .ior, .inl y :: .inl x :: st => some (.inl (iOr x y) :: st)
  | .ixor, .inl y :: .inl x :: st => some (.inl (iXor x y) :: st)
  | .ishl, .inl y :: .inl x :: st => some (.inl (iShl x y) :: st)
  | .ishr, .inl y :: .inl x :: st => some (.inl (iShr x y) :: st)
  | .iushr, .inl y :: .inl x :: st => some (.inl (iUsh x y) :: st)
  | .i2c, .inl x :: st => some (.inl (iChr x) :: st)
  | .i2b, .inl x :: st => some (.inl (iByt x) :: st)
  | _, _ => none
/-- locals -/
def loc (ins : ClassFile.Instr) (ls : Ls) (st : List AV) : Option (Ls × List AV) := match ins, st with
  | .iload_n k, st => match ls[k.val]? with
    | some (some (.inl z)) => some (ls, .inl z :: st)
    | _ => none
  | .iload k, st => match ls[k]? with
    | some (some (.inl z)) => some (ls, .inl z :: st)
    | _ => none
  | .aload_n k, st => match ls[k.val]? with
    | some (some (.inr z)) => some (ls, .inr z :: st)
    | _ => none
  | .aload k, st => match ls[k]? with
    | some (some (.inr z)) => some (ls, .inr z :: st)
    | _ => none
  | .istore_n k, .inl z :: st => some (ls.set k.val (some (.inl z)), st)
  | .istore k, .inl z :: st => some (ls.set k (some (.inl z)), st)
  | .astore_n k, .inr z :: st => some (ls.set k.val (some (.inr z)), st)
  | .astore k, .inr z :: st => some (ls.set k (some (.inr z)), st)
  | .iinc k n, st => match ls[k]? with
    | some (some (.inl z)) => some (ls.set k (some (.inl (z + n))), st)
    | _ => none
  | _, _ => none
/-- one item: CC is what is known of calls, Φ the end -/
def wpS (SC : Int × (Int → Int)) (CC : Nat → List AV → Mm → (Option AV → Mm → Prop) → Prop) (Φ : Option AV → Mm → Prop) (ret : Option FieldType) (cd : List It) (go : Go) (i : Nat) (ls : Ls) (st : List AV) (μ : Mm) : Prop :=
  match cd[i]? with
  | none => False
  | some (_, ins, _, a, b, c, e, sw) => cond (Nat.beq e 999) False (match ins, st with
    | .goto _, st => go a ls st μ
    | .if_icmp cn _, .inl y :: .inl x :: st => cond (Nat.beq c 0) ((inR x ∧ inR y) ∧ (cmp cn x y → go a ls st μ) ∧ (¬ cmp cn x y → go (i + 1) ls st μ)) ((cmp cn (w32 x) (w32 y) → go a ls st μ) ∧ (¬ cmp cn (w32 x) (w32 y) → go (i + 1) ls st μ))
    | .ifCond cn _, .inl x :: st => cond (Nat.beq c 0) (inR x ∧ (cmp cn x 0 → go a ls st μ) ∧ (¬ cmp cn x 0 → go (i + 1) ls st μ)) ((cmp cn (w32 x) 0 → go a ls st μ) ∧ (¬ cmp cn (w32 x) 0 → go (i + 1) ls st μ))
    | .tableswitch _ _ _ _, .inl x :: st => inR x ∧ swt x (go a ls st μ) (fun t => go t ls st μ) sw
    | .lookupswitch _ _, .inl x :: st => inR x ∧ swt x (go a ls st μ) (fun t => go t ls st μ) sw
    | .getfield _, .inr o :: st => cond (Nat.beq a 50) ((1000 ≤ o ∧ o < 1005) ∧ go (i + 1) ls (cond (Nat.beq b 0) (.inr (o + 100)) (.inl 0) :: st) μ) (cls o = a ∧ go (i + 1) ls (fv μ o a b :: st) μ)
    | .putfield _, v :: .inr o :: st => match fk a b, v with
      | 0, .inl z => cls o = a ∧ go (i + 1) ls st (mu μ o b z)
      | 1, .inl z => cls o = a ∧ (z = 0 ∨ z = 1) ∧ go (i + 1) ls st (mu μ o b z)
      | 2, .inr z => cls o = a ∧ cls z = 9 ∧ z < NO ∧ go (i + 1) ls st (mu μ o b z)
      | _, _ => False
    | .getstatic _, st => go (i + 1) ls (cond (Nat.beq a 0) (.inl 1) (.inr 3000) :: st) μ
    | .iaload, .inl x :: .inr o :: st => cond (Nat.beq a 1) ((o = 2000 ∧ 0 ≤ x ∧ x < SC.1) ∧ go (i + 1) ls (.inl (SC.2 x) :: st) μ) ((cls o = 100 ∧ 0 ≤ x ∧ x < aln o) ∧ go (i + 1) ls (.inl (μ o x) :: st) μ)
    | .iastore, .inl v :: .inl x :: .inr o :: st => (cls o = 100 ∧ 0 ≤ x ∧ x < aln o) ∧ go (i + 1) ls st (mu μ o x v)
    | .aaload, .inl x :: .inr o :: st => (cls o = 101 ∧ 0 ≤ x ∧ x < aln o) ∧ go (i + 1) ls (.inr (o + 1 + 3 * x.toNat) :: st) μ
    | .baload, .inl x :: .inr o :: st => ((1100 ≤ o ∧ o < 1105) ∧ 0 ≤ x ∧ x < sln (o - 1100)) ∧ go (i + 1) ls (.inl (sch (o - 1100) x) :: st) μ
    | .arraylength, .inr o :: st => cond (Nat.beq a 0) (cls o = 100 ∧ go (i + 1) ls (.inl (aln o) :: st) μ) (cond (Nat.beq a 2) (o = 2000 ∧ go (i + 1) ls (.inl SC.1 :: st) μ) ((1100 ≤ o ∧ o < 1105) ∧ go (i + 1) ls (.inl (sln (o - 1100)) :: st) μ))
    | .ldc _, st => cond (Nat.beq e 1) (go (i + 1) ls (.inr (1000 + a) :: st) μ) (go (i + 1) ls (.inl (sw.getD 0 (0, 0)).1 :: st) μ)
    | .ldc_w _, st => go (i + 1) ls (.inl (sw.getD 0 (0, 0)).1 :: st) μ
    | .idiv, .inl y :: .inl x :: st => w32 y ≠ 0 ∧ go (i + 1) ls (.inl (iDiv x y) :: st) μ
    | .irem, .inl y :: .inl x :: st => w32 y ≠ 0 ∧ go (i + 1) ls (.inl (iRem x y) :: st) μ
    | .ireturn, [.inl z] => match ret with
      | some .boolean => (z = 0 ∨ z = 1) ∧ Φ (some (.inl z)) μ
      | some .char => (0 ≤ z ∧ z < 65536) ∧ Φ (some (.inl z)) μ
      | some .byte => z = 0 ∧ Φ (some (.inl z)) μ
      | some .int => Φ (some (.inl z)) μ
      | _ => False
    | .areturn, [.inr z] => z < 2000 ∧ Φ (some (.inr z)) μ
    | .return_, [] => Φ none μ
    | .invokevirtual _, st => cond (Nat.ble b st.length && Nat.ble (st.length - b) 8) (match (st.take b).reverse with
      | .inr o :: as => cond (Nat.beq e 50) (1000 ≤ o ∧ o < 1005) (cls o = e) ∧ CC a (.inr o :: as) μ (match c with
        | 0 => rV (fun μ => go (i + 1) ls (st.drop b) μ)
        | 1 => rI (fun z μ => go (i + 1) ls (.inl z :: st.drop b) μ)
        | _ => rR (fun z μ => go (i + 1) ls (.inr z :: st.drop b) μ))
      | _ => False) False
    | .invokestatic _, st => cond (Nat.beq e 77) (match st with
      | .inl n :: .inl q :: .inr t :: .inl p :: .inr o :: st => cond (Nat.ble st.length 8) (((cls o = 100 ∧ cls t = 100) ∧ (0 ≤ p ∧ p + n ≤ aln o) ∧ (0 ≤ q ∧ q + n ≤ aln t) ∧ 0 ≤ n) ∧ go (i + 1) ls st (mcp μ o p t q n)) False
      | _ => False) (cond (Nat.beq e 78 || Nat.beq e 79) (match st with
      | .inl y :: .inl x :: st => cond (Nat.ble st.length 8) (go (i + 1) ls (.inl (cond (Nat.beq e 78) (iMax x y) (iMin x y)) :: st) μ) False
      | _ => False) (cond (Nat.ble b st.length && Nat.ble (st.length - b) 8) (CC a (st.take b).reverse μ (match c with
        | 0 => rV (fun μ => go (i + 1) ls (st.drop b) μ)
        | 1 => rI (fun z μ => go (i + 1) ls (.inl z :: st.drop b) μ)
        | _ => rR (fun z μ => go (i + 1) ls (.inr z :: st.drop b) μ))) False))
    | ins, st => match pur ins st with
      | some st' => go (i + 1) ls st' μ
      | none => match loc ins ls st with
        | some (ls', st') => go (i + 1) ls' st' μ
        | none => False)
def mask (live : List Nat) (ls : Ls) : Ls := ls.zipIdx.map fun q => cond (live.contains q.2) q.1 none
def cutOf (i : Nat) : List (Nat × List Nat) → Option (List Nat)
  | [] => none
  | (k, l) :: r => cond (Nat.beq i k) (some l) (cutOf i r)
/-- a piece between cuts: at a cut K -/
def wp (SC : Int × (Int → Int)) (CC : Nat → List AV → Mm → (Option AV → Mm → Prop) → Prop) (Φ : Option AV → Mm → Prop) (ret : Option FieldType) (cd : List It) (cuts : List (Nat × List Nat)) (K : Go) : Nat → Go
  | 0 => fun _ _ _ _ => False
  | n + 1 => wpS SC CC Φ ret cd fun i ls st μ => match cutOf i cuts with
    | some live => K i (mask live ls) st μ
    | none => wp SC CC Φ ret cd cuts K n i ls st μ
def okG (cd : List It) (i p : Nat) : Bool := match cd[i]? with
  | some it => Nat.beq it.1 p
  | none => false
def okO (cd : List It) (i : Nat) (p : Int) : Bool := match cd[i]? with
  | some it => decide ((it.1 : Int) = p)
  | none => false
def chk (p : Nat) : List Cond → Cond → Bool := fun l c => decide (l[p]? = some c)
def chs (p : Nat) : List (MethodName × Nat) → Cond → Bool := fun l c => decide ((l[p]?).map (fun q => Cond.selects q.1.cls q.1 q.1) = some c)
/-- c stands in the tables at a place: the list's number and the place in it -/
def tbA (p : Nat) (c : Cond) : Bool := match p / 1000 with
  | 1 => chk (p % 1000) tables_1_1 c
  | 2 => chk (p % 1000) tables_1_2 c
  | 3 => chk (p % 1000) tables_1_3 c
  | 4 => chk (p % 1000) tables_1_4 c
  | 5 => chk (p % 1000) tables_1_5 c
  | 6 => chk (p % 1000) tables_1_6 c
  | 7 => chk (p % 1000) tables_1_7 c
  | 8 => chk (p % 1000) tables_1_8 c
  | 9 => chk (p % 1000) tables_1_9 c
  | 101 => chs (p % 1000) lw_privs_1 c
  | 102 => chs (p % 1000) lw_privs_2 c
  | 103 => chs (p % 1000) lw_privs_3 c
  | 104 => chs (p % 1000) lw_privs_4 c
  | 105 => chs (p % 1000) lw_privs_5 c
  | 106 => chs (p % 1000) lw_privs_6 c
  | 107 => chs (p % 1000) lw_privs_7 c
  | 108 => chs (p % 1000) lw_privs_8 c
  | 109 => chs (p % 1000) lw_privs_9 c
  | 110 => chs (p % 1000) lw_privs_10 c
  | _ => false
def okSw (cd : List It) (pc : Nat) (lo : Int) : List Int → List (Int × Nat) → Bool
  | [], [] => true
  | o :: os, (k, t) :: r => decide (k = lo) && okO cd t (pc + o) && okSw cd pc (lo + 1) os r
  | _, _ => false
def okLs (cd : List It) (pc : Nat) : List (Int × Int) → List (Int × Nat) → Bool
  | [], [] => true
  | (k', o) :: os, (k, t) :: r => decide (k = k') && okO cd t (pc + o) && okLs cd pc os r
  | _, _ => false
def fldO (own : String) (idx a b c : Nat) : Bool := match clsL[a]? with
  | some (C, T, N) => Nat.blt b N && tbA c (.fieldLink own idx C (T b).2.1 (T b).2.2.1) && decide ((T b).1 = C)
  | none => false
/-- how long the plain instructions are, and that their numbers are in bounds -/
def lenO (n : Nat) : ClassFile.Instr → Nat
  | .bipush z => cond (decide (-128 ≤ z) && decide (z < 128)) 2 99
  | .sipush z => cond (decide (-32768 ≤ z) && decide (z < 32768)) 3 99
  | .iload _ => 2
  | .aload _ => 2
  | .istore k => cond (Nat.blt k n) 2 99
  | .astore k => cond (Nat.blt k n) 2 99
  | .istore_n k => cond (Nat.blt k.val n) 1 99
  | .astore_n k => cond (Nat.blt k.val n) 1 99
  | .iinc k _ => cond (Nat.blt k n) 3 99
  | _ => 1
/-- an item says what the bytes say, and what it links stands in the tables -/
def okI (r : MR) (i : Nat) : It → Bool := fun (pc, ins, len, a, b, c, e, sw) => decide (decode (r_b r) pc = .ok (ins, len)) && cond (Nat.beq e 999) true (match ins with
  | .goto o => okO (r_c r) a (pc + o) && Nat.beq len 3
  | .if_icmp _ o => okO (r_c r) a (pc + o) && okG (r_c r) (i + 1) (pc + 3) && Nat.beq len 3
  | .ifCond _ o => okO (r_c r) a (pc + o) && okG (r_c r) (i + 1) (pc + 3) && Nat.beq len 3
  | .tableswitch d lo hi os => okO (r_c r) a (pc + d) && decide (hi = lo + os.size - 1) && okSw (r_c r) pc lo os.toList sw && decide (-2147483648 ≤ lo) && decide (hi < 2147483648)
  | .lookupswitch d ps => okO (r_c r) a (pc + d) && okLs (r_c r) pc ps.toList sw && (ps.toList.zip (ps.toList.drop 1)).all (fun (a, next) => a.1 < next.1)
  | .ireturn => Nat.beq len 1
  | .areturn => Nat.beq len 1 && (match r_t r with
    | some (.object _) => true
    | _ => false)
  | .return_ => Nat.beq len 1 && decide (r_t r = none)
  | .getfield k => okG (r_c r) (i + 1) (pc + 3) && Nat.beq len 3 && cond (Nat.beq a 50) (cond (Nat.beq b 0) (tbA c (.fieldLink (r_own r) k "java/lang/String" "value" "[B")) (tbA c (.fieldLink (r_own r) k "java/lang/String" "coder" "B"))) (fldO (r_own r) k a b c)
  | .putfield k => okG (r_c r) (i + 1) (pc + 3) && Nat.beq len 3 && fldO (r_own r) k a b c && (match clsL[a]? with
    | some (_, T, _) => decide ((T b).2.2.2 = false)
    | none => false)
  | .getstatic k => okG (r_c r) (i + 1) (pc + 3) && Nat.beq len 3 && cond (Nat.beq a 0) (tbA c (.fieldLink (r_own r) k "java/lang/String" "COMPACT_STRINGS" "Z")) (tbA c (.fieldLink (r_own r) k "jdk/internal/util/Preconditions" "SIOOBE_FORMATTER" "Ljava/util/function/BiFunction;"))
  | .ldc k => okG (r_c r) (i + 1) (pc + 2) && Nat.beq len 2 && cond (Nat.beq e 1) (Nat.blt a 5 && decide ((r_own r, k) = [("DevilsFount$Law", 48), ("DevilsFount$Reader", 77), ("DevilsFount$Words", 31), ("DevilsFount$Words", 33), ("DevilsFount$Changes", 34)].getD a ("", 0))) (tbA a (.constant (r_own r) k (Int32.ofInt (sw.getD 0 (0, 0)).1)))
  | .ldc_w k => okG (r_c r) (i + 1) (pc + 3) && Nat.beq len 3 && tbA a (.constant (r_own r) k (Int32.ofInt (sw.getD 0 (0, 0)).1))
  | .invokevirtual k => okG (r_c r) (i + 1) (pc + 3) && Nat.beq len 3 && (match sw with
    | [(p, _)] => tbA p.toNat (.methodLink (r_own r) k (r_y (mget a)))
    | _ => false) && Nat.blt 0 b && decide ((parseMethodDescriptor (r_y (mget a)).desc).map (fun d => d.parameters.length) = some (b - 1)) && cond (Nat.beq e 50) (decide ((r_y (mget a)).cls = "java/lang/String")) (match clsL[e]? with
    | some (C, _, _) => decide ((r_y (mget a)).cls = C)
    | none => false) && !(r_s (mget a))
  | .invokestatic k => okG (r_c r) (i + 1) (pc + 3) && Nat.beq len 3 && cond (Nat.beq e 77) (match sw with
    | [(p, _)] => tbA p.toNat (.methodLink (r_own r) k arraycopyName)
    | _ => false) (cond (Nat.beq e 78 || Nat.beq e 79) (match sw with
    | [(p, _)] => tbA p.toNat (.methodLink (r_own r) k (cond (Nat.beq e 78) Lib.Math.max.name Lib.Math.min.name))
    | _ => false) ((match sw with
    | [(p, n)] => tbA p.toNat (cond (Nat.beq n 0) (.methodLink (r_own r) k (r_y (mget a))) (.methodLinkNest (r_own r) k (r_y (mget a)) "DevilsFount"))
    | _ => false) && decide ((parseMethodDescriptor (r_y (mget a)).desc).map (fun d => d.parameters.length) = some b) && r_s (mget a)))
  | ins => okG (r_c r) (i + 1) (pc + len) && Nat.beq len (lenO (r_n r) ins) && Nat.blt len 99)
def okIs (r : MR) : Nat → List It → Bool
  | _, [] => true
  | i, it :: l => okI r i it && okIs r (i + 1) l
/-- a method stands in the tables as its record says -/
def okM (r : MR) : Bool := decide ((r_y r).cls = r_own r) && plainName (r_own r) && decide ((r_y r).cls ≠ "java/lang/invoke/MethodHandle" ∧ (r_y r).cls ≠ "java/lang/invoke/VarHandle") && Nat.ble (r_n r) 40 &&
  tbA ((r_p r).getD 3 0) (.initialized (r_own r)) && cond (r_s r) (tbA ((r_p r).getD 1 0) (.static (r_y r))) (tbA ((r_p r).getD 1 0) (.instanceMethod (r_y r)) && tbA ((r_p r).getD 2 0) (.selects (r_own r) (r_y r) (r_y r)))
def okQ (r : MR) : Bool := okM r && okIs r 0 (r_c r) && okG (r_c r) 0 0
def okC (r : MR) : Prop := Cond.code (r_y r) (r_b r) (r_n r) (r_t r) ∈ lw_tbl
