/-! what constructors do: an interpreter, and that the machine does so -/
abbrev CE : Type := (Nat × List (Nat × Int)) ⊕ ((Nat × List (Nat × Nat)) ⊕ (Nat × List (Option AV)))
abbrev CW : Type := List CE
def lkI : List (Nat × Int) → Nat → Int
  | [], _ => 0
  | (k, v) :: r, i => if i = k then v else lkI r i
def lkN : List (Nat × Nat) → Nat → Option Nat
  | [], _ => none
  | (k, v) :: r, i => if i = k then some v else lkN r i
/-- a field at birth -/
def dfl (ci k : Nat) : Option AV := cond (Nat.blt (fk ci k) 2) (some (.inl 0)) none
def csz : CE → Nat
  | .inl q => q.1
  | .inr (.inl q) => q.1
  | .inr (.inr q) => nfs q.1
def csl : CW → Nat
  | [] => 0
  | c :: r => csz c + csl r
/-- what a field takes -/
def fitB (a b : Nat) : AV → Bool
  | .inl z => Nat.beq (fk a b) 0 || (Nat.beq (fk a b) 1 && (decide (z = 0) || decide (z = 1)))
  | .inr k => Nat.blt 1 (fk a b) && Nat.blt k NO
def cmpB (c : ClassFile.Cond) (x y : Int) : Bool := match c with
  | .eq => decide (x = y)
  | .ne => decide (x ≠ y)
  | .lt => decide (x < y)
  | .ge => decide (y ≤ x)
  | .gt => decide (y < x)
  | .le => decide (x ≤ y)
def isSp : ClassFile.Instr → Bool
  | .goto _ => true
  | .if_icmp _ _ => true
  | .new _ => true
  | .newarray _ => true
  | .anewarray _ => true
  | .iastore => true
  | .aastore => true
  | .putfield _ => true
  | .getfield _ => true
  | .invokespecial _ => true
  | .return_ => true
  | _ => false
def bornO (a : Nat) : CE := .inr (.inr (a, (List.range (nfs a)).map (dfl a)))
/-- one item -/
def cs1 (it : It) (i : Nat) (ls : Ls) (st : List AV) (w : CW) : Option (Nat × Ls × List AV × CW) := match it with
  | (_, ins, _, a, b, _, _, _) => match ins, st with
    | .goto _, st => some (a, ls, st, w)
    | .if_icmp cn _, .inl y :: .inl x :: st => some (cond (cmpB cn (w32 x) (w32 y)) a (i + 1), ls, st, w)
    | .new _, st => cond (Nat.blt w.length NO) (some (i + 1, ls, .inr w.length :: st, w ++ [bornO a])) none
    | .newarray _, .inl z :: st => cond (Nat.blt w.length NO && decide (0 ≤ z) && decide (z ≤ 100000)) (some (i + 1, ls, .inr w.length :: st, w ++ [.inl (z.toNat, [])])) none
    | .anewarray _, .inl z :: st => cond (Nat.blt w.length NO && decide (0 ≤ z) && decide (z ≤ 100000)) (some (i + 1, ls, .inr w.length :: st, w ++ [.inr (.inl (z.toNat, []))])) none
    | .iastore, .inl v :: .inl x :: .inr o :: st => match w[o]? with
      | some (.inl (n, l)) => cond (decide (0 ≤ x) && decide (x < n) && Nat.blt n 2147483648 && Nat.blt o NO) (some (i + 1, ls, st, w.set o (.inl (n, (x.toNat, v) :: l)))) none
      | _ => none
    | .aastore, .inr v :: .inl x :: .inr o :: st => match w[o]?, w[v]? with
      | some (.inr (.inl (n, l))), some (.inr (.inr (ci, _))) => cond (decide (0 ≤ x) && decide (x < n) && Nat.blt n 2147483648 && Nat.beq ci 9 && Nat.blt o NO && Nat.blt v NO) (some (i + 1, ls, st, w.set o (.inr (.inl (n, (x.toNat, v) :: l))))) none
      | _, _ => none
    | .putfield _, v :: .inr o :: st => match w[o]? with
      | some (.inr (.inr (ci, fs))) => cond (Nat.beq ci a && Nat.blt b fs.length && fitB a b v && Nat.blt o NO) (some (i + 1, ls, st, w.set o (.inr (.inr (ci, fs.set b (some v)))))) none
      | _ => none
    | .getfield _, .inr o :: st => match w[o]? with
      | some (.inr (.inr (ci, fs))) => match fs[b]? with
        | some (some v) => cond (Nat.beq ci a && Nat.blt o NO) (some (i + 1, ls, v :: st, w)) none
        | _ => none
      | _ => none
    | ins, st => cond (isSp ins) none (match pur ins st with
      | some st' => some (i + 1, ls, st', w)
      | none => match loc ins ls st with
        | some (ls', st') => some (i + 1, ls', st', w)
        | none => none)
/-- on to the item at which it stops -/
def cgo (call : Nat → Nat → CW → Option CW) (cd : List It) (stop : Nat) : Nat → Nat → Ls → List AV → CW → Option (Ls × List AV × CW)
  | 0, _, _, _, _ => none
  | n + 1, i, ls, st, w => cond (Nat.beq i stop) (some (ls, st, w)) (match cd[i]? with
    | none => none
    | some (pc, ins, len, a, b, c, e, sw) => match ins, st with
      | .invokespecial _, .inr o :: st => cond (Nat.blt o NO && Nat.blt st.length 9) (cond (Nat.beq e 1) (cgo call cd stop n (i + 1) ls st w) (match call a o w with
        | some w' => cgo call cd stop n (i + 1) ls st w'
        | none => none)) none
      | ins, st => match cs1 (pc, ins, len, a, b, c, e, sw) i ls st w with
        | some (i', ls', st', w') => cgo call cd stop n i' ls' st' w'
        | none => none)
def clen (r : MR) : Nat := (r_c r).length - 1
def ccall : Nat → Nat → Nat → CW → Option CW
  | 0, _, _, _ => none
  | d + 1, j, o, w => match cgo (ccall d) (r_c (kget j)) (clen (kget j)) 3000 0 (some (.inr o) :: List.replicate (r_n (kget j) - 1) none) [] w with
    | some (_, [], w') => some w'
    | _ => none
/-! what its items must say -/
def okSp (r : MR) (i : Nat) : It → Bool := fun (pc, ins, len, a, b, c, e, sw) => match ins with
  | .goto o => okO (r_c r) a (pc + o) && Nat.beq len 3
  | .if_icmp _ o => okO (r_c r) a (pc + o) && okG (r_c r) (i + 1) (pc + 3) && Nat.beq len 3
  | .new k => okG (r_c r) (i + 1) (pc + 3) && Nat.beq len 3 && (match clsL[a]? with
    | some (C, _, N) => tbA b (.classLink (r_own r) k C) && tbA c (.instantiable C N) && tbA e (.initialized C)
    | none => false)
  | .newarray t => okG (r_c r) (i + 1) (pc + 2) && Nat.beq len 2 && decide (newarray.typeOf t = .int) && tbA a (.arrayClass .int)
  | .anewarray k => okG (r_c r) (i + 1) (pc + 3) && Nat.beq len 3 && tbA a (.classLink (r_own r) k "DevilsFount$Standing")
  | .iastore => okG (r_c r) (i + 1) (pc + 1) && Nat.beq len 1
  | .aastore => okG (r_c r) (i + 1) (pc + 1) && Nat.beq len 1
  | .putfield k => okG (r_c r) (i + 1) (pc + 3) && Nat.beq len 3 && fldO (r_own r) k a b c && (match clsL[a]? with
    | some (_, T, _) => !(T b).2.2.2 || (decide ((T b).1 = r_own r) && decide ((r_y r).name = "<init>"))
    | none => false)
  | .getfield k => okG (r_c r) (i + 1) (pc + 3) && Nat.beq len 3 && fldO (r_own r) k a b c
  | .invokespecial k => okG (r_c r) (i + 1) (pc + 3) && Nat.beq len 3 && cond (Nat.beq e 1) (tbA b (.methodLink (r_own r) k Lib.objectInit) && tbA c (.instanceMethod Lib.objectInit) && tbA (sw.getD 0 (0, 0)).1.toNat (.code Lib.objectInit ⟨#[0xb1]⟩ 1 none)) (cond (Nat.beq e 2) (tbA b (.methodLink (r_own r) k (r_y (kget a)))) (tbA b (.methodLinkNest (r_own r) k (r_y (kget a)) "DevilsFount")))
  | .return_ => Nat.beq len 1
  | _ => false
def okKI (r : MR) (i : Nat) (it : It) : Bool := decide (decode (r_b r) it.1 = .ok (it.2.1, it.2.2.1)) && cond (isSp it.2.1) (okSp r i it) (okG (r_c r) (i + 1) (it.1 + it.2.2.1) && Nat.beq it.2.2.1 (lenO (r_n r) it.2.1) && Nat.blt it.2.2.1 99)
def okKs (r : MR) : Nat → List It → Bool
  | _, [] => true
  | i, it :: l => okKI r i it && okKs r (i + 1) l
def okKM (r : MR) : Bool := decide ((r_y r).cls = r_own r) && plainName (r_own r) && decide ((r_y r).cls ≠ "java/lang/invoke/MethodHandle" ∧ (r_y r).cls ≠ "java/lang/invoke/VarHandle") && Nat.ble (r_n r) 40 && Nat.blt 0 (r_n r) &&
  tbA ((r_p r).getD 3 0) (.initialized (r_own r)) && tbA ((r_p r).getD 1 0) (.instanceMethod (r_y r)) && decide ((r_y r).name = "<init>") && decide ((parseMethodDescriptor (r_y r).desc).map (fun d => d.parameters.length) = some 0) && decide (r_t r = none) &&
  (match (r_c r)[clen r]? with
  | some (_, .return_, _) => true
  | _ => false)
theorem okKs_at {r : MR} : ∀ {l : List It} {n i : Nat} {it : It}, okKs r n l = true → l[i]? = some it → okKI r (n + i) it = true
  | [], _, _, _, _, h => by simp at h
  | x :: l, n, i, it, h, hi => by
    unfold okKs at h
    rw [Bool.and_eq_true] at h
    cases i with
    | zero =>
      have : x = it := by simpa using hi
      rw [← this]; exact h.1
    | succ i =>
      have := okKs_at h.2 (show l[i]? = some it by simpa using hi)
      rw [show n + (i + 1) = n + 1 + i by omega]
      exact this
theorem cmpB_i {c : ClassFile.Cond} {x y : Int} : cmpB c x y = true ↔ cmp c x y := by
  cases c <;> exact decide_eq_true_iff
theorem dfl_all : ((List.range 13).all fun ci => match clsL[ci]? with
  | some (_, T, N) => (List.range N).all fun k => match parseFieldDescriptor (T k).2.2.1 with
    | some t => decide (defaultValue t = cond (Nat.blt (fk ci k) 2) (.int 0) .null) && (match t with
      | .int => Nat.beq (fk ci k) 0
      | .boolean => Nat.beq (fk ci k) 1
      | .object _ => Nat.blt 1 (fk ci k)
      | .array _ => Nat.blt 1 (fk ci k)
      | _ => false)
    | none => false
  | none => false) = true := by decide +kernel
theorem okKs_app {r : MR} : ∀ (a b : List It) (n : Nat), okKs r n a = true → okKs r (n + a.length) b = true → okKs r n (a ++ b) = true
  | [], _, _, _, h => h
  | x :: a, b, n, h1, h2 => by
    unfold okKs at h1
    rw [Bool.and_eq_true] at h1
    show (okKI r n x && okKs r (n + 1) (a ++ b)) = true
    rw [Bool.and_eq_true]
    refine ⟨h1.1, okKs_app a b (n + 1) h1.2 ?_⟩
    rw [List.length_cons] at h2
    rw [show n + 1 + a.length = n + (a.length + 1) by omega]
    exact h2
theorem okKs_cut {r : MR} {l : List It} {n k S : Nat} (h1 : okKs r n ((l.drop k).take S) = true) (hl : ((l.drop k).take S).length = S) (h2 : okKs r (n + S) (l.drop (k + S)) = true) : okKs r n (l.drop k) = true := by
  rw [← List.take_append_drop S (l.drop k), List.drop_drop]
  exact okKs_app _ _ _ h1 (by rw [hl]; exact h2)
