theorem ok_0 : ((mtab.take 20).all fun r => (r_c r).all fun it => match decode (r_b r) it.1 with
  | .ok (_, l) => Nat.beq l it.2.2.1
  | _ => false) = true := by decide +kernel
