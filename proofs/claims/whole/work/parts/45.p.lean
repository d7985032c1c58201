/-! how many ones, on both sides -/
def onZ (x : Int) : Int := (bcN x.toNat : Nat)
theorem onZ_b (x : Int) : 0 ≤ onZ x ∧ onZ x ≤ 63 := by
  unfold onZ
  have : bcN x.toNat ≤ 63 := Nat.and_le_right
  omega
theorem nUsh {a k : Nat} (ha : a < 2147483648) (hk : k < 32) : iUsh a k = ((a / 2 ^ k : Nat) : Int) := by
  unfold iUsh
  refine i32_nat ?_ (Nat.lt_of_le_of_lt (Nat.div_le_self _ _) ha)
  have e1 : (Int32.ofInt (a : Int)).toUInt32.toNat = a := nat_i32 (by omega)
  have e2 : (Int32.ofInt (k : Int)).toUInt32.toNat = k := nat_i32 (by omega)
  have e3 : ((Int32.ofInt (k : Int)).toUInt32 &&& Int32.toUInt32 31).toNat = k := by
    rw [UInt32.toNat_and, e2]
    have : ∀ k, k < 32 → k &&& (Int32.toUInt32 31).toNat = k := by decide
    exact this k hk
  show ((Int32.ofInt (a : Int)).toUInt32 >>> ((Int32.ofInt (k : Int)).toUInt32 &&& Int32.toUInt32 31)).toNat = _
  rw [UInt32.toNat_shiftRight, e1, e3, Nat.mod_eq_of_lt hk, Nat.shiftRight_eq_div_pow]
section S30
variable {E : En} {d : Nat} {Φ : Option AV → Mm → Prop} {μ : Mm}
theorem bc_eq {x : Nat} (h : x < 65536) : (iAnd (((iAnd (((iAnd ((x : Int) - (iAnd (iUsh x 1) 1431655765)) 858993459) + (iAnd (iUsh ((x : Int) - (iAnd (iUsh x 1) 1431655765)) 2) 858993459)) + (iUsh ((iAnd ((x : Int) - (iAnd (iUsh x 1) 1431655765)) 858993459) + (iAnd (iUsh ((x : Int) - (iAnd (iUsh x 1) 1431655765)) 2) 858993459)) 4)) 252645135) + (iUsh (iAnd (((iAnd ((x : Int) - (iAnd (iUsh x 1) 1431655765)) 858993459) + (iAnd (iUsh ((x : Int) - (iAnd (iUsh x 1) 1431655765)) 2) 858993459)) + (iUsh ((iAnd ((x : Int) - (iAnd (iUsh x 1) 1431655765)) 858993459) + (iAnd (iUsh ((x : Int) - (iAnd (iUsh x 1) 1431655765)) 2) 858993459)) 4)) 252645135) 8)) + (iUsh ((iAnd (((iAnd ((x : Int) - (iAnd (iUsh x 1) 1431655765)) 858993459) + (iAnd (iUsh ((x : Int) - (iAnd (iUsh x 1) 1431655765)) 2) 858993459)) + (iUsh ((iAnd ((x : Int) - (iAnd (iUsh x 1) 1431655765)) 858993459) + (iAnd (iUsh ((x : Int) - (iAnd (iUsh x 1) 1431655765)) 2) 858993459)) 4)) 252645135) + (iUsh (iAnd (((iAnd ((x : Int) - (iAnd (iUsh x 1) 1431655765)) 858993459) + (iAnd (iUsh ((x : Int) - (iAnd (iUsh x 1) 1431655765)) 2) 858993459)) + (iUsh ((iAnd ((x : Int) - (iAnd (iUsh x 1) 1431655765)) 858993459) + (iAnd (iUsh ((x : Int) - (iAnd (iUsh x 1) 1431655765)) 2) 858993459)) 4)) 252645135) 8)) 16)) 63) = onZ x := by
  have u : ∀ (a k : Nat), a < 2147483648 → k < 32 → iUsh (a : Int) (k : Int) = ((a / 2 ^ k : Nat) : Int) := fun a k => nUsh
  have n : ∀ (a b : Nat), a < 2147483648 → b < 2147483648 → iAnd (a : Int) (b : Int) = ((Nat.land a b : Nat) : Int) := fun a b => nAnd
  have al : ∀ a b : Nat, Nat.land a b ≤ a := fun a b => Nat.and_le_left
  have a1 : iUsh (x : Int) 1 = ((x / 2 : Nat) : Int) := u x 1 (by omega) (by omega)
  have a2 : iAnd (((x / 2 : Nat)) : Int) 1431655765 = ((Nat.land (x / 2) 1431655765 : Nat) : Int) := n (x / 2) 1431655765 (by omega) (by omega)
  have b2 := al (x / 2) 1431655765
  generalize hA : x - Nat.land (x / 2) 1431655765 = A
  have a3 : (x : Int) - ((Nat.land (x / 2) 1431655765 : Nat) : Int) = (A : Int) := by omega
  have a4 : iUsh (A : Int) 2 = ((A / 4 : Nat) : Int) := u A 2 (by omega) (by omega)
  have a5 : iAnd (A : Int) 858993459 = ((Nat.land A 858993459 : Nat) : Int) := n A 858993459 (by omega) (by omega)
  have a6 : iAnd ((A / 4 : Nat) : Int) 858993459 = ((Nat.land (A / 4) 858993459 : Nat) : Int) := n (A / 4) 858993459 (by omega) (by omega)
  have b5 := al A 858993459
  have b6 := al (A / 4) 858993459
  generalize hB : Nat.land A 858993459 + Nat.land (A / 4) 858993459 = B
  have a7 : ((Nat.land A 858993459 : Nat) : Int) + ((Nat.land (A / 4) 858993459 : Nat) : Int) = (B : Int) := by omega
  have a8 : iUsh (B : Int) 4 = ((B / 16 : Nat) : Int) := u B 4 (by omega) (by omega)
  have a9 : (B : Int) + ((B / 16 : Nat) : Int) = ((B + B / 16 : Nat) : Int) := by omega
  have a10 : iAnd ((B + B / 16 : Nat) : Int) 252645135 = ((Nat.land (B + B / 16) 252645135 : Nat) : Int) := n (B + B / 16) 252645135 (by omega) (by omega)
  have b10 := al (B + B / 16) 252645135
  generalize hC : Nat.land (B + B / 16) 252645135 = C at a10 b10
  have a11 : iUsh (C : Int) 8 = ((C / 256 : Nat) : Int) := u C 8 (by omega) (by omega)
  have a12 : (C : Int) + ((C / 256 : Nat) : Int) = ((C + C / 256 : Nat) : Int) := by omega
  have a13 : iUsh ((C + C / 256 : Nat) : Int) 16 = (((C + C / 256) / 65536 : Nat) : Int) := u _ 16 (by omega) (by omega)
  have a14 : ((C + C / 256 : Nat) : Int) + (((C + C / 256) / 65536 : Nat) : Int) = ((C + C / 256 + (C + C / 256) / 65536 : Nat) : Int) := by omega
  have a15 : iAnd ((C + C / 256 + (C + C / 256) / 65536 : Nat) : Int) 63 = ((Nat.land (C + C / 256 + (C + C / 256) / 65536) 63 : Nat) : Int) := n (C + C / 256 + (C + C / 256) / 65536) 63 (by omega) (by omega)
  rw [a1, a2, a3, a4, a5, a6, a7, a8, a9, a10, a11, a12, a13, a14, a15]
  unfold onZ bcN
  show _ = ((Nat.land (Nat.land (Nat.land (x - Nat.land (x / 2) 1431655765) 858993459 + Nat.land ((x - Nat.land (x / 2) 1431655765) / 4) 858993459 + (Nat.land (x - Nat.land (x / 2) 1431655765) 858993459 + Nat.land ((x - Nat.land (x / 2) 1431655765) / 4) 858993459) / 16) 252645135 + Nat.land (Nat.land (x - Nat.land (x / 2) 1431655765) 858993459 + Nat.land ((x - Nat.land (x / 2) 1431655765) / 4) 858993459 + (Nat.land (x - Nat.land (x / 2) 1431655765) 858993459 + Nat.land ((x - Nat.land (x / 2) 1431655765) / 4) 858993459) / 16) 252645135 / 256 + (Nat.land (Nat.land (x - Nat.land (x / 2) 1431655765) 858993459 + Nat.land ((x - Nat.land (x / 2) 1431655765) / 4) 858993459 + (Nat.land (x - Nat.land (x / 2) 1431655765) 858993459 + Nat.land ((x - Nat.land (x / 2) 1431655765) / 4) 858993459) / 16) 252645135 + Nat.land (Nat.land (x - Nat.land (x / 2) 1431655765) 858993459 + Nat.land ((x - Nat.land (x / 2) 1431655765) / 4) 858993459 + (Nat.land (x - Nat.land (x / 2) 1431655765) 858993459 + Nat.land ((x - Nat.land (x / 2) 1431655765) / 4) 858993459) / 16) 252645135 / 256) / 65536) 63 : Nat) : Int)
  rw [hA, hB, hC]
theorem s285 {x : Int} (hd : 1 ≤ d) (x0 : 0 ≤ x) (x1 : x < 65536) (h : Φ (some (.inl (onZ x))) μ) : Ct E d 285 [.inl x] μ Φ := by
  obtain ⟨k, rfl⟩ := Int.eq_ofNat_of_zero_le x0
  exact v285 hd (fe h (bc_eq (by omega)).symm)
theorem l157 (hd : 1 ≤ d) : ∀ (m x r : Nat) (a : Int), x < 2147483648 → onO m x = some r → Φ (some (.inl (a + r))) μ → G E d 157 Φ 4 [none, none, some (.inl a), some (.inl (x : Int))] [] μ := by
  intro m
  induction m with
  | zero => intro x r a _ h; cases h
  | succ m ih =>
    intro x r a hx h hΦ
    unfold onO at h
    refine v157_4 hd ⟨inR_of (by omega) (by omega), fun k => ?_, fun k => ?_⟩
    · have k : x = 0 := by omega
      subst k
      have h : some 0 = some r := h
      have h : 0 = r := Option.some.inj h
      exact fe hΦ (by omega)
    · rw [show Nat.beq x 0 = false from by
        cases e : Nat.beq x 0
        · rfl
        · exact absurd (Nat.eq_of_beq_eq_true e) (by omega)] at h
      rw [cond_false] at h
      split at h
      · rename_i q hq
        have e1 : iAnd (x : Int) ((x : Int) - 1) = ((Nat.land x (x - 1) : Nat) : Int) := by
          rw [show (x : Int) - 1 = ((x - 1 : Nat) : Int) by omega]
          exact nAnd hx (by omega)
        rw [e1]
        have hl : Nat.land x (x - 1) ≤ x := Nat.and_le_left
        have hr := Option.some.inj h
        exact ih _ q (a + 1) (by omega) hq (fe hΦ (by omega))
      · cases h
theorem s157 {x : Int} (hd : 1 ≤ d) (x0 : 0 ≤ x) (x1 : x < 65536) (h : Φ (some (.inl (onZ x))) μ) : Ct E d 157 [.inr 123, .inl x] μ Φ := by
  obtain ⟨k, rfl⟩ := Int.eq_ofNat_of_zero_le x0
  have hk := ck_any (x := k) (by omega)
  unfold ck1 at hk
  split at hk
  · rename_i r hr
    refine v157 hd (l157 hd 17 k r 0 (by omega) hr (fe h ?_))
    rw [Nat.eq_of_beq_eq_true hk]
    unfold onZ
    rw [Int.toNat_natCast]; omega
  · cases hk
end S30
