theorem inR_of {x : Int} (h1 : -2147483648 ≤ x) (h2 : x < 2147483648) : inR x := ⟨h1, h2⟩
/-- a truth value as a number -/
noncomputable def b2 (p : Prop) : Int := @ite Int p (Classical.propDecidable p) 1 0
theorem b2_t {p : Prop} (h : p) : b2 p = 1 := by unfold b2; rw [if_pos h]
theorem b2_f {p : Prop} (h : ¬ p) : b2 p = 0 := by unfold b2; rw [if_neg h]
theorem b2_c {p q : Prop} (h : p ↔ q) : b2 p = b2 q := by
  by_cases hp : p
  · rw [b2_t hp, b2_t (h.mp hp)]
  · rw [b2_f hp, b2_f (fun hq => hp (h.mpr hq))]
theorem b2_01 (p : Prop) : b2 p = 0 ∨ b2 p = 1 := by
  by_cases hp : p
  · exact Or.inr (b2_t hp)
  · exact Or.inl (b2_f hp)
theorem b2_in (p : Prop) : inR (b2 p) := by rcases b2_01 p with h | h <;> rw [h] <;> exact inR_of (by decide) (by decide)
theorem b2_1 {p : Prop} : b2 p = 1 ↔ p := by
  by_cases hp : p
  · rw [b2_t hp]; exact ⟨fun _ => hp, fun _ => rfl⟩
  · rw [b2_f hp]; exact ⟨fun h => (by cases h), fun h => absurd h hp⟩
theorem b2_0 {p : Prop} : b2 p = 0 ↔ ¬ p := by
  by_cases hp : p
  · rw [b2_t hp]; exact ⟨fun h => (by cases h), fun h => absurd hp h⟩
  · rw [b2_f hp]; exact ⟨fun _ => hp, fun _ => rfl⟩
theorem b2_ne0 {p : Prop} : b2 p ≠ 0 ↔ p := by
  rw [Ne, b2_0, Classical.not_not]
/-! memory -/
theorem mu_s (μ : Mm) (o : Nat) (i v : Int) : mu μ o i v o i = v := by simp [mu]
theorem mu_o {μ : Mm} {o a : Nat} {i v b : Int} (h : a ≠ o) : mu μ o i v a b = μ a b := by simp [mu, h]
theorem mu_i {μ : Mm} {o a : Nat} {i v b : Int} (h : b ≠ i) : mu μ o i v a b = μ a b := by simp [mu, h]
theorem mcp_o {μ : Mm} {s t a : Nat} {p q n b : Int} (h : a ≠ t) : mcp μ s p t q n a b = μ a b := by simp [mcp, h]
theorem mcp_in {μ : Mm} {s t : Nat} {p q n b : Int} (h1 : q ≤ b) (h2 : b < q + n) : mcp μ s p t q n t b = μ s (p + (b - q)) := by simp [mcp, h1, h2]
theorem mcp_out {μ : Mm} {s t a : Nat} {p q n b : Int} (h : b < q ∨ q + n ≤ b) : mcp μ s p t q n a b = μ a b := by
  unfold mcp
  rw [if_neg (by omega)]
/-! bits of numbers that are not below 0 -/
theorem i32_nat {z : Int32} {n : Nat} (h : z.toBitVec.toNat = n) (hn : n < 2147483648) : z.toInt = n := by
  have h1 : z.toInt = z.toBitVec.toInt := rfl
  rw [h1, BitVec.toInt_eq_toNat_cond, h, if_pos (by omega)]
theorem nat_i32 {n : Nat} (hn : n < 4294967296) : (Int32.ofInt (n : Int)).toBitVec.toNat = n := by
  have : (Int32.ofInt (n : Int)).toBitVec = BitVec.ofInt 32 (n : Int) := rfl
  rw [this, BitVec.ofInt_natCast, BitVec.toNat_ofNat]
  omega
theorem nAnd {a b : Nat} (ha : a < 2147483648) (hb : b < 2147483648) : iAnd a b = ((a &&& b : Nat) : Int) := by
  unfold iAnd
  refine i32_nat ?_ (Nat.lt_of_le_of_lt Nat.and_le_left ha)
  rw [Int32.toBitVec_and, BitVec.toNat_and, nat_i32 (by omega), nat_i32 (by omega)]
theorem nOr {a b : Nat} (ha : a < 2147483648) (hb : b < 2147483648) : iOr a b = ((a ||| b : Nat) : Int) := by
  unfold iOr
  refine i32_nat ?_ (Nat.or_lt_two_pow (n := 31) ha hb)
  rw [Int32.toBitVec_or, BitVec.toNat_or, nat_i32 (by omega), nat_i32 (by omega)]
theorem nXor {a b : Nat} (ha : a < 2147483648) (hb : b < 2147483648) : iXor a b = ((a ^^^ b : Nat) : Int) := by
  unfold iXor
  refine i32_nat ?_ (Nat.xor_lt_two_pow (n := 31) ha hb)
  rw [Int32.toBitVec_xor, BitVec.toNat_xor, nat_i32 (by omega), nat_i32 (by omega)]
theorem sh31 {k : Nat} (hk : k < 32) : (Int32.ofInt (k : Int) &&& 31).toBitVec.toNat = k := by
  rw [Int32.toBitVec_and, BitVec.toNat_and, nat_i32 (by omega)]
  have : ∀ k, k < 32 → k &&& 31 = k := by decide
  exact this k hk
theorem shB {k : Nat} (hk : k < 32) : (Int32.ofInt (k : Int) &&& 31).toBitVec.smod 32 = BitVec.ofNat 32 k := by
  have hB : (Int32.ofInt (k : Int) &&& 31).toBitVec = BitVec.ofNat 32 k := BitVec.eq_of_toNat_eq (by rw [sh31 hk, BitVec.toNat_ofNat]; omega)
  have h2 : ∀ k, k < 32 → (BitVec.ofNat 32 k).smod 32 = BitVec.ofNat 32 k := by decide
  rw [hB, h2 k hk]
theorem nShr {a k : Nat} (ha : a < 2147483648) (hk : k < 32) : iShr a k = ((a / 2 ^ k : Nat) : Int) := by
  unfold iShr
  refine i32_nat ?_ (Nat.lt_of_le_of_lt (Nat.div_le_self _ _) ha)
  have e1 := nat_i32 (n := a) (by omega)
  rw [Int32.toBitVec_shiftRight, shB hk]
  show ((Int32.ofInt (a : Int)).toBitVec.sshiftRight (BitVec.ofNat 32 k).toNat).toNat = _
  rw [BitVec.sshiftRight_eq_of_msb_false (by rw [BitVec.msb_eq_false_iff_two_mul_lt, e1]; omega), BitVec.toNat_ushiftRight, e1, Nat.shiftRight_eq_div_pow, BitVec.toNat_ofNat, Nat.mod_eq_of_lt (by omega)]
theorem nShl {a k : Nat} (ha : a * 2 ^ k < 2147483648) (hk : k < 32) : iShl a k = ((a * 2 ^ k : Nat) : Int) := by
  unfold iShl
  refine i32_nat ?_ ha
  have h3 : 0 < 2 ^ k := Nat.two_pow_pos k
  have h4 : a ≤ a * 2 ^ k := Nat.le_mul_of_pos_right a h3
  have e1 := nat_i32 (n := a) (by omega)
  rw [Int32.toBitVec_shiftLeft, shB hk, BitVec.shiftLeft_eq', BitVec.toNat_shiftLeft, e1, Nat.shiftLeft_eq, BitVec.toNat_ofNat, Nat.mod_eq_of_lt (show k < 2 ^ 32 by omega)]
  omega
theorem iMax_eq {x y : Int} (hx : inR x) (hy : inR y) : iMax x y = max x y := by
  unfold iMax
  rw [w32_id hx, w32_id hy]
  omega
theorem iMin_eq {x y : Int} (hx : inR x) (hy : inR y) : iMin x y = min x y := by
  unfold iMin
  rw [w32_id hx, w32_id hy]
  omega
theorem iDiv_eq {x y : Int} (h0 : 0 ≤ x) (hx : inR x) (hy : 0 < y) (hy2 : inR y) : iDiv x y = x / y := by
  unfold iDiv
  rw [w32_id hx, w32_id hy2, Int.tdiv_eq_ediv_of_nonneg h0]
theorem iRem_eq {x y : Int} (h0 : 0 ≤ x) (hx : inR x) (hy : 0 < y) (hy2 : inR y) : iRem x y = x % y := by
  unfold iRem
  rw [w32_id hx, w32_id hy2, Int.tmod_eq_emod_of_nonneg h0]
theorem w32_ne0 {y : Int} (hy : inR y) (h : y ≠ 0) : w32 y ≠ 0 := by rw [w32_id hy]; exact h
