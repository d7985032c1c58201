theorem w32_eq (x : Int) : (Int32.ofInt x).toInt = w32 x := by
  rw [Int32.toInt_ofInt]
  unfold w32 Int.bmod
  show (if x % 4294967296 < (4294967296 + 1) / 2 then x % 4294967296 else x % 4294967296 - 4294967296) = _
  omega
theorem w32_id {x : Int} (h : inR x) : w32 x = x := by
  unfold inR at h; unfold w32; omega
theorem w32_in (x : Int) : inR (w32 x) := by
  unfold inR w32; omega
theorem ofI_toInt {x : Int} (h : inR x) : (Int32.ofInt x).toInt = x := by rw [w32_eq, w32_id h]
theorem ofI_back (z : Int32) : Int32.ofInt z.toInt = z := Int32.ofInt_toInt z
theorem ofI_inj {x y : Int} : Int32.ofInt x = Int32.ofInt y ↔ w32 x = w32 y := by
  rw [← Int32.toInt_inj, w32_eq, w32_eq]
theorem ofI_lt {x y : Int} : Int32.ofInt x < Int32.ofInt y ↔ w32 x < w32 y := by
  rw [Int32.lt_iff_toInt_lt, w32_eq, w32_eq]
theorem ofI_le {x y : Int} : Int32.ofInt x ≤ Int32.ofInt y ↔ w32 x ≤ w32 y := by
  rw [Int32.le_iff_toInt_le, w32_eq, w32_eq]
theorem ofI_div (x y : Int) : Int32.ofInt (iDiv x y) = Int32.ofInt x / Int32.ofInt y := by
  apply Int32.toInt_inj.mp
  rw [Int32.toInt_div, w32_eq x, w32_eq y, Int32.toInt_ofInt]
  rfl
theorem tmod_in {a b : Int} (h : inR a) : inR (a.tmod b) := by
  unfold inR at *
  have h1 := Int.natAbs_tmod a b
  have h2 := Nat.mod_le a.natAbs b.natAbs
  by_cases ha : 0 ≤ a
  · have := Int.tmod_nonneg b ha
    omega
  · have h3 := Int.tmod_nonneg (a := -a) b (by omega)
    rw [Int.neg_tmod] at h3
    omega
theorem ofI_rem (x y : Int) : Int32.ofInt (iRem x y) = Int32.ofInt x % Int32.ofInt y := by
  apply Int32.toInt_inj.mp
  rw [Int32.toInt_mod, w32_eq x, w32_eq y, ofI_toInt]
  · rfl
  · exact tmod_in (w32_in x)
theorem ofI_ne0 {y : Int} (h : w32 y ≠ 0) : ¬ Int32.ofInt y = 0 := by
  intro e
  apply h
  have : Int32.ofInt y = Int32.ofInt 0 := e
  rw [ofI_inj] at this
  rw [this]; rfl
theorem ofI_in {x : Int} {n : Nat} (h0 : 0 ≤ x) (h1 : x < n) (hn : n < 2147483648) : vp_in (Int32.ofInt x) n ∧ (Int32.ofInt x).toNatClampNeg = x.toNat := by
  have hr : inR x := by unfold inR; omega
  refine ⟨vp_in_iff.mpr ?_, ?_⟩
  · rw [ofI_toInt hr]; exact ⟨h0, h1⟩
  · show (Int32.ofInt x).toInt.toNat = x.toNat
    rw [ofI_toInt hr]
