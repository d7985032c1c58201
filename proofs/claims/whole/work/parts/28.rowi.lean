/-! seven lamps -/
def enc (a : Int) : Int := iOr (iOr (iOr (iOr (iOr (iOr (iShl (iXor (iXor (iAnd (iShr a 3) 1) (iAnd (iShr a 2) 1)) (iAnd a 1)) 6) (iShl (iXor (iXor (iAnd (iShr a 3) 1) (iAnd (iShr a 1) 1)) (iAnd a 1)) 5)) (iShl (iAnd (iShr a 3) 1) 4)) (iShl (iXor (iXor (iAnd (iShr a 2) 1) (iAnd (iShr a 1) 1)) (iAnd a 1)) 3)) (iShl (iAnd (iShr a 2) 1) 2)) (iShl (iAnd (iShr a 1) 1) 1)) (iAnd a 1)
/-- as the reference has it -/
def enM (a : Int) : Int := iOr (iOr (iOr (iOr (iOr (iOr (iShl (iXor (iXor (iAnd (iShr a 3) 1) (iAnd (iShr a 2) 1)) (iAnd (iShr a 0) 1)) 6) (iShl (iXor (iXor (iAnd (iShr a 3) 1) (iAnd (iShr a 1) 1)) (iAnd (iShr a 0) 1)) 5)) (iShl (iAnd (iShr a 3) 1) 4)) (iShl (iXor (iXor (iAnd (iShr a 2) 1) (iAnd (iShr a 1) 1)) (iAnd (iShr a 0) 1)) 3)) (iShl (iAnd (iShr a 2) 1) 2)) (iShl (iAnd (iShr a 1) 1) 1)) (iAnd (iShr a 0) 1)
def de4 (a : Int) : Int := iOr (iShl (iAnd (iShr a 4) 1) 3) (iAnd a 7)
def wF (a : Int) : Nat → Int → Int → Int
  | 0, x, _ => x
  | m + 1, x, j => wF a m (if iAnd (iShr a (7 - j)) 1 = 1 then iXor x j else x) (j + 1)
def fx (a z : Int) : Int := if z = 0 then a else iXor a (iShl 1 (7 - z))
def wG (a : Int) : Nat → Int → Int
  | 0, _ => -1
  | m + 1, j => if enM (de4 (fx a j)) = fx a j then j else wG a m (j + 1)
def svA (a b : Int) : Int := if b = 0 ∧ 0 ≤ a ∧ a ≤ 15 then enc a else if b = 1 ∧ 0 ≤ a ∧ a ≤ 127 then de4 (fx a (wF a 7 0 1)) else if b = 2 ∧ 0 ≤ a ∧ a ≤ 127 then wF a 7 0 1 else -1
theorem sv_e : ∀ a, a < 16 → enM ((a : Nat) : Int) = enc (a : Int) := by decide +kernel
theorem sv_w : ∀ a, a < 128 → wG ((a : Nat) : Int) 8 0 = wF (a : Int) 7 0 1 ∧ 0 ≤ wF (a : Int) 7 0 1 ∧ wF (a : Int) 7 0 1 ≤ 7 := by decide +kernel
theorem sv_e' {a : Int} (h0 : 0 ≤ a) (h1 : a ≤ 15) : enM a = enc a := by have := sv_e a.toNat (by omega); rwa [show ((a.toNat : Nat) : Int) = a by omega] at this
theorem sv_w' {a : Int} (h0 : 0 ≤ a) (h1 : a ≤ 127) : wG a 8 0 = wF a 7 0 1 ∧ 0 ≤ wF a 7 0 1 ∧ wF a 7 0 1 ≤ 7 := by have := sv_w a.toNat (by omega); rwa [show ((a.toNat : Nat) : Int) = a by omega] at this
section S11
variable {E : En} {d : Nat} {Φ : Option AV → Mm → Prop} {μ : Mm}
theorem l140 {a : Int} (hd : 1 ≤ d) : ∀ (m : Nat) (x j : Int), j + m = 8 → 0 ≤ j → Φ (some (.inl (wF a m x j))) μ → G E d 140 Φ 4 [some (.inl a), some (.inl x), some (.inl j)] [] μ := by
  intro m
  induction m with
  | zero => intro x j hm h0 h; exact v140_4 hd ⟨inR_of (by omega) (by omega), fun _ => h, fun h1 => by omega⟩
  | succ m ih =>
    intro x j hm h0 h
    rw [wF] at h
    refine v140_4 hd ⟨inR_of (by omega) (by omega), fun h1 => by omega, fun h1 => ⟨i32_in _, fun h2 => ih _ _ (by omega) (by omega) ?_, fun h2 => ih _ _ (by omega) (by omega) ?_⟩⟩
    · rwa [if_neg h2] at h
    · rwa [if_pos h2] at h
theorem s140 {a : Int} (hd : 1 ≤ d) (h : Φ (some (.inl (wF a 7 0 1))) μ) : Ct E d 140 [.inl a] μ Φ := v140 hd (l140 hd 7 0 1 (by omega) (by omega) h)
theorem s136 {a b : Int} (hd : 3 ≤ d) (ha : inR a) (hb : inR b) (h : Φ (some (.inl (svA a b))) μ) : Ct E d 136 [.inr 0, .inl a, .inl b] μ Φ := by
  have no : ¬ (b = 0 ∧ 0 ≤ a ∧ a ≤ 15) → ¬ (b = 1 ∧ 0 ≤ a ∧ a ≤ 127) → ¬ (b = 2 ∧ 0 ≤ a ∧ a ≤ 127) → Φ (some (.inl (-1))) μ := fun h1 h2 h3 => fe h (by rw [svA, if_neg h1, if_neg h2, if_neg h3])
  refine v136 (by omega) ⟨hb, fun h1 => no (by omega) (by omega) (by omega), fun h1 => ⟨hb, fun h2 => no (by omega) (by omega) (by omega), fun h2 => ⟨ha, fun h3 => no (by omega) (by omega) (by omega), fun h3 => ⟨hb, fun h4 => ⟨ha, fun h5 => ⟨hb, fun h6 => absurd h6 h4, fun h6 => ?_, fun _ h6 => ?_⟩, fun h5 => no (by omega) (by omega) (by omega)⟩, fun h4 => ⟨ha, fun h5 => ⟨hb, fun _ => ?_, fun h6 => by omega, fun h6 => absurd h4 h6⟩, fun h5 => no (by omega) (by omega) (by omega)⟩⟩⟩⟩⟩
  · have w := sv_w' h3 h5
    have h' := fe h (show _ = de4 (fx a (wF a 7 0 1)) by rw [svA, if_neg (by omega), if_pos (by omega)])
    refine v139 (by omega) (s140 (by omega) ⟨inR_of (by omega) (by omega), fun h7 => v138 (by omega) ?_, fun h7 => v138 (by omega) ?_⟩)
    · exact fe h' (by rw [fx, if_neg h7]; rfl)
    · exact fe h' (by rw [fx, if_pos h7]; rfl)
  · refine s140 (by omega) (fe h ?_)
    rw [svA, if_neg (by omega), if_neg (by omega), if_pos (by omega)]
  · exact v137 (by omega) (fe h (by rw [svA, if_pos (by omega)]; rfl))
theorem s263 {a b : Int} (hd : 1 ≤ d) (h : Φ (some (.inl (iAnd (iShr a b) 1))) μ) : Ct E d 263 [.inr 123, .inl a, .inl b] μ Φ := v263 hd h
theorem s264 {a : Int} (hd : 2 ≤ d) (h : Φ (some (.inl (enM a))) μ) : Ct E d 264 [.inr 123, .inl a] μ Φ :=
  v264 (by omega) (s263 (by omega) (s263 (by omega) (s263 (by omega) (s263 (by omega) h))))
theorem s265 {a : Int} (hd : 2 ≤ d) (h : Φ (some (.inl (de4 a))) μ) : Ct E d 265 [.inr 123, .inl a] μ Φ :=
  v265 (by omega) (s263 (by omega) h)
theorem l266 {a : Int} (hd : 3 ≤ d) (ha : inR a) : ∀ (m : Nat) (j : Int), j + m = 8 → 0 ≤ j → Φ (some (.inl (wG a m j))) μ → G E d 266 Φ 2 [some (.inr 123), some (.inl a), some (.inl j), none] [] μ := by
  intro m
  induction m with
  | zero => intro j hm h0 h; exact v266_2 (by omega) ⟨inR_of (by omega) (by omega), fun _ => h, fun h1 => by omega⟩
  | succ m ih =>
    intro j hm h0 h
    rw [wG] at h
    refine v266_2 (by omega) ⟨inR_of (by omega) (by omega), fun h1 => by omega, fun h1 => ⟨inR_of (by omega) (by omega), fun h2 => ?_, fun h2 => ?_⟩⟩
    · rw [fx, if_neg h2] at h
      refine s265 (by omega) (s264 (by omega) ⟨i32_in _, i32_in _, fun h3 => ih _ (by omega) (by omega) ?_, fun h3 => ?_⟩)
      · rwa [if_neg h3] at h
      · rwa [if_pos h3] at h
    · rw [fx, if_pos h2] at h
      refine s265 (by omega) (s264 (by omega) ⟨i32_in _, ha, fun h3 => ih _ (by omega) (by omega) ?_, fun h3 => ?_⟩)
      · rwa [if_neg h3] at h
      · rwa [if_pos h3] at h
theorem s266 {a : Int} (hd : 3 ≤ d) (ha : inR a) (h : Φ (some (.inl (wG a 8 0))) μ) : Ct E d 266 [.inr 123, .inl a] μ Φ := v266 (by omega) (l266 hd ha 8 0 (by omega) (by omega) h)
theorem s267 {a b : Int} (hd : 4 ≤ d) (ha : inR a) (hb : inR b) (h : Φ (some (.inl (svA a b))) (mu μ 123 0 0)) : Ct E d 267 [.inr 123, .inl a, .inl b] μ Φ := by
  have k : ∀ x : Nat, x < 2147483648 → inR (x : Int) := fun x hx => inR_of (by omega) (by omega)
  have no : ¬ (b = 0 ∧ 0 ≤ a ∧ a ≤ 15) → ¬ (b = 1 ∧ 0 ≤ a ∧ a ≤ 127) → ¬ (b = 2 ∧ 0 ≤ a ∧ a ≤ 127) → Φ (some (.inl (-1))) (mu μ 123 0 0) := fun h1 h2 h3 => fe h (by rw [svA, if_neg h1, if_neg h2, if_neg h3])
  refine v267 (by omega) (s153 (by omega) hb (k 0 (by omega)) (k 2 (by omega)) ⟨b2_in _, fun h1 => no (by have := b2_0.mp h1; omega) (by have := b2_0.mp h1; omega) (by have := b2_0.mp h1; omega), fun h1 => ⟨hb, fun h2 => ?_, fun h2 => ?_⟩⟩)
  · have h1 := b2_ne0.mp h1
    refine s153 (by omega) ha (k 0 (by omega)) (k 127 (by omega)) ⟨b2_in _, fun h3 => ⟨hb, fun _ => ?_, fun h4 => absurd h4 h2⟩, fun h3 => no (by omega) (by have := b2_0.mp h3; omega) (by have := b2_0.mp h3; omega)⟩
    have h3 := b2_ne0.mp h3
    have w := sv_w' h3.1 h3.2
    refine s266 (by omega) ha ?_
    rw [w.1]
    refine ⟨hb, fun h4 => ?_, fun h4 => fe h (by rw [svA, if_neg (by omega), if_neg (by omega), if_pos (by omega)])⟩
    have h' := fe h (show _ = de4 (fx a (wF a 7 0 1)) by rw [svA, if_neg (by omega), if_pos (by omega)])
    refine ⟨inR_of (by omega) (by omega), fun h5 => s265 (by omega) ?_, fun h5 => s265 (by omega) ?_⟩
    · exact fe h' (by rw [fx, if_neg h5])
    · exact fe h' (by rw [fx, if_pos h5])
  · refine s153 (by omega) ha (k 0 (by omega)) (k 15 (by omega)) ⟨b2_in _, fun h3 => ⟨hb, fun h4 => absurd h2 h4, fun _ => s264 (by omega) ?_⟩, fun h3 => no (by have := b2_0.mp h3; omega) (by omega) (by omega)⟩
    have h3 := b2_ne0.mp h3
    exact fe h (by rw [svA, if_pos (by omega), sv_e' h3.1 h3.2])
end S11
/-! what is over -/
theorem tb_top {y n : Nat} (h0 : 2 ^ n ≤ y) (h1 : y < 2 ^ (n + 1)) : y.testBit n = true := by
  rw [Nat.testBit_eq_decide_div_mod_eq]
  have : y / 2 ^ n = 1 := Nat.div_eq_of_lt_le (by omega) (by rw [Nat.pow_succ] at h1; omega)
  rw [this]; rfl
theorem tb_low {y n : Nat} (h1 : y < 2 ^ (n + 1)) (h : y.testBit n = false) : y < 2 ^ n := by
  apply Classical.byContradiction
  intro hn
  rw [tb_top (by omega) h1] at h
  cases h
theorem xor_low {x y n : Nat} (hx : x < 2 ^ (n + 1)) (hb : x.testBit n = true) (h0 : 2 ^ n ≤ y) (h1 : y < 2 ^ (n + 1)) : x ^^^ y < 2 ^ n := by
  apply Nat.lt_pow_two_of_testBit
  intro i hi
  rw [Nat.testBit_xor]
  by_cases e : i = n
  · rw [e, hb, tb_top h0 h1]; rfl
  · have hp : 2 ^ (n + 1) ≤ 2 ^ i := Nat.pow_le_pow_right (by omega) (by omega)
    rw [Nat.testBit_lt_two_pow (by omega), Nat.testBit_lt_two_pow (by omega)]; rfl
theorem tb_i {x k : Nat} (hx : x < 2147483648) (hk : k < 32) : iAnd (iShr (x : Int) (k : Int)) 1 = 1 ↔ x.testBit k = true := by
  have hq : x / 2 ^ k < 2147483648 := Nat.lt_of_le_of_lt (Nat.div_le_self _ _) hx
  have h1 := nAnd (a := x / 2 ^ k) (b := 1) hq (by omega)
  rw [nShr hx hk, Nat.testBit_eq_decide_div_mod_eq, decide_eq_true_eq]
  rw [Nat.and_one_is_mod] at h1
  rw [show (1 : Int) = ((1 : Nat) : Int) by rfl, h1]
  omega
/-- the highest one -/
def hiP (x : Nat) (z : Int) : Prop := (z = -1 ∧ x = 0) ∨ ∃ k : Nat, z = k ∧ 2 ^ k ≤ x ∧ x < 2 ^ (k + 1)
/-- what is over, place by place -/
def ovR (b : Nat) (k : Nat) : Nat → Nat → Nat
  | 0, x => x
  | m + 1, x => ovR b k m (if x.testBit (m + k) then x ^^^ (b * 2 ^ m) else x)
/-- the answer to over -/
def ovA (a b : Int) (z : Int) : Prop := if 0 ≤ a ∧ a ≤ 1048575 ∧ 2 ≤ b ∧ b ≤ 255 then ∃ k : Nat, 2 ^ k ≤ b.toNat ∧ b.toNat < 2 ^ (k + 1) ∧ z = (ovR b.toNat k 20 (a.toNat * 2 ^ k) : Nat) else z = -1
section S12
variable {E : En} {d : Nat} {Φ : Option AV → Mm → Prop} {μ : Mm}
theorem hi_end {x j : Nat} (hj : j = 0 ∨ 0 < x / 2 ^ (j - 1)) (he : x / 2 ^ j = 0) : hiP x ((j : Int) - 1) := by
  have h1 : x < 2 ^ j := (Nat.div_eq_zero_iff_lt (Nat.two_pow_pos j)).mp he
  rcases hj with rfl | hj
  · exact Or.inl ⟨by omega, by simpa using h1⟩
  · obtain ⟨i, rfl⟩ | rfl : (∃ i, j = i + 1) ∨ j = 0 := by
      cases j with
      | zero => exact Or.inr rfl
      | succ i => exact Or.inl ⟨i, rfl⟩
    · refine Or.inr ⟨i, by omega, ?_, h1⟩
      rw [Nat.add_sub_cancel] at hj
      exact (Nat.div_pos_iff.mp hj).2
    · exact Or.inl ⟨by omega, by simpa using h1⟩
theorem sh_1 {x j : Nat} (hx : x < 2147483648) : iShr ((x / 2 ^ j : Nat) : Int) 1 = ((x / 2 ^ (j + 1) : Nat) : Int) := by
  have := nShr (a := x / 2 ^ j) (k := 1) (Nat.lt_of_le_of_lt (Nat.div_le_self _ _) hx) (by omega)
  rw [Nat.div_div_eq_div_mul, ← Nat.pow_add] at this
  exact this
theorem l142 {x : Nat} (hd : 1 ≤ d) (hx : x < 2147483648) (h : ∀ z, hiP x z → Φ (some (.inl (z + 1))) μ) : ∀ (m j : Nat), j + m = 31 → (j = 0 ∨ 0 < x / 2 ^ (j - 1)) → G E d 142 Φ 4 [none, some (.inl (j : Int)), some (.inl ((x / 2 ^ j : Nat) : Int))] [] μ := by
  intro m
  induction m with
  | zero =>
    intro j hm hj
    have e : x / 2 ^ j = 0 := (Nat.div_eq_zero_iff_lt (Nat.two_pow_pos j)).mpr (by rw [show j = 31 by omega]; exact hx)
    rw [e]
    exact v142_4 hd ⟨inR_of (by omega) (by omega), fun _ => fe (h _ (hi_end hj e)) (by omega), fun h1 => by omega⟩
  | succ m ih =>
    intro j hm hj
    have hq : x / 2 ^ j < 2147483648 := Nat.lt_of_le_of_lt (Nat.div_le_self _ _) hx
    have hq0 : 0 ≤ ((x / 2 ^ j : Nat) : Int) := Int.natCast_nonneg _
    refine v142_4 hd ⟨inR_of (by omega) (by omega), fun h1 => fe (h _ (hi_end hj (by omega))) (by omega), fun h1 => ?_⟩
    rw [sh_1 hx]
    have := ih (j + 1) (by omega) (Or.inr (by rw [Nat.add_sub_cancel]; omega))
    simpa using this
theorem s142 {x : Nat} (hd : 1 ≤ d) (hx : x < 2147483648) (h : ∀ z, hiP x z → Φ (some (.inl (z + 1))) μ) : Ct E d 142 [.inl (x : Int)] μ Φ := by
  have := l142 (E := E) hd hx h 31 0 (by omega) (Or.inl rfl)
  exact v142 hd (by simpa using this)
theorem l268 {x : Nat} (hd : 1 ≤ d) (hx : x < 2147483648) (h : ∀ z, hiP x z → Φ (some (.inl z)) μ) : ∀ (m j : Nat), j + m = 31 → (j = 0 ∨ 0 < x / 2 ^ (j - 1)) → G E d 268 Φ 4 [none, none, some (.inl ((j : Int) - 1)), some (.inl ((x / 2 ^ j : Nat) : Int))] [] μ := by
  intro m
  induction m with
  | zero =>
    intro j hm hj
    have e : x / 2 ^ j = 0 := (Nat.div_eq_zero_iff_lt (Nat.two_pow_pos j)).mpr (by rw [show j = 31 by omega]; exact hx)
    rw [e]
    exact v268_4 hd ⟨inR_of (by omega) (by omega), fun _ => h _ (hi_end hj e), fun h1 => by omega⟩
  | succ m ih =>
    intro j hm hj
    have hq : x / 2 ^ j < 2147483648 := Nat.lt_of_le_of_lt (Nat.div_le_self _ _) hx
    have hq0 : 0 ≤ ((x / 2 ^ j : Nat) : Int) := Int.natCast_nonneg _
    refine v268_4 hd ⟨inR_of (by omega) (by omega), fun h1 => h _ (hi_end hj (by omega)), fun h1 => ?_⟩
    rw [sh_1 hx]
    have := ih (j + 1) (by omega) (Or.inr (by rw [Nat.add_sub_cancel]; omega))
    rw [show ((j + 1 : Nat) : Int) - 1 = (j : Int) - 1 + 1 by omega] at this
    exact this
theorem s268 {x : Nat} (hd : 1 ≤ d) (hx : x < 2147483648) (h : ∀ z, hiP x z → Φ (some (.inl z)) μ) : Ct E d 268 [.inr 123, .inl (x : Int)] μ Φ := by
  have := l268 (E := E) hd hx h 31 0 (by omega) (Or.inl rfl)
  exact v268 hd (by simpa using this)
theorem ov_b {b k m x : Nat} (hb0 : 2 ^ k ≤ b) (hb1 : b < 2 ^ (k + 1)) (hx : x < 2 ^ (m + 1 + k)) : (if x.testBit (m + k) then x ^^^ (b * 2 ^ m) else x) < 2 ^ (m + k) := by
  have e : m + 1 + k = m + k + 1 := by omega
  rw [e] at hx
  have y0 : 2 ^ (m + k) ≤ b * 2 ^ m := by rw [Nat.pow_add, Nat.mul_comm]; exact Nat.mul_le_mul_right _ hb0
  have y1 : b * 2 ^ m < 2 ^ (m + k + 1) := by rw [show m + k + 1 = (k + 1) + m by omega, Nat.pow_add]; exact Nat.mul_lt_mul_of_pos_right hb1 (Nat.two_pow_pos m)
  split
  · next h => exact xor_low hx h y0 y1
  · next h => exact tb_low hx (by simpa using h)
theorem bd27 {x m k : Nat} (hm : m ≤ 20) (hk : k ≤ 7) (h : x < 2 ^ (m + k)) : x < 134217728 :=
  Nat.lt_of_lt_of_le h (by have := Nat.pow_le_pow_right (n := 2) (by omega) (show m + k ≤ 27 by omega); simpa using this)
theorem l141 {b k : Nat} (hd : 1 ≤ d) (hk : k ≤ 7) (hb0 : 2 ^ k ≤ b) (hb1 : b < 2 ^ (k + 1)) : ∀ (m x : Nat), m ≤ 20 → x < 2 ^ (m + k) → Φ (some (.inl ((ovR b k m x : Nat) : Int))) μ → G E d 141 Φ 24 [none, none, some (.inl (b : Int)), some (.inl (k : Int)), some (.inl (x : Int)), some (.inl ((m : Int) - 1))] [] μ := by
  intro m
  induction m with
  | zero =>
    intro x hm hx h
    exact v141_24 hd ⟨inR_of (by omega) (by omega), fun _ => h, fun h1 => by omega⟩
  | succ m ih =>
    intro x hm hx h
    have hn := ov_b hb0 hb1 hx
    have hx' := bd27 (by omega) hk hx
    have hbm : b * 2 ^ m < 2147483648 := by
      have y1 : b * 2 ^ m < 2 ^ (m + k + 1) := by rw [show m + k + 1 = (k + 1) + m by omega, Nat.pow_add]; exact Nat.mul_lt_mul_of_pos_right hb1 (Nat.two_pow_pos m)
      rw [show m + k + 1 = (m + 1) + k by omega] at y1
      have := bd27 (by omega) hk y1
      omega
    rw [ovR] at h
    have e0 : ((m + 1 : Nat) : Int) - 1 = (m : Int) := by omega
    have e1 : (m : Int) + (k : Int) = ((m + k : Nat) : Int) := by omega
    rw [e0]
    refine v141_24 hd ?_
    rw [e1, nShl hbm (by omega), nXor (by omega) hbm]
    refine ⟨inR_of (by omega) (by omega), fun h1 => by omega, fun _ => ⟨i32_in _, fun h1 => ?_, fun h1 => ?_⟩⟩
    · rw [Ne, tb_i (by omega) (by omega)] at h1
      rw [if_neg h1] at h hn
      exact ih x (by omega) hn h
    · rw [tb_i (by omega) (by omega)] at h1
      rw [if_pos h1] at h hn
      exact ih _ (by omega) hn h
theorem hi_k {x k : Nat} (hk0 : 2 ^ k ≤ x) (hk1 : x < 2 ^ (k + 1)) {z : Int} (h : hiP x z) : z = k := by
  rcases h with ⟨_, h⟩ | ⟨j, rfl, h0, h1⟩
  · have := Nat.two_pow_pos k; omega
  · have a : j < k + 1 := (Nat.pow_lt_pow_iff_right (a := 2) (by omega)).mp (by omega)
    have b : k < j + 1 := (Nat.pow_lt_pow_iff_right (a := 2) (by omega)).mp (by omega)
    omega
theorem hi_ex {b : Nat} (h2 : 2 ≤ b) (h8 : b ≤ 255) {z : Int} (h : hiP b z) : ∃ k : Nat, z = k ∧ k ≤ 7 ∧ 2 ^ k ≤ b ∧ b < 2 ^ (k + 1) := by
  rcases h with ⟨_, h⟩ | ⟨j, rfl, h0, h1⟩
  · omega
  · have : j < 8 := (Nat.pow_lt_pow_iff_right (a := 2) (by omega)).mp (by omega)
    exact ⟨j, rfl, by omega, h0, h1⟩
theorem ov_s {a k : Nat} (ha : a ≤ 1048575) : a * 2 ^ k < 2 ^ (20 + k) := by
  rw [Nat.pow_add]; exact Nat.mul_lt_mul_of_pos_right (by omega) (Nat.two_pow_pos k)
theorem s141 {a b : Int} (hd : 2 ≤ d) (ha : inR a) (hb : inR b) (h : ∀ z, ovA a b z → Φ (some (.inl z)) μ) : Ct E d 141 [.inr 0, .inl a, .inl b] μ Φ := by
  have no : ¬ (0 ≤ a ∧ a ≤ 1048575 ∧ 2 ≤ b ∧ b ≤ 255) → Φ (some (.inl (-1))) μ := fun e => h _ (by rw [ovA, if_neg e])
  refine v141 (by omega) ⟨ha, fun h1 => no (by omega), fun h1 => ⟨ha, fun h2 => no (by omega), fun h2 => ⟨hb, fun h3 => no (by omega), fun h3 => ⟨hb, fun h4 => ?_, fun h4 => no (by omega)⟩⟩⟩⟩
  obtain ⟨a, rfl⟩ : ∃ k : Nat, a = k := ⟨a.toNat, by omega⟩
  obtain ⟨b, rfl⟩ : ∃ k : Nat, b = k := ⟨b.toNat, by omega⟩
  refine s142 (by omega) (by omega) fun z hz => ?_
  obtain ⟨k, rfl, hk, k0, k1⟩ := hi_ex (by omega) (by omega) hz
  have hs := ov_s (a := a) (k := k) (by omega)
  have := bd27 (by omega) hk hs
  show G E d 141 Φ 24 _ [] μ
  rw [show (k : Int) + 1 - 1 = k by omega, nShl (by omega) (by omega)]
  refine l141 (by omega) hk k0 k1 20 _ (by omega) hs (h _ ?_)
  rw [ovA, if_pos (by omega)]
  exact ⟨k, k0, k1, rfl⟩
theorem l269 {b k : Nat} (hd : 2 ≤ d) (hk : k ≤ 7) (hb0 : 2 ^ k ≤ b) (hb1 : b < 2 ^ (k + 1)) : ∀ (m x : Nat), m ≤ 20 → x < 2 ^ (m + k) → Φ (some (.inl ((ovR b k m x : Nat) : Int))) μ → G E d 269 Φ 25 [some (.inr 123), none, some (.inl (b : Int)), some (.inl (k : Int)), some (.inl (x : Int))] [] μ := by
  intro m
  induction m with
  | zero =>
    intro x hm hx h
    have hx' := bd27 (by omega) hk hx
    rw [Nat.zero_add] at hx
    refine v269_25 (by omega) (s268 (by omega) (by omega) fun z hz => ?_)
    have hz2 : -1 ≤ z ∧ z < k := by
      rcases hz with ⟨rfl, _⟩ | ⟨j, rfl, h0, h1⟩
      · omega
      · have : j < k := (Nat.pow_lt_pow_iff_right (a := 2) (by omega)).mp (by omega)
        omega
    exact ⟨inR_of (by omega) (by omega), inR_of (by omega) (by omega), fun _ => h, fun h1 => by omega⟩
  | succ m ih =>
    intro x hm hx h
    have hn := ov_b hb0 hb1 hx
    have hx' := bd27 (by omega) hk hx
    rw [ovR] at h
    by_cases hbit : x.testBit (m + k) = true
    · rw [if_pos hbit] at h hn
      have hbm : b * 2 ^ m < 2147483648 := by
        have y1 : b * 2 ^ m < 2 ^ (m + k + 1) := by rw [show m + k + 1 = (k + 1) + m by omega, Nat.pow_add]; exact Nat.mul_lt_mul_of_pos_right hb1 (Nat.two_pow_pos m)
        rw [show m + k + 1 = (m + 1) + k by omega] at y1
        have := bd27 (by omega) hk y1
        omega
      have x0 : 2 ^ (m + k) ≤ x := by
        apply Classical.byContradiction
        intro hc
        rw [Nat.testBit_lt_two_pow (by omega)] at hbit
        cases hbit
      have x1 : x < 2 ^ (m + k + 1) := by rwa [show m + k + 1 = m + 1 + k by omega]
      refine v269_25 (by omega) (s268 (by omega) (by omega) fun z hz => ?_)
      rw [hi_k x0 x1 hz]
      refine ⟨inR_of (by omega) (by omega), inR_of (by omega) (by omega), fun h1 => by omega, fun _ => s268 (by omega) (by omega) fun z hz => ?_⟩
      rw [hi_k x0 x1 hz]
      show G E d 269 Φ 25 _ [] μ
      rw [show ((m + k : Nat) : Int) - (k : Int) = (m : Int) by omega, nShl hbm (by omega), nXor (by omega) hbm]
      exact ih _ (by omega) hn h
    · rw [if_neg hbit] at h hn
      exact ih x (by omega) hn h
theorem s269 {a b : Int} (hd : 3 ≤ d) (ha : inR a) (hb : inR b) (h : ∀ z, ovA a b z → Φ (some (.inl z)) (mu μ 123 0 0)) : Ct E d 269 [.inr 123, .inl a, .inl b] μ Φ := by
  have k : ∀ x : Nat, x < 2147483648 → inR (x : Int) := fun x hx => inR_of (by omega) (by omega)
  have no : ¬ (0 ≤ a ∧ a ≤ 1048575 ∧ 2 ≤ b ∧ b ≤ 255) → Φ (some (.inl (-1))) (mu μ 123 0 0) := fun e => h _ (by rw [ovA, if_neg e])
  refine v269 (by omega) (s153 (by omega) ha (k 0 (by omega)) (k 1048575 (by omega)) ⟨b2_in _, fun h1 => no (by have := b2_0.mp h1; omega), fun h1 => s153 (by omega) hb (k 2 (by omega)) (k 255 (by omega)) ⟨b2_in _, fun h2 => ?_, fun h2 => no (by have := b2_0.mp h2; omega)⟩⟩)
  have h1 := b2_ne0.mp h1
  have h2 := b2_ne0.mp h2
  obtain ⟨a, rfl⟩ : ∃ k : Nat, a = k := ⟨a.toNat, by omega⟩
  obtain ⟨b, rfl⟩ : ∃ k : Nat, b = k := ⟨b.toNat, by omega⟩
  refine s268 (by omega) (by omega) fun z hz => ?_
  obtain ⟨k, rfl, hk, k0, k1⟩ := hi_ex (by omega) (by omega) hz
  have hs := ov_s (a := a) (k := k) (by omega)
  have := bd27 (by omega) hk hs
  show G E d 269 Φ 25 _ [] _
  rw [nShl (by omega) (by omega)]
  refine l269 (by omega) hk k0 k1 20 _ (by omega) hs (h _ ?_)
  rw [ovA, if_pos (by omega)]
  exact ⟨k, k0, k1, rfl⟩
end S12
