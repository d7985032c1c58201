theorem i32_in (z : Int32) : inR z.toInt := ⟨Int32.le_toInt z, Int32.toInt_lt z⟩
/-- one bit of a machine number -/
def bq (x : Int) (k : Nat) : Bool := (Int32.ofInt x).toBitVec.getLsbD k
theorem bq_sh {k : Nat} (x : Int) (hk : k < 32) : iAnd (iShr x k) 1 = if bq x k then 1 else 0 := by
  have h1 : iAnd (iShr x k) 1 = (((((Int32.ofInt x).toBitVec.sshiftRight k).toNat % 2 : Nat)) : Int) := by
    unfold iAnd iShr
    rw [ofI_back]
    refine i32_nat ?_ (by omega)
    rw [Int32.toBitVec_and, BitVec.toNat_and, Int32.toBitVec_shiftRight, shB hk]
    show ((Int32.ofInt x).toBitVec.sshiftRight (BitVec.ofNat 32 k).toNat).toNat &&& 1 = _
    rw [Nat.and_one_is_mod, BitVec.toNat_ofNat, Nat.mod_eq_of_lt (show k < 2 ^ 32 by omega)]
  have h2 : bq x k = decide (((Int32.ofInt x).toBitVec.sshiftRight k).toNat % 2 = 1) := by
    rw [← Nat.testBit_zero]
    show _ = ((Int32.ofInt x).toBitVec.sshiftRight k).getLsbD 0
    rw [BitVec.getLsbD_sshiftRight]
    simp [bq, hk]
  rw [h1, h2]
  by_cases e : ((Int32.ofInt x).toBitVec.sshiftRight k).toNat % 2 = 1
  · rw [e]; simp
  · rw [show ((Int32.ofInt x).toBitVec.sshiftRight k).toNat % 2 = 0 by omega]; simp
theorem bq_1 {k : Nat} {x : Int} (hk : k < 32) : iAnd (iShr x k) 1 = 1 ↔ bq x k = true := by
  rw [bq_sh x hk]
  cases bq x k <;> simp
theorem bq_or (a b : Int) (k : Nat) : bq (iOr a b) k = (bq a k || bq b k) := by
  unfold bq iOr
  rw [ofI_back, Int32.toBitVec_or, BitVec.getLsbD_or]
theorem bq_0 (k : Nat) : bq 0 k = false := by
  unfold bq
  show (0#32).getLsbD k = false
  simp
theorem bq_s1 : ∀ b : Nat, b < 12 → ∀ j, j < 13 → bq (iShl 1 ((b : Int) + 1)) j = decide (j = b + 1) := by decide +kernel
theorem bq_sm : ∀ b : Nat, b < 13 → ∀ j, j < 13 → bq (iShl (-1) (b : Int)) j = decide (b ≤ j) := by decide +kernel
theorem bq_11 : ∀ j, j < 13 → bq 1 j = decide (j = 0) := by decide +kernel
/-! signs and patterns -/
def SW (μ : Mm) (c : Int) (g : Int → Int) : Prop := μ 49 3 = c ∧ 0 ≤ c ∧ c ≤ 8 ∧ (∀ i, 0 ≤ i → i < c → μ 56 i = g i) ∧ ∀ i, 0 ≤ i → i < c → 0 ≤ g i ∧ g i ≤ 11
def SM (μ : Mm) (c : Int) (g : Int → Int) : Prop := μ 123 46 = c ∧ 0 ≤ c ∧ c ≤ 8 ∧ (∀ i, 0 ≤ i → i < c → μ 149 i = g i) ∧ ∀ i, 0 ≤ i → i < c → 0 ≤ g i ∧ g i ≤ 11
theorem SM.eo {o : Nat} {μ μ' : Mm} {c : Int} {g : Int → Int} (h : SM μ c g) (e : Eo o μ μ') (h1 : (123 : Nat) ≠ o) (h2 : (149 : Nat) ≠ o) : SM μ' c g :=
  ⟨by rw [e _ _ h1]; exact h.1, h.2.1, h.2.2.1, fun i g1 g2 => by rw [e _ _ h2]; exact h.2.2.2.1 i g1 g2, h.2.2.2.2⟩
theorem SM.mu0 {μ : Mm} {n v : Int} {f : Int → Int} {k : Int} (h : SM μ n f) (hk : k ≠ 46) : SM (mu μ 123 k v) n f := ⟨by rw [mu_i (Ne.symm hk)]; exact h.1, h.2.1, h.2.2.1, fun i i0 i1 => by rw [mu_o (by decide)]; exact h.2.2.2.1 i i0 i1, h.2.2.2.2⟩
/-- a sign takes the letters from the p-th to the j-th -/
def cn (f : Int → Int) (n s : Int) (p j : Int) : Prop := (s = 11 ∧ p ≤ j) ∨ (s ≠ 11 ∧ p < n ∧ j = p + 1 ∧ (s = 10 ∨ f p = s))
/-- so many signs fit the first j letters -/
def pt (f g : Int → Int) (n : Int) : Nat → Int → Prop
  | 0, j => j = 0
  | i + 1, j => ∃ p, 0 ≤ p ∧ p ≤ n ∧ pt f g n i p ∧ cn f n (g i) p j
section S9
variable {E : En} {d : Nat} {Φ : Option AV → Mm → Prop} {n c : Int} {f g : Int → Int} {μ : Mm}
theorem s65 {a : Int} {b : Nat} (hd : 1 ≤ d) (hR : RW μ n f) (a0 : 0 ≤ a) (a1 : a ≤ 11) (hb : (b : Int) ≤ n) (h : ∀ z, (∀ j : Nat, j ≤ 12 → (bq z j = true ↔ cn f n a b j)) → Φ (some (.inl z)) μ) : Ct E d 65 [.inr 49, .inl a, .inl (b : Int)] μ Φ := by
  obtain ⟨r1, r2, r3, r4, r5⟩ := hR
  refine v65 hd ⟨inR_of (by omega) (by omega), fun h1 => ?_, fun h1 => ?_⟩
  · rw [r1]
    refine ⟨inR_of (by omega) (by omega), inR_of (by omega) (by omega), fun h2 => h _ fun j hj => ?_, fun h2 => ⟨inR_of (by omega) (by omega), fun h3 => h _ fun j hj => ?_, fun h3 => ⟨by omega, ?_⟩⟩⟩
    · rw [bq_0]; simp only [Bool.false_eq_true, false_iff]; unfold cn; omega
    · rw [bq_s1 b (by omega) j (by omega)]; simp only [decide_eq_true_eq]; unfold cn; omega
    · have g0 := r5 b (by omega) h2
      rw [r4 b (by omega) h2]
      refine ⟨inR_of (by omega) (by omega), inR_of (by omega) (by omega), fun h4 => h _ fun j hj => ?_, fun h4 => h _ fun j hj => ?_⟩
      · rw [bq_0]; simp only [Bool.false_eq_true, false_iff]; unfold cn; omega
      · rw [bq_s1 b (by omega) j (by omega)]; simp only [decide_eq_true_eq]; unfold cn; omega
  · refine h _ fun j hj => ?_
    rw [bq_sm b (by omega) j (by omega)]; simp only [decide_eq_true_eq]; unfold cn; omega
/-- the inner loop: one sign more -/
theorem l64b {i : Nat} {x1 : Int} (hd : 2 ≤ d) (hR : RW μ n f) (hS : SW μ c g) (hi : (i : Int) < c) (h1 : ∀ j : Nat, (j : Int) ≤ n → (bq x1 j = true ↔ pt f g n i j))
    (h : ∀ z, (∀ j : Nat, (j : Int) ≤ n → (bq z j = true ↔ pt f g n (i + 1) j)) → G E d 64 Φ 4 [some (.inr 49), some (.inl z), some (.inl ((i : Int) + 1)), none, none] [] μ) :
    ∀ (m k : Nat) (x3 : Int), (k : Int) + m = n + 1 → (∀ j : Nat, (j : Int) ≤ n → (bq x3 j = true ↔ ∃ p : Int, 0 ≤ p ∧ p < k ∧ pt f g n i p ∧ cn f n (g i) p j)) →
    G E d 64 Φ 12 [some (.inr 49), some (.inl x1), some (.inl (i : Int)), some (.inl x3), some (.inl (k : Int))] [] μ := by
  have r1 := hR.1
  have r2 := hR.2.1
  have r3 := hR.2.2.1
  have s2 := hS.2.2.1
  have s0 := hS.2.2.2.2 i (by omega) hi
  intro m
  induction m with
  | zero =>
    intro k x3 hm hall
    refine v64_12 (by omega) ?_
    rw [r1]
    refine ⟨inR_of (by omega) (by omega), inR_of (by omega) (by omega), fun _ => h x3 fun j hj => ?_, fun h2 => by omega⟩
    rw [hall j hj, pt]
    constructor
    · rintro ⟨p, p0, p1, p2⟩; exact ⟨p, p0, by omega, p2⟩
    · rintro ⟨p, p0, p1, p2⟩; exact ⟨p, p0, by omega, p2⟩
  | succ m ih =>
    intro k x3 hm hall
    refine v64_12 (by omega) ?_
    rw [r1]
    refine ⟨inR_of (by omega) (by omega), inR_of (by omega) (by omega), fun h2 => by omega, fun h2 => ⟨i32_in _, fun h3 => ?_, fun h3 => ?_⟩⟩
    · rw [Ne, bq_1 (by omega), h1 k h2] at h3
      refine ih (k + 1) x3 (by omega) fun j hj => ?_
      rw [hall j hj]
      constructor
      · rintro ⟨p, p0, p1, p2⟩; exact ⟨p, p0, by omega, p2⟩
      · rintro ⟨p, p0, p1, p2⟩
        by_cases e : p = k
        · rw [e] at p2; exact absurd p2.1 h3
        · exact ⟨p, p0, by omega, p2⟩
    · rw [bq_1 (by omega), h1 k h2] at h3
      refine ⟨by omega, ?_⟩
      rw [hS.2.2.2.1 i (by omega) hi]
      refine s65 (by omega) hR s0.1 s0.2 h2 fun z hz => ?_
      refine ih (k + 1) _ (by omega) fun j hj => ?_
      rw [bq_or, Bool.or_eq_true, hall j hj, hz j (by omega)]
      constructor
      · rintro (⟨p, p0, p1, p2⟩ | hc)
        · exact ⟨p, p0, by omega, p2⟩
        · exact ⟨k, by omega, by omega, h3, hc⟩
      · rintro ⟨p, p0, p1, p2⟩
        by_cases e : p = k
        · rw [e] at p2; exact Or.inr p2.2
        · exact Or.inl ⟨p, p0, by omega, p2⟩
theorem l64 (hd : 2 ≤ d) (hR : RW μ n f) (hS : SW μ c g) (h : Φ (some (.inl (b2 (pt f g n c.toNat n)))) μ) : ∀ (m i : Nat) (x1 : Int), (i : Int) + m = c → (∀ j : Nat, (j : Int) ≤ n → (bq x1 j = true ↔ pt f g n i j)) →
    G E d 64 Φ 4 [some (.inr 49), some (.inl x1), some (.inl (i : Int)), none, none] [] μ := by
  have r1 := hR.1
  have r2 := hR.2.1
  have r3 := hR.2.2.1
  have s1 := hS.1
  have s2 := hS.2.2.1
  have fin : ∀ (i : Nat) (x1 : Int), (i : Int) = c → (∀ j : Nat, (j : Int) ≤ n → (bq x1 j = true ↔ pt f g n i j)) → (iAnd (iShr x1 n) 1 = 1 ↔ pt f g n c.toNat n) := by
    intro i x1 hi hall
    have := hall n.toNat (by omega)
    rw [show ((n.toNat : Nat) : Int) = n by omega] at this
    have e : n = (n.toNat : Int) := by omega
    rw [show c.toNat = i by omega, ← this, ← bq_1 (by omega), ← e]
  intro m
  induction m with
  | zero =>
    intro i x1 hm hall
    have hf := fin i x1 (by omega) hall
    refine v64_4 (by omega) ?_
    rw [r1, s1]
    exact ⟨inR_of (by omega) (by omega), inR_of (by omega) (by omega), fun _ => ⟨i32_in _, fun h2 => ff h (fun h3 => h2 (hf.mpr h3)), fun h2 => ft h (hf.mp h2)⟩, fun h2 => by omega⟩
  | succ m ih =>
    intro i x1 hm hall
    refine v64_4 (by omega) ?_
    rw [s1]
    refine ⟨inR_of (by omega) (by omega), inR_of (by omega) (by omega), fun h2 => by omega, fun h2 => ?_⟩
    refine l64b hd hR hS h2 hall (fun z hz => ?_) (n + 1).toNat 0 0 (by omega) (fun j hj => ?_)
    · exact ih (i + 1) z (by omega) hz
    · rw [bq_0]; simp only [Bool.false_eq_true, false_iff]; rintro ⟨p, p0, p1, _⟩; omega
theorem s64 (hd : 2 ≤ d) (hR : RW μ n f) (hS : SW μ c g) (h : Φ (some (.inl (b2 (pt f g n c.toNat n)))) μ) : Ct E d 64 [.inr 49] μ Φ := by
  have s0 := hS.2.1
  have r3 := hR.2.2.1
  refine v64 (by omega) ?_
  exact l64 hd hR hS h c.toNat 0 1 (by omega) (fun j hj => by rw [bq_11 j (by omega), pt]; simp only [decide_eq_true_eq]; omega)
theorem s132 (hd : 3 ≤ d) (hR : RW μ n f) (hS : SW μ c g) (h : Φ (some (.inl (b2 (pt f g n c.toNat n)))) μ) : Ct E d 132 [.inr 0] μ Φ := by
  refine v132 (by omega) (s64 (by omega) hR hS ⟨b2_in _, fun h1 => ?_, fun h1 => ?_⟩)
  · exact ff h (b2_0.mp h1)
  · exact ft h (b2_ne0.mp h1)
/-- the reference's table so far -/
def TM (μ : Mm) (f g : Int → Int) (n x y : Int) : Prop := ∀ (i : Nat) (j : Int), 0 ≤ j → j ≤ n → ((i : Int) < x ∨ ((i : Int) = x ∧ j < y)) → μ 150 (13 * i + j) = b2 (pt f g n i j)
theorem s248 {i : Nat} {j : Int} (hd : 1 ≤ d) (hR : RM μ n f) (hS : SM μ c g) (hi : (i : Int) ≤ c) (j0 : 0 ≤ j) (j1 : j ≤ n) (hT : TM μ f g n i j) (h : Φ (some (.inl (b2 (pt f g n i j)))) μ) : Ct E d 248 [.inr 123, .inl (i : Int), .inl j] μ Φ := by
  obtain ⟨r1, r2, r3, r4, r5⟩ := hR
  obtain ⟨q1, q2, q3, q4, q5⟩ := hS
  refine v248 hd ⟨inR_of (by omega) (by omega), fun h1 => ?_, fun h1 => ⟨inR_of (by omega) (by omega), fun h2 => ?_, fun h2 => ?_⟩⟩
  · obtain ⟨i, rfl⟩ : ∃ k, i = k + 1 := ⟨i - 1, by omega⟩
    have ei : ((i + 1 : Nat) : Int) - 1 = i := by omega
    have g0 := q5 i (by omega) (by omega)
    rw [ei, q4 i (by omega) (by omega)]
    have e1 : 0 < j → 13 * (i : Int) + j - 1 = 13 * i + (j - 1) := fun _ => by omega
    refine ⟨by omega, inR_of (by omega) (by omega), fun h2 => ⟨inR_of (by omega) (by omega), fun h3 => ?_, fun h3 => ⟨inR_of (by omega) (by omega), fun h4 => ?_, fun h4 => ?_⟩⟩, fun h2 => ?_⟩
    · refine ff h ?_
      rw [pt]; rintro ⟨p, p0, p1, p2, p3⟩; unfold cn at p3; omega
    · rw [e1 h3, hT i (j - 1) (by omega) (by omega) (by omega)]
      refine ⟨by omega, b2_in _, fun h5 => ff h ?_, fun h5 => ft h ?_⟩
      · rw [pt]; rintro ⟨p, p0, p1, p2, p3⟩
        unfold cn at p3
        obtain rfl : p = j - 1 := by omega
        exact h5 (b2_1.mpr p2)
      · rw [pt]; exact ⟨j - 1, by omega, by omega, b2_1.mp h5, Or.inr ⟨h2, by omega, by omega, Or.inl h4⟩⟩
    · have g1 := r5 (j - 1) (by omega) (by omega)
      rw [r4 (j - 1) (by omega) (by omega)]
      refine ⟨by omega, inR_of (by omega) (by omega), inR_of (by omega) (by omega), fun h5 => ff h ?_, fun h5 => ?_⟩
      · rw [pt]; rintro ⟨p, p0, p1, p2, p3⟩
        unfold cn at p3
        obtain rfl : p = j - 1 := by omega
        omega
      · rw [e1 h3, hT i (j - 1) (by omega) (by omega) (by omega)]
        refine ⟨by omega, b2_in _, fun h6 => ff h ?_, fun h6 => ft h ?_⟩
        · rw [pt]; rintro ⟨p, p0, p1, p2, p3⟩
          unfold cn at p3
          obtain rfl : p = j - 1 := by omega
          exact h6 (b2_1.mpr p2)
        · rw [pt]; exact ⟨j - 1, by omega, by omega, b2_1.mp h6, Or.inr ⟨h2, by omega, by omega, Or.inr h5.symm⟩⟩
    · rw [hT i j (by omega) (by omega) (by omega)]
      refine ⟨by omega, b2_in _, fun h5 => ft h ?_, fun h5 => ⟨inR_of (by omega) (by omega), fun h3 => ff h ?_, fun h3 => ?_⟩⟩
      · rw [pt]; exact ⟨j, by omega, by omega, b2_1.mp h5, Or.inl ⟨h2, by omega⟩⟩
      · rw [pt]; rintro ⟨p, p0, p1, p2, p3⟩
        unfold cn at p3
        obtain rfl : p = j := by omega
        exact h5 (b2_1.mpr p2)
      · rw [show 13 * ((i + 1 : Nat) : Int) + j - 1 = 13 * ((i + 1 : Nat) : Int) + (j - 1) by omega, hT (i + 1) (j - 1) (by omega) (by omega) (by omega)]
        refine ⟨by omega, b2_in _, fun h6 => ff h ?_, fun h6 => ft h ?_⟩
        · rw [pt]; rintro ⟨p, p0, p1, p2, p3⟩
          have p4 := p3
          unfold cn at p4
          by_cases e : p = j
          · rw [e] at p2; exact h5 (b2_1.mpr p2)
          · exact h6 (b2_1.mpr (by rw [pt]; exact ⟨p, p0, p1, p2, Or.inl ⟨h2, by omega⟩⟩))
        · have h7 := b2_1.mp h6
          rw [pt] at h7 ⊢
          obtain ⟨p, p0, p1, p2, p3⟩ := h7
          unfold cn at p3
          exact ⟨p, p0, p1, p2, Or.inl ⟨h2, by omega⟩⟩
  · exact ff h (by rw [show i = 0 by omega, pt]; exact h2)
  · exact ft h (by rw [show i = 0 by omega, pt]; exact h2)
theorem l249_11 {i : Nat} {μ0 : Mm} (hd : 2 ≤ d) (h0R : RM μ0 n f) (h0S : SM μ0 c g) (hi : (i : Int) ≤ c) (h : ∀ μ', Eo 150 μ0 μ' → TM μ' f g n (i + 1) 0 → G E d 249 Φ 5 [some (.inr 123), some (.inl ((i : Int) + 1)), none] [] μ') : ∀ (m : Nat) (k : Int) (μ : Mm), 0 ≤ k → k + m = n + 1 → Eo 150 μ0 μ → TM μ f g n i k →
    G E d 249 Φ 11 [some (.inr 123), some (.inl (i : Int)), some (.inl k)] [] μ := by
  intro m
  induction m with
  | zero =>
    intro k μ k0 hm he hT
    have hR := h0R.eo he (by decide) (by decide)
    have r1 := hR.1
    have r2 := hR.2.1
    have r3 := hR.2.2.1
    refine v249_11 (by omega) ?_
    rw [r1]
    exact ⟨inR_of (by omega) (by omega), inR_of (by omega) (by omega), fun _ => h μ he fun a b b0 b1 hb => hT a b b0 b1 (by omega), fun h2 => by omega⟩
  | succ m ih =>
    intro k μ k0 hm he hT
    have hR := h0R.eo he (by decide) (by decide)
    have hS := h0S.eo he (by decide) (by decide)
    have r1 := hR.1
    have r2 := hR.2.1
    have r3 := hR.2.2.1
    have q3 := hS.2.2.1
    refine v249_11 (by omega) ?_
    rw [r1]
    have nx : ∀ v, v = b2 (pt f g n i k) → TM (mu μ 150 (13 * (i : Int) + k) v) f g n i (k + 1) := by
      intro v hv a b b0 b1 hb
      by_cases e : a = i ∧ b = k
      · rw [e.1, e.2, mu_s, hv]
      · rw [mu_i (by omega)]; exact hT a b b0 b1 (by omega)
    refine ⟨inR_of (by omega) (by omega), inR_of (by omega) (by omega), fun h2 => by omega, fun h2 => s248 (by omega) hR hS hi k0 h2 hT ⟨b2_in _, fun h3 => ⟨by omega, ?_⟩, fun h3 => ⟨by omega, ?_⟩⟩⟩
    · exact ih (k + 1) _ (by omega) (by omega) he.mu (nx 0 h3.symm)
    · exact ih (k + 1) _ (by omega) (by omega) he.mu (nx 1 (b2_1.mpr (b2_ne0.mp h3)).symm)
theorem l249 {μ0 : Mm} (hd : 2 ≤ d) (h0R : RM μ0 n f) (h0S : SM μ0 c g) (h : ∀ μ', Eo 150 μ0 μ' → Φ (some (.inl (b2 (pt f g n c.toNat n)))) μ') : ∀ (m i : Nat) (μ : Mm), (i : Int) + m = c + 1 → Eo 150 μ0 μ → TM μ f g n i 0 →
    G E d 249 Φ 5 [some (.inr 123), some (.inl (i : Int)), none] [] μ := by
  have r2 := h0R.2.1
  have r3 := h0R.2.2.1
  have q2 := h0S.2.1
  have q3 := h0S.2.2.1
  intro m
  induction m with
  | zero =>
    intro i μ hm he hT
    have r1 := (h0R.eo he (by decide) (by decide)).1
    have q1 := (h0S.eo he (by decide) (by decide)).1
    refine v249_5 (by omega) ?_
    rw [r1, q1]
    have e := hT c.toNat n r2 (by omega) (by omega)
    rw [show ((c.toNat : Nat) : Int) = c by omega] at e
    refine ⟨inR_of (by omega) (by omega), inR_of (by omega) (by omega), fun _ => ⟨by omega, ?_⟩, fun h2 => by omega⟩
    rw [e]
    exact h μ he
  | succ m ih =>
    intro i μ hm he hT
    have q1 := (h0S.eo he (by decide) (by decide)).1
    refine v249_5 (by omega) ?_
    rw [q1]
    refine ⟨inR_of (by omega) (by omega), inR_of (by omega) (by omega), fun h2 => by omega, fun h2 => ?_⟩
    refine l249_11 hd h0R h0S h2 (fun μ' he' hT' => ?_) (n + 1).toNat 0 μ (by omega) (by omega) he hT
    exact ih (i + 1) μ' (by omega) he' (by simpa using hT')
theorem s249 (hd : 2 ≤ d) (hR : RM μ n f) (hS : SM μ c g) (h : ∀ μ', Eo 150 (mu μ 123 0 0) μ' → Φ (some (.inl (b2 (pt f g n c.toNat n)))) μ') : Ct E d 249 [.inr 123] μ Φ := by
  have q2 := hS.2.1
  refine v249 (by omega) ?_
  exact l249 (E := E) hd (hR.mu0 (by decide)) (hS.mu0 (by decide)) h (c + 1).toNat 0 _ (by omega) Eo.rf (fun i j j0 j1 hj => by omega)
end S9
