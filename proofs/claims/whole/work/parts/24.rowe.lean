theorem RM.mu0 {μ : Mm} {n v : Int} {f : Int → Int} {k : Int} (h : RM μ n f) (hk : k ≠ 42) : RM (mu μ 123 k v) n f := ⟨by rw [mu_i (Ne.symm hk)]; exact h.1, h.2.1, h.2.2.1, fun i i0 i1 => by rw [mu_o (by decide)]; exact h.2.2.2.1 i i0 i1, h.2.2.2.2⟩
/-- in how many ways the first so many digits are numbers -/
def nbr (f : Int → Int) : Nat → Int
  | 0 => 1
  | 1 => if 0 < f 0 then 1 else 0
  | k + 2 => (if 0 < f (k + 1) then nbr f (k + 1) else 0) + (if 0 < f k ∧ f k * 10 + f (k + 1) ≤ 26 then nbr f k else 0)
theorem nbr1 (f : Int → Int) : nbr f 1 = if 0 < f 0 then nbr f 0 else 0 := by rw [nbr]; rfl
section S6
variable {E : En} {d : Nat} {Φ : Option AV → Mm → Prop} {n : Int} {f : Int → Int} {μ : Mm}
theorem l76 (hd : 1 ≤ d) (hR : RW μ n f) (h : Φ (some (.inl (nbr f n.toNat))) μ) : ∀ (m : Nat) (i : Nat) (b : Int), i + m = n.toNat → (1 ≤ i → b = nbr f (i - 1)) →
    G E d 76 Φ 6 [some (.inr 50), some (.inl b), some (.inl (nbr f i)), some (.inl (i : Int)), none] [] μ := by
  obtain ⟨r1, r2, r3, r4, r5⟩ := hR
  intro m
  induction m with
  | zero =>
    intro i b hm hb
    refine v76_6 hd ?_
    rw [r1]
    exact ⟨inR_of (by omega) (by omega), inR_of (by omega) (by omega), fun h1 => fe h (by rw [show n.toNat = i by omega]), fun h1 => by omega⟩
  | succ m ih =>
    intro i b hm hb
    have g0 := r5 i (by omega) (by omega)
    refine v76_6 hd ?_
    rw [r1, r4 i (by omega) (by omega)]
    have nx : ∀ x y : Int, x = nbr f i → y = nbr f (i + 1) → G E d 76 Φ 6 [some (.inr 50), some (.inl x), some (.inl y), some (.inl ((i : Int) + 1)), none] [] μ := by
      intro x y hx hy
      rw [hx, hy]
      have := ih (i + 1) (nbr f i) (by omega) (fun _ => by rw [Nat.add_sub_cancel])
      simpa using this
    refine ⟨inR_of (by omega) (by omega), inR_of (by omega) (by omega), fun h1 => by omega, fun h1 => ⟨by omega, inR_of (by omega) (by omega), fun h2 => ⟨inR_of (by omega) (by omega), fun h3 => ?_, fun h3 => ?_⟩, fun h2 => ⟨inR_of (by omega) (by omega), fun h3 => ?_, fun h3 => ?_⟩⟩⟩
    · obtain rfl : i = 0 := by omega
      exact nx _ _ rfl (by rw [nbr1, if_neg (by simpa using h2)])
    · obtain ⟨j, rfl⟩ : ∃ j, i = j + 1 := ⟨i - 1, by omega⟩
      have g1 := r5 j (by omega) (by omega)
      have ej : ((j + 1 : Nat) : Int) - 1 = j := by omega
      have hb' : b = nbr f j := hb (by omega)
      have e1 : ((j : Int) + 1) = ((j + 1 : Nat) : Int) := by omega
      rw [ej, r4 j (by omega) (by omega)]
      refine ⟨by omega, inR_of (by omega) (by omega), fun h4 => nx _ _ rfl ?_, fun h4 => ⟨by omega, by omega, inR_of (by omega) (by omega), fun h5 => nx _ _ rfl ?_, fun h5 => nx _ _ rfl ?_⟩⟩
      · rw [nbr, e1, if_neg (by omega), if_neg (by omega)]; rfl
      · rw [nbr, e1, if_neg (by omega), if_neg (by omega)]; rfl
      · rw [nbr, e1, if_neg (by omega), if_pos ⟨h4, h5⟩, hb']
    · obtain rfl : i = 0 := by omega
      exact nx _ _ rfl (by rw [nbr1, if_pos (by simpa using h2)])
    · obtain ⟨j, rfl⟩ : ∃ j, i = j + 1 := ⟨i - 1, by omega⟩
      have g1 := r5 j (by omega) (by omega)
      have ej : ((j + 1 : Nat) : Int) - 1 = j := by omega
      have hb' : b = nbr f j := hb (by omega)
      have e1 : ((j : Int) + 1) = ((j + 1 : Nat) : Int) := by omega
      rw [ej, r4 j (by omega) (by omega)]
      refine ⟨by omega, inR_of (by omega) (by omega), fun h4 => nx _ _ rfl ?_, fun h4 => ⟨by omega, by omega, inR_of (by omega) (by omega), fun h5 => nx _ _ rfl ?_, fun h5 => nx _ _ rfl ?_⟩⟩
      · rw [nbr, e1, if_pos h2, if_neg (by omega)]; omega
      · rw [nbr, e1, if_pos h2, if_neg (by omega)]; omega
      · rw [nbr, e1, if_pos h2, if_pos ⟨h4, h5⟩, hb']
theorem s76 (hd : 1 ≤ d) (hR : RW μ n f) (h : Φ (some (.inl (nbr f n.toNat))) μ) : Ct E d 76 [.inr 50] μ Φ := by
  have r2 := hR.2.1
  exact v76 hd (l76 hd hR h n.toNat 0 0 (by omega) (fun h => by omega))
theorem s130 (hd : 2 ≤ d) (hR : RW μ n f) (h : Φ (some (.inl (nbr f n.toNat))) μ) : Ct E d 130 [.inr 0] μ Φ :=
  v130 (by omega) (s76 (by omega) hR h)
theorem l246 {μ0 : Mm} (hd : 2 ≤ d) (h0 : RM μ0 n f) (h : ∀ μ', Eo 148 μ0 μ' → Φ (some (.inl (nbr f n.toNat))) μ') : ∀ (m : Nat) (i : Nat) (μ : Mm), Eo 148 μ0 μ → i + m = n.toNat → (∀ j : Nat, j ≤ i → μ 148 j = nbr f j) →
    G E d 246 Φ 10 [some (.inr 123), some (.inl ((i : Int) + 1))] [] μ := by
  intro m
  induction m with
  | zero =>
    intro i μ he hm hall
    obtain ⟨r1, r2, r3, r4, r5⟩ := h0.eo he (by decide) (by decide)
    refine v246_10 (by omega) ?_
    rw [r1]
    refine ⟨inR_of (by omega) (by omega), inR_of (by omega) (by omega), fun h1 => ⟨by omega, ?_⟩, fun h1 => by omega⟩
    have e := hall i (Nat.le_refl _)
    rw [show (i : Int) = n by omega] at e
    rw [e, show i = n.toNat by omega]
    exact h μ he
  | succ m ih =>
    intro i μ he hm hall
    obtain ⟨r1, r2, r3, r4, r5⟩ := h0.eo he (by decide) (by decide)
    have g0 := r5 i (by omega) (by omega)
    have ei : (i : Int) + 1 - 1 = i := by omega
    refine v246_10 (by omega) ?_
    rw [r1, ei, r4 i (by omega) (by omega), hall i (Nat.le_refl _)]
    have nx : ∀ (y : Int) (μ1 : Mm), Eo 148 μ0 μ1 → (∀ j : Nat, j ≤ i → μ1 148 j = nbr f j) → μ1 148 (i + 1) = nbr f (i + 1) → G E d 246 Φ 10 [some (.inr 123), some (.inl ((i : Int) + 1 + 1))] [] μ1 := by
      intro y μ1 he1 ha1 hy
      have := ih (i + 1) μ1 he1 (by omega) (fun j hj => by
        by_cases hj1 : j = i + 1
        · rw [hj1]; simpa using hy
        · exact ha1 j (by omega))
      simpa using this
    have keep : ∀ v : Int, ∀ j : Nat, j ≤ i → mu μ 148 ((i : Int) + 1) v 148 j = nbr f j := fun v j hj => by rw [mu_i (by omega)]; exact hall j hj
    refine ⟨inR_of (by omega) (by omega), inR_of (by omega) (by omega), fun h1 => by omega, fun h1 => ⟨by omega, inR_of (by omega) (by omega), fun h2 => ⟨by omega, by omega, inR_of (by omega) (by omega), fun h3 => ?_, fun h3 => ?_⟩, fun h2 => ⟨by omega, inR_of (by omega) (by omega), fun h3 => ?_, fun h3 => ?_⟩⟩⟩
    · obtain rfl : i = 0 := by omega
      exact nx 0 _ he.mu (keep _) (by rw [mu_s, nbr1, if_pos (by simp at g0 h2 ⊢; omega)])
    · obtain ⟨j, rfl⟩ : ∃ j, i = j + 1 := ⟨i - 1, by omega⟩
      have g1 := r5 j (by omega) (by omega)
      have ej : ((j + 1 : Nat) : Int) + 1 - 2 = j := by omega
      have e1 : ((j : Int) + 1) = ((j + 1 : Nat) : Int) := by omega
      have eN : nbr f (j + 1 + 1) = nbr f (j + 1) + (if 0 < f j ∧ f j * 10 + f ((j + 1 : Nat) : Int) ≤ 26 then nbr f j else 0) := by rw [nbr, e1, if_pos (by omega)]
      rw [ej, r4 j (by omega) (by omega)]
      refine ⟨by omega, by omega, s153 (by omega) (inR_of (by omega) (by omega)) (inR_of (by omega) (by omega)) (inR_of (by omega) (by omega)) ⟨b2_in _, fun h4 => nx 0 _ he.mu (keep _) ?_, fun h4 => ⟨by omega, by omega, by omega, nx 0 _ he.mu.mu (fun q hq => by rw [mu_i (by omega)]; exact keep _ q hq) ?_⟩⟩⟩
      · have h5 := b2_0.mp h4
        rw [mu_s, eN, if_neg (by omega)]; omega
      · have h5 := b2_ne0.mp h4
        rw [mu_s, mu_s, keep _ j (by omega), eN, if_pos (by omega)]
    · obtain rfl : i = 0 := by omega
      exact nx 0 _ he.mu (keep _) (by rw [mu_s, nbr1, if_neg (by simp at h2 ⊢; omega)])
    · obtain ⟨j, rfl⟩ : ∃ j, i = j + 1 := ⟨i - 1, by omega⟩
      have g1 := r5 j (by omega) (by omega)
      have ej : ((j + 1 : Nat) : Int) + 1 - 2 = j := by omega
      have e1 : ((j : Int) + 1) = ((j + 1 : Nat) : Int) := by omega
      have eN : nbr f (j + 1 + 1) = 0 + (if 0 < f j ∧ f j * 10 + f ((j + 1 : Nat) : Int) ≤ 26 then nbr f j else 0) := by rw [nbr, e1, if_neg (by omega)]
      rw [ej, r4 j (by omega) (by omega)]
      refine ⟨by omega, by omega, s153 (by omega) (inR_of (by omega) (by omega)) (inR_of (by omega) (by omega)) (inR_of (by omega) (by omega)) ⟨b2_in _, fun h4 => nx 0 _ he.mu (keep _) ?_, fun h4 => ⟨by omega, by omega, by omega, nx 0 _ he.mu.mu (fun q hq => by rw [mu_i (by omega)]; exact keep _ q hq) ?_⟩⟩⟩
      · have h5 := b2_0.mp h4
        rw [mu_s, eN, if_neg (by omega)]; omega
      · have h5 := b2_ne0.mp h4
        rw [mu_s, mu_s, keep _ j (by omega), eN, if_pos (by omega)]
theorem s246 (hd : 2 ≤ d) (hR : RM μ n f) (h : ∀ μ', Eo 148 (mu μ 123 0 0) μ' → Φ (some (.inl (nbr f n.toNat))) μ') : Ct E d 246 [.inr 123] μ Φ := by
  have r2 := hR.2.1
  refine v246 (by omega) ?_
  have := l246 (E := E) (Φ := Φ) hd (hR.mu0 (v := 0) (k := 0) (by omega)) h n.toNat 0 (mu (mu μ 123 0 0) 148 0 1) Eo.rf.mu (by omega) (fun j hj => by rw [show j = 0 by omega]; exact mu_s _ _ _ _)
  simpa using this
end S6
/-! values: what each letter is worth -/
def VW (μ : Mm) (v : Int → Int) : Prop := (∀ i, 0 ≤ i → i < 10 → μ 57 i = v i) ∧ ∀ i, 0 ≤ i → i < 10 → 0 ≤ v i ∧ v i ≤ 20
def VM (μ : Mm) (v : Int → Int) : Prop := (∀ i, 0 ≤ i → i < 10 → μ 155 i = v i) ∧ ∀ i, 0 ≤ i → i < 10 → 0 ≤ v i ∧ v i ≤ 20
/-- the worth of m letters from a on -/
def wo (f v : Int → Int) (a : Int) : Nat → Int
  | 0 => 0
  | m + 1 => wo f v a m + v (f (a + m))
/-- the greatest sum of k side by side, of the first so many beginnings -/
def gs (f v : Int → Int) (k : Nat) : Nat → Int
  | 0 => 0
  | m + 1 => max (gs f v k m) (wo f v m k)
/-- how many letters are worth something -/
def uw (f v : Int → Int) : Nat → Int
  | 0 => 0
  | m + 1 => uw f v m + (if 0 < v (f m) then 1 else 0)
section S7
variable {E : En} {d : Nat} {Φ : Option AV → Mm → Prop} {n : Int} {f v : Int → Int} {μ : Mm}
theorem s67 {a : Int} (hd : 2 ≤ d) (hR : RW μ n f) (hV : VW μ v) (h0 : 0 ≤ a) (h1 : a < n) (h : Φ (some (.inl (v (f a)))) μ) : Ct E d 67 [.inr 49, .inl a] μ Φ := by
  obtain ⟨r1, r2, r3, r4, r5⟩ := hR
  have g0 := r5 a h0 h1
  refine v67 (by omega) ?_
  rw [r4 a h0 h1]
  refine ⟨by omega, s152 (by omega) (inR_of (by omega) (by omega)) ⟨b2_in _, fun h2 => absurd (by omega) (b2_0.mp h2), fun h2 => ⟨by omega, ?_⟩⟩⟩
  rw [hV.1 _ (by omega) (by omega)]
  exact h
theorem wo_in {a : Int} (hR : ∀ i, 0 ≤ i → i < n → 0 ≤ f i ∧ f i ≤ 9) (hV : ∀ i, 0 ≤ i → i < 10 → 0 ≤ v i ∧ v i ≤ 20) (h0 : 0 ≤ a) : ∀ m : Nat, a + m ≤ n → 0 ≤ wo f v a m ∧ wo f v a m ≤ 20 * m := by
  intro m
  induction m with
  | zero => intro _; rw [wo]; omega
  | succ m ih =>
    intro hm
    have h1 := ih (by omega)
    have h2 := hR (a + m) (by omega) (by omega)
    have h3 := hV _ h2.1 (by omega)
    rw [wo]; omega
theorem l66b {k : Int} (hd : 3 ≤ d) (hR : RW μ n f) (hV : VW μ v) (a g : Int) (h0 : 0 ≤ a) (hak : a + k ≤ n) (k0 : 0 ≤ k) : ∀ (m : Nat) (j : Nat), (j : Int) + m = k → G E d 66 Φ 10 [some (.inr 49), none, some (.inl k), some (.inl (iMax g (wo f v a k.toNat))), some (.inl (a + 1)), none, none] [] μ →
    G E d 66 Φ 21 [some (.inr 49), none, some (.inl k), some (.inl g), some (.inl a), some (.inl (wo f v a j)), some (.inl (a + j))] [] μ := by
  have r3 := hR.2.2.1
  intro m
  induction m with
  | zero =>
    intro j hm h
    refine v66_21 (by omega) ⟨inR_of (by omega) (by omega), inR_of (by omega) (by omega), fun h1 => ?_, fun h1 => by omega⟩
    rwa [show k.toNat = j by omega] at h
  | succ m ih =>
    intro j hm h
    refine v66_21 (by omega) ⟨inR_of (by omega) (by omega), inR_of (by omega) (by omega), fun h1 => by omega, fun h1 => s67 (by omega) hR hV (by omega) (by omega) ?_⟩
    have := ih (j + 1) (by omega) h
    rw [wo] at this
    rw [show a + ((j + 1 : Nat) : Int) = a + j + 1 by omega] at this
    exact this
theorem gs_in {k : Nat} (hR : ∀ i, 0 ≤ i → i < n → 0 ≤ f i ∧ f i ≤ 9) (hV : ∀ i, 0 ≤ i → i < 10 → 0 ≤ v i ∧ v i ≤ 20) : ∀ m : Nat, (m : Int) + k ≤ n + 1 → 0 ≤ gs f v k m ∧ gs f v k m ≤ 20 * k := by
  intro m
  induction m with
  | zero => intro _; rw [gs]; omega
  | succ m ih =>
    intro hm
    have h1 := ih (by omega)
    have h2 := wo_in hR hV (a := m) (by omega) k (by omega)
    rw [gs]; omega
theorem l66 {k : Int} (hd : 3 ≤ d) (hR : RW μ n f) (hV : VW μ v) (k0 : 0 ≤ k) (hk : k ≤ n) (h : Φ (some (.inl (gs f v k.toNat (n - k + 1).toNat))) μ) : ∀ (m : Nat) (a : Nat), (a : Int) + m = n - k + 1 →
    G E d 66 Φ 10 [some (.inr 49), none, some (.inl k), some (.inl (gs f v k.toNat a)), some (.inl (a : Int)), none, none] [] μ := by
  have r1 := hR.1
  have r3 := hR.2.2.1
  intro m
  induction m with
  | zero =>
    intro a hm
    refine v66_10 (by omega) ?_
    rw [r1]
    exact ⟨inR_of (by omega) (by omega), inR_of (by omega) (by omega), fun h1 => fe h (by rw [show (n - k + 1).toNat = a by omega]), fun h1 => by omega⟩
  | succ m ih =>
    intro a hm
    refine v66_10 (by omega) ?_
    rw [r1]
    refine ⟨inR_of (by omega) (by omega), inR_of (by omega) (by omega), fun h1 => by omega, fun h1 => ?_⟩
    have g1 := gs_in (k := k.toNat) hR.2.2.2.2 hV.2 a (by omega)
    have g2 := wo_in hR.2.2.2.2 hV.2 (a := a) (by omega) k.toNat (by omega)
    have := l66b (Φ := Φ) hd hR hV a (gs f v k.toNat a) (by omega) h1 k0 k.toNat 0 (by omega) (by
      rw [iMax_eq (inR_of (by omega) (by omega)) (inR_of (by omega) (by omega))]
      have := ih (a + 1) (by omega)
      rw [gs] at this
      simpa using this)
    rw [wo] at this
    simpa using this
theorem s66 {a : Int} (hd : 3 ≤ d) (hR : RW μ n f) (hV : VW μ v) (a0 : 0 ≤ a) (a1 : a ≤ 1000) (h : Φ (some (.inl (gs f v (min a n).toNat (n - min a n + 1).toNat))) μ) : Ct E d 66 [.inr 49, .inl a] μ Φ := by
  have r1 := hR.1
  have r2 := hR.2.1
  have r3 := hR.2.2.1
  refine v66 (by omega) ?_
  rw [r1, iMin_eq (inR_of (by omega) (by omega)) (inR_of (by omega) (by omega))]
  have := l66 (E := E) (Φ := Φ) (k := min a n) hd hR hV (by omega) (by omega) h (n - min a n + 1).toNat 0 (by omega)
  rw [gs] at this
  simpa using this
theorem l68 (hd : 3 ≤ d) (hR : RW μ n f) (hV : VW μ v) (h : Φ (some (.inl (1 + uw f v n.toNat))) μ) : ∀ (m : Nat) (i : Nat), i + m = n.toNat →
    G E d 68 Φ 4 [some (.inr 49), some (.inl (1 + uw f v i)), some (.inl (i : Int))] [] μ := by
  have r1 := hR.1
  have r2 := hR.2.1
  have r3 := hR.2.2.1
  intro m
  induction m with
  | zero =>
    intro i hm
    refine v68_4 (by omega) ?_
    rw [r1]
    exact ⟨inR_of (by omega) (by omega), inR_of (by omega) (by omega), fun h1 => fe h (by rw [show n.toNat = i by omega]), fun h1 => by omega⟩
  | succ m ih =>
    intro i hm
    refine v68_4 (by omega) ?_
    rw [r1]
    have g0 := hR.2.2.2.2 i (by omega) (by omega)
    have g1 := hV.2 _ g0.1 (by omega)
    have := ih (i + 1) (by omega)
    rw [uw] at this
    refine ⟨inR_of (by omega) (by omega), inR_of (by omega) (by omega), fun h1 => by omega, fun h1 => s67 (by omega) hR hV (by omega) h1 ⟨inR_of (by omega) (by omega), fun h2 => ?_, fun h2 => ?_⟩⟩
    · rw [if_neg (by omega), Int.add_zero] at this
      simpa using this
    · rw [if_pos h2, ← Int.add_assoc] at this
      simpa using this
theorem s68 (hd : 3 ≤ d) (hR : RW μ n f) (hV : VW μ v) (h : Φ (some (.inl (1 + uw f v n.toNat))) μ) : Ct E d 68 [.inr 49] μ Φ := by
  have := l68 (E := E) (Φ := Φ) hd hR hV h n.toNat 0 (by omega)
  rw [uw] at this
  exact v68 (by omega) (by simpa using this)
theorem l275 {a b : Int} (hd : 1 ≤ d) (hR : RM μ n f) (hV : VM μ v) (h0 : 0 ≤ a) (hb : b ≤ n) (b0 : 0 ≤ b) (a1 : a ≤ 1000) (h : Φ (some (.inl (wo f v a (b - a).toNat))) μ) : ∀ (m : Nat) (j : Nat), j + m = (b - a).toNat →
    G E d 275 Φ 4 [some (.inr 123), none, some (.inl b), some (.inl (wo f v a j)), some (.inl (a + j))] [] μ := by
  obtain ⟨r1, r2, r3, r4, r5⟩ := hR
  intro m
  induction m with
  | zero =>
    intro j hm
    exact v275_4 hd ⟨inR_of (by omega) (by omega), inR_of (by omega) (by omega), fun h1 => fe h (by rw [show (b - a).toNat = j by omega]), fun h1 => by omega⟩
  | succ m ih =>
    intro j hm
    have g0 := r5 (a + j) (by omega) (by omega)
    refine v275_4 hd ?_
    rw [r4 (a + j) (by omega) (by omega), hV.1 _ g0.1 (by omega)]
    refine ⟨inR_of (by omega) (by omega), inR_of (by omega) (by omega), fun h1 => by omega, fun h1 => ⟨by omega, by omega, ?_⟩⟩
    have := ih (j + 1) (by omega)
    rw [wo, show a + ((j + 1 : Nat) : Int) = a + j + 1 by omega] at this
    exact this
theorem s275 {a b : Int} (hd : 1 ≤ d) (hR : RM μ n f) (hV : VM μ v) (h0 : 0 ≤ a) (hb : b ≤ n) (b0 : 0 ≤ b) (a1 : a ≤ 1000) (h : Φ (some (.inl (wo f v a (b - a).toNat))) μ) : Ct E d 275 [.inr 123, .inl a, .inl b] μ Φ := by
  have := l275 (E := E) hd hR hV h0 hb b0 a1 h (b - a).toNat 0 (by omega)
  rw [wo] at this
  exact v275 hd (by simpa using this)
end S7
