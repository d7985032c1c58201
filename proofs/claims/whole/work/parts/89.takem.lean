/-! what was read is taken, in the reference -/
def R0 : Nat → Int → Prop := fun o i => (o = 123 ∧ (i = 0 ∨ (8 ≤ i ∧ i ≤ 12) ∨ i = 14 ∨ (22 ≤ i ∧ i ≤ 24) ∨ (26 ≤ i ∧ i ≤ 30))) ∨ ((o = 135 ∨ o = 136) ∧ 800 ≤ i) ∨ o = 137 ∨ (131 ≤ o ∧ o ≤ 134 ∧ 32 ≤ i) ∨ (o = 138 ∧ 32 ≤ i) ∨ (o = 139 ∧ 256 ≤ i) ∨ (o = 140 ∧ 16 ≤ i) ∨ (o = 141 ∧ 64 ≤ i)
def RL : Nat → Int → Prop := fun o i => (o = 130 ∧ i = 0) ∨ (131 ≤ o ∧ o ≤ 134 ∧ i < 16) ∨ ((o = 135 ∨ o = 136) ∧ i < 400)
def RJ : Nat → Int → Prop := fun o i => (o = 123 ∧ (i = 3 ∨ i = 31)) ∨ (o = 124 ∧ i = 7) ∨ (o = 138 ∧ i < 16) ∨ (o = 139 ∧ i < 128) ∨ (o = 140 ∧ i < 16)
def RB : Nat → Int → Prop := fun o i => (o = 123 ∧ (i = 3 ∨ i = 32)) ∨ (o = 138 ∧ 16 ≤ i ∧ i < 32) ∨ (o = 139 ∧ 128 ≤ i ∧ i < 256)
def RC : Nat → Int → Prop := fun o i => (o = 123 ∧ (i = 3 ∨ i = 36)) ∨ (o = 141 ∧ i < 64)
def coD (D : Int → Int × Int × Int × Int) : Int → Int → Int := fun k i => if k = 0 then (D i).1 else if k = 1 then (D i).2.1 else if k = 2 then (D i).2.2.1 else (D i).2.2.2
section S74
variable {E : En} {d : Nat} {Φ : Option AV → Mm → Prop} {μ μ' μ0 : Mm} {n p q c : Int} {T : Int → Int} {l : Cd}
theorem coM_mv {m m' g g' : Int → Int} : ∀ (l : Cd) (i j : Int), coM m g i l → (∀ a : Int, 0 ≤ a → a < l.length → m' (j + a) = m (i + a) ∧ g' (j + a) = g (i + a)) → coM m' g' j l
  | [], _, _, _, _ => trivial
  | c :: l, i, j, h, e => by
    rw [List.length_cons] at e
    have e0 := e 0 (by omega) (by omega)
    rw [Int.add_zero, Int.add_zero] at e0
    exact ⟨by rw [e0.1]; exact h.1, by rw [e0.2]; exact h.2.1, coM_mv l (i + 1) (j + 1) h.2.2 (fun a a0 a1 => by have := e (1 + a) (by omega) (by omega); rwa [← Int.add_assoc, ← Int.add_assoc] at this)⟩
theorem g192b (hd : 1 ≤ d) (hl : l.length ≤ 400) (c0 : inR c) (h : ∀ μ', Ep (fun o i => (o = 130 ∧ i = 0) ∨ ((o = 135 ∨ o = 136) ∧ i < 400)) μ0 μ' → (∀ (o : Nat) (j : Int), o = 135 ∨ o = 136 → 0 ≤ j → j < l.length → μ' o j = μ0 o (800 + j)) → μ' 130 0 = c → Φ none μ') : ∀ (m : Nat) (i : Int) (μ : Mm), i + m = l.length → 0 ≤ i → μ 123 22 = 0 → μ 123 23 = l.length → Ep (fun o i => (o = 135 ∨ o = 136) ∧ i < 400) μ0 μ → (∀ o j, o = 135 ∨ o = 136 → 0 ≤ j → j < i → μ o j = μ0 o (800 + j)) → G E d 192 Φ 69 [some (.inr 123), some (.inl c), some (.inl i)] [] μ := by
  intro m
  induction m with
  | zero =>
    intro i μ hi i0 h22 h23 e hc
    refine v192_69 (by omega) ?_
    rw [h22, h23]
    refine ⟨inR_of (by omega) (by omega), inR_of (by omega) (by omega), fun _ => ⟨by decide, h _ ((e.mono (fun o i k => by omega)).tr (Ep.rf.mu (by omega))) (fun o j ho j0 j1 => ?_) (mu_s _ _ _ _)⟩, fun g => by omega⟩
    rw [mu_o (by omega)]
    exact hc o j ho j0 (by omega)
  | succ m ih =>
    intro i μ hi i0 h22 h23 e hc
    refine v192_69 (by omega) ?_
    rw [h22, h23]
    simp only [Int.mul_zero, Int.zero_add]
    refine ⟨inR_of (by omega) (by omega), inR_of (by omega) (by omega), fun g => by omega, fun _ => ⟨by omega, by omega, by omega, by omega, ?_⟩⟩
    have e1 : Ep (fun o j => (o = 135 ∨ o = 136) ∧ j = i) μ (mu (mu μ 135 i (μ 135 (800 + i))) 136 i (μ 136 (800 + i))) := (Ep.rf.mu (by omega)).mu (by omega)
    have w1 : mu (mu μ 135 i (μ 135 (800 + i))) 136 i (μ 136 (800 + i)) 135 i = μ 135 (800 + i) := by rw [mu_o (by decide), mu_s]
    have w2 : mu (mu μ 135 i (μ 135 (800 + i))) 136 i (μ 136 (800 + i)) 136 i = μ 136 (800 + i) := mu_s _ _ _ _
    generalize mu (mu μ 135 i (μ 135 (800 + i))) 136 i (μ 136 (800 + i)) = μ1 at *
    refine ih (i + 1) μ1 (by omega) (by omega) (by rw [e1 _ _ (by omega)]; exact h22) (by rw [e1 _ _ (by omega)]; exact h23) (e.tr (e1.mono (fun o j k => by omega))) (fun o j ho j0 j1 => ?_)
    by_cases g : j = i
    · subst g
      rcases ho with rfl | rfl
      · rw [w1]; exact e _ _ (by omega)
      · rw [w2]; exact e _ _ (by omega)
    · rw [e1 _ _ (by omega)]
      exact hc o j ho j0 (by omega)
theorem g192a (hd : 1 ≤ d) (c1 : c ≤ 16) (h22 : μ0 123 22 = 0) (h : ∀ μ', Ep (fun o i => 131 ≤ o ∧ o ≤ 134 ∧ i < 16) μ0 μ' → (∀ o j, 131 ≤ o → o ≤ 134 → 0 ≤ j → j < c → μ' o j = μ0 o (32 + j)) → G E d 192 Φ 69 [some (.inr 123), some (.inl c), some (.inl 0)] [] μ') : ∀ (m : Nat) (i : Int) (μ : Mm), i + m = c → 0 ≤ i → Ep (fun o i => 131 ≤ o ∧ o ≤ 134 ∧ i < 16) μ0 μ → (∀ o j, 131 ≤ o → o ≤ 134 → 0 ≤ j → j < i → μ o j = μ0 o (32 + j)) → G E d 192 Φ 2 [some (.inr 123), some (.inl c), some (.inl i)] [] μ := by
  intro m
  induction m with
  | zero =>
    intro i μ hi i0 e hc
    exact v192_2 (by omega) ⟨inR_of (by omega) (by omega), inR_of (by omega) (by omega), fun _ => h μ e (fun o j h0 h1 j0 j1 => hc o j h0 h1 j0 (by omega)), fun g => by omega⟩
  | succ m ih =>
    intro i μ hi i0 e hc
    refine v192_2 (by omega) ?_
    rw [show μ 123 22 = 0 by rw [e _ _ (by omega)]; exact h22]
    simp only [Int.mul_zero, Int.zero_add]
    refine ⟨inR_of (by omega) (by omega), inR_of (by omega) (by omega), fun g => by omega, fun _ => ⟨by omega, by omega, by omega, by omega, by omega, by omega, by omega, by omega, ?_⟩⟩
    generalize hμ : mu (mu (mu (mu μ 131 i (μ 131 (32 + i))) 132 i (μ 132 (32 + i))) 133 i (μ 133 (32 + i))) 134 i (μ 134 (32 + i)) = μ1
    have e1 : Ep (fun o j => 131 ≤ o ∧ o ≤ 134 ∧ j = i) μ μ1 := by
      rw [← hμ]
      exact (((Ep.rf.mu (by omega)).mu (by omega)).mu (by omega)).mu (by omega)
    have w : ∀ o, 131 ≤ o → o ≤ 134 → μ1 o i = μ o (32 + i) := fun o h0 h1 => by
      rcases (by omega : o = 131 ∨ o = 132 ∨ o = 133 ∨ o = 134) with rfl | rfl | rfl | rfl
      · rw [← hμ, mu_o (by decide), mu_o (by decide), mu_o (by decide), mu_s]
      · rw [← hμ, mu_o (by decide), mu_o (by decide), mu_s]
      · rw [← hμ, mu_o (by decide), mu_s]
      · rw [← hμ, mu_s]
    refine ih (i + 1) μ1 (by omega) (by omega) (e.tr (e1.mono (fun o j k => by omega))) (fun o j h0 h1 j0 j1 => ?_)
    by_cases g : j = i
    · subst g
      rw [w o h0 h1]
      exact e _ _ (by omega)
    · rw [e1 _ _ (by omega)]
      exact hc o j h0 h1 j0 (by omega)
theorem s192 {D : Int → Int × Int × Int × Int} (hd : 1 ≤ d) (h22 : μ 123 22 = 0) (c0 : 0 ≤ c) (c1 : c ≤ 16) (hL : LL μ l) (hl : l.length ≤ 400) (hD : ∀ j, 0 ≤ j → j < c → lm4 μ j (D j)) (h : ∀ μ', Ep RL μ μ' → LM μ' c (coD D) l → Φ none μ') : Ct E d 192 [.inr 123, .inl c] μ Φ := by
  refine v192 (by omega) (g192a (μ0 := μ) hd c1 h22 (fun μ1 e1 w1 => ?_) c.toNat 0 μ (by omega) (Int.le_refl _) Ep.rf (fun o j h0 h1 j0 j1 => by omega))
  refine g192b (μ0 := μ1) (l := l) hd hl (inR_of (by omega) (by omega)) (fun μ2 e2 w2 h130 => ?_) l.length 0 μ1 (by omega) (Int.le_refl _) (by rw [e1 _ _ (by omega)]; exact h22) (by rw [e1 _ _ (by omega)]; exact hL.1) Ep.rf (fun o j ho j0 j1 => by omega)
  refine h μ2 ((e1.mono (fun o i k => by unfold RL; omega)).tr (e2.mono (fun o i k => by unfold RL; omega))) ⟨h130, fun i i0 i1 => ?_, ?_⟩
  · have fr : ∀ o, 131 ≤ o → o ≤ 134 → μ2 o (0 + i) = μ o (32 + i) := fun o h0 h1 => by
      rw [Int.zero_add, e2 _ _ (by omega)]
      exact w1 o i h0 h1 i0 i1
    have hi := hD i i0 i1
    exact ⟨by rw [fr _ (by decide) (by decide)]; exact hi.1, by rw [fr _ (by decide) (by decide)]; exact hi.2.1, by rw [fr _ (by decide) (by decide)]; exact hi.2.2.1, by rw [fr _ (by decide) (by decide)]; exact hi.2.2.2⟩
  · refine coM_mv l 800 0 hL.2 (fun a a0 a1 => ?_)
    rw [Int.zero_add]
    exact ⟨by rw [w2 135 a (Or.inl rfl) a0 a1]; exact e1 _ _ (by omega), by rw [w2 136 a (Or.inr rfl) a0 a1]; exact e1 _ _ (by omega)⟩
/-- one word -/
theorem g202 {a b : Int} (hd : 1 ≤ d) (hb : 0 ≤ b) (hb2 : b < 32) (ha : a = 32 + b) (h : ∀ μ', Ep (fun o i => o = 139 ∧ 8 * b ≤ i ∧ i < 8 * b + 8) μ0 μ' → (∀ k, 0 ≤ k → k < 8 → μ' 139 (8 * b + k) = μ0 139 (8 * a + k)) → Φ none μ') : ∀ (m : Nat) (i : Int) (μ : Mm), i + m = 8 → 0 ≤ i → Ep (fun o i => o = 139 ∧ 8 * b ≤ i ∧ i < 8 * b + 8) μ0 μ → (∀ k, 0 ≤ k → k < i → μ 139 (8 * b + k) = μ0 139 (8 * a + k)) → G E d 202 Φ 10 [some (.inr 123), some (.inl a), some (.inl b), some (.inl i)] [] μ := by
  intro m
  induction m with
  | zero =>
    intro i μ hi i0 e hc
    exact v202_10 (by omega) ⟨inR_of (by omega) (by omega), fun _ => h μ e (fun k k0 k1 => hc k k0 (by omega)), fun g => by omega⟩
  | succ m ih =>
    intro i μ hi i0 e hc
    refine v202_10 (by omega) ⟨inR_of (by omega) (by omega), fun g => by omega, fun _ => ⟨by omega, by omega, ih (i + 1) _ (by omega) (by omega) (e.tr (Ep.rf.mu (by omega))) (fun k k0 k1 => ?_)⟩⟩
    by_cases g : k = i
    · rw [g, mu_s]
      exact e _ _ (by omega)
    · rw [mu_i (by omega)]
      exact hc k k0 (by omega)
theorem s202 {a b : Int} (hd : 1 ≤ d) (hb : 0 ≤ b) (hb2 : b < 32) (ha : a = 32 + b) (h : ∀ μ', Ep (fun o i => (o = 138 ∧ i = b) ∨ (o = 139 ∧ 8 * b ≤ i ∧ i < 8 * b + 8)) μ μ' → μ' 138 b = μ 138 a → (∀ k, 0 ≤ k → k < 8 → μ' 139 (8 * b + k) = μ 139 (8 * a + k)) → Φ none μ') : Ct E d 202 [.inr 123, .inl a, .inl b] μ Φ := by
  have e0 : Ep (fun o i => o = 138 ∧ i = b) μ (mu μ 138 b (μ 138 a)) := Ep.rf.mu ⟨rfl, rfl⟩
  refine v202 (by omega) ⟨by omega, by omega, g202 hd hb hb2 ha (fun μ1 e1 w1 => h μ1 ((e0.mono (fun o i k => by omega)).tr (e1.mono (fun o i k => by omega))) ?_ (fun k k0 k1 => ?_)) 8 0 _ rfl (Int.le_refl _) Ep.rf (fun k k0 k1 => by omega)⟩
  · rw [e1 _ _ (by omega), mu_s]
  · rw [w1 k k0 k1]
    exact e0 _ _ (by omega)
/-- jobs -/
theorem g203j (hd : 2 ≤ d) (c0 : 0 ≤ c) (c1 : c ≤ 16) (h : ∀ μ', Ep RJ μ0 μ' → (∀ j, 0 ≤ j → j < c → μ' 138 j = μ0 138 (32 + j) ∧ (∀ k, 0 ≤ k → k < 8 → μ' 139 (8 * j + k) = μ0 139 (8 * (32 + j) + k)) ∧ μ' 140 j = μ0 140 (16 + j)) → μ' 123 31 = c → μ' 124 7 = 0 → μ' 123 3 = 0 → Φ none μ') : ∀ (m : Nat) (i : Int) (μ : Mm), i + m = c → 0 ≤ i → Ep RJ μ0 μ → (∀ j, 0 ≤ j → j < i → μ 138 j = μ0 138 (32 + j) ∧ (∀ k, 0 ≤ k → k < 8 → μ 139 (8 * j + k) = μ0 139 (8 * (32 + j) + k)) ∧ μ 140 j = μ0 140 (16 + j)) → G E d 203 Φ 2 [some (.inr 123), some (.inl 1), some (.inl c), some (.inl i)] [] μ := by
  have i1 : inR 1 := inR_of (by decide) (by decide)
  intro m
  induction m with
  | zero =>
    intro i μ hi i0 e hc
    refine v203_2 (by omega) ⟨inR_of (by omega) (by omega), inR_of (by omega) (by omega), fun _ => v203_42 (by omega) ?_, fun g => by omega⟩
    have fin : Φ none (mu (mu (mu μ 123 31 c) 124 7 0) 123 3 0) := by
      have e3 : Ep (fun o i => (o = 123 ∧ (i = 3 ∨ i = 31)) ∨ (o = 124 ∧ i = 7)) μ (mu (mu (mu μ 123 31 c) 124 7 0) 123 3 0) := ((Ep.rf.mu (by omega)).mu (by omega)).mu (by omega)
      refine h _ (e.tr (e3.mono (fun o i k => by unfold RJ; omega))) (fun j j0 j1 => ?_) ?_ ?_ ?_
      · obtain ⟨h1, h2, h3⟩ := hc j j0 (by omega)
        exact ⟨by rw [e3 _ _ (by omega)]; exact h1, fun k k0 k1 => by rw [e3 _ _ (by omega)]; exact h2 k k0 k1, by rw [e3 _ _ (by omega)]; exact h3⟩
      · rw [mu_i (by decide), mu_o (by decide), mu_s]
      · rw [mu_o (by decide), mu_s]
      · rw [mu_s]
    have ne : ∀ {P : Prop}, (1 : Int) ≠ 1 → P := fun g => absurd rfl g
    exact ⟨inR_of (by decide) (by decide), inR_of (by omega) (by omega), fun _ => ⟨i1, fun g => ne g, fun _ => ⟨i1, fun _ => ⟨i1, fun _ => fin, fun g => absurd g (by decide)⟩, fun g => absurd g (by decide)⟩⟩, fun _ => ⟨i1, fun _ => ⟨i1, fun g => ne g, fun _ => ⟨i1, fun _ => ⟨i1, fun _ => fin, fun g => absurd g (by decide)⟩, fun g => absurd g (by decide)⟩⟩, fun g => absurd g (by decide)⟩⟩
  | succ m ih =>
    intro i μ hi i0 e hc
    refine v203_2 (by omega) ⟨inR_of (by omega) (by omega), inR_of (by omega) (by omega), fun g => by omega, fun _ => ⟨i1, fun g => absurd rfl g, fun _ => s202 (by omega) i0 (by omega) rfl (fun μ1 e1 w1 w2 => ⟨i1, fun g => absurd rfl g, fun _ => ⟨by omega, by omega, i1, fun _ => ?_, fun g => absurd g (by decide)⟩⟩)⟩⟩
    have e2 : Ep (fun o j => o = 140 ∧ j = i) μ1 (mu μ1 140 i (μ1 140 (16 + i))) := Ep.rf.mu ⟨rfl, rfl⟩
    refine ih (i + 1) _ (by omega) (by omega) ((e.tr (e1.mono (fun o j k => by unfold RJ; omega))).tr (e2.mono (fun o j k => by unfold RJ; omega))) (fun j j0 j1 => ?_)
    by_cases g : j = i
    · subst g
      refine ⟨?_, fun k k0 k1 => ?_, ?_⟩
      · rw [e2 _ _ (by omega), w1]
        exact e _ _ (by unfold RJ; omega)
      · rw [e2 _ _ (by omega), w2 k k0 k1]
        exact e _ _ (by unfold RJ; omega)
      · rw [mu_s, e1 _ _ (by omega)]
        exact e _ _ (by unfold RJ; omega)
    · obtain ⟨h1, h2, h3⟩ := hc j j0 (by omega)
      exact ⟨by rw [e2 _ _ (by omega), e1 _ _ (by omega)]; exact h1, fun k k0 k1 => by rw [e2 _ _ (by omega), e1 _ _ (by omega)]; exact h2 k k0 k1, by rw [e2 _ _ (by omega), e1 _ _ (by omega)]; exact h3⟩
/-- the book -/
theorem g203b (hd : 2 ≤ d) (c0 : 0 ≤ c) (c1 : c ≤ 16) (h : ∀ μ', Ep RB μ0 μ' → (∀ j, 0 ≤ j → j < c → μ' 138 (16 + j) = μ0 138 (48 + j) ∧ (∀ k, 0 ≤ k → k < 8 → μ' 139 (8 * (16 + j) + k) = μ0 139 (8 * (48 + j) + k))) → μ' 123 32 = c → μ' 123 3 = 0 → Φ none μ') : ∀ (m : Nat) (i : Int) (μ : Mm), i + m = c → 0 ≤ i → Ep RB μ0 μ → (∀ j, 0 ≤ j → j < i → μ 138 (16 + j) = μ0 138 (48 + j) ∧ (∀ k, 0 ≤ k → k < 8 → μ 139 (8 * (16 + j) + k) = μ0 139 (8 * (48 + j) + k))) → G E d 203 Φ 2 [some (.inr 123), some (.inl 2), some (.inl c), some (.inl i)] [] μ := by
  have i1 : inR 2 := inR_of (by decide) (by decide)
  intro m
  induction m with
  | zero =>
    intro i μ hi i0 e hc
    refine v203_2 (by omega) ⟨inR_of (by omega) (by omega), inR_of (by omega) (by omega), fun _ => v203_42 (by omega) ?_, fun g => by omega⟩
    have fin : Φ none (mu (mu μ 123 32 c) 123 3 0) := by
      have e3 : Ep (fun o i => o = 123 ∧ (i = 3 ∨ i = 32)) μ (mu (mu μ 123 32 c) 123 3 0) := (Ep.rf.mu (by omega)).mu (by omega)
      refine h _ (e.tr (e3.mono (fun o i k => by unfold RB; omega))) (fun j j0 j1 => ?_) ?_ ?_
      · obtain ⟨h1, h2⟩ := hc j j0 (by omega)
        exact ⟨by rw [e3 _ _ (by omega)]; exact h1, fun k k0 k1 => by rw [e3 _ _ (by omega)]; exact h2 k k0 k1⟩
      · rw [mu_i (by decide), mu_s]
      · rw [mu_s]
    exact ⟨inR_of (by decide) (by decide), inR_of (by omega) (by omega), fun _ => ⟨i1, fun _ => ⟨i1, fun g => absurd rfl g, fun _ => ⟨i1, fun _ => fin, fun g => absurd g (by decide)⟩⟩, fun g => absurd g (by decide)⟩, fun _ => ⟨i1, fun _ => ⟨i1, fun _ => ⟨i1, fun g => absurd rfl g, fun _ => ⟨i1, fun _ => fin, fun g => absurd g (by decide)⟩⟩, fun g => absurd g (by decide)⟩, fun g => absurd g (by decide)⟩⟩
  | succ m ih =>
    intro i μ hi i0 e hc
    refine v203_2 (by omega) ⟨inR_of (by omega) (by omega), inR_of (by omega) (by omega), fun g => by omega, fun _ => ⟨i1, fun _ => ⟨i1, fun _ => ⟨i1, fun g => absurd rfl g, fun _ => s202 (b := 16 + i) (by omega) (by omega) (by omega) (by omega) (fun μ1 e1 w1 w2 => ?_)⟩, fun g => absurd g (by decide)⟩, fun g => absurd g (by decide)⟩⟩
    refine ih (i + 1) μ1 (by omega) (by omega) (e.tr (e1.mono (fun o j k => by unfold RB; omega))) (fun j j0 j1 => ?_)
    by_cases g : j = i
    · subst g
      refine ⟨?_, fun k k0 k1 => ?_⟩
      · rw [w1]
        exact e _ _ (by unfold RB; omega)
      · rw [w2 k k0 k1]
        exact e _ _ (by unfold RB; omega)
    · obtain ⟨h1, h2⟩ := hc j j0 (by omega)
      exact ⟨by rw [e1 _ _ (by omega)]; exact h1, fun k k0 k1 => by rw [e1 _ _ (by omega)]; exact h2 k k0 k1⟩
/-- changes -/
theorem g203d (hd : 2 ≤ d) (c0 : 0 ≤ c) (c1 : c ≤ 16) (h : ∀ μ', Ep RC μ0 μ' → (∀ j, 0 ≤ j → j < 4 * c → μ' 141 j = μ0 141 (64 + j)) → μ' 123 36 = c → μ' 123 3 = 0 → Φ none μ') : ∀ (m : Nat) (i : Int) (μ : Mm), i + m = 4 * c → 0 ≤ i → Ep RC μ0 μ → (∀ j, 0 ≤ j → j < i → μ 141 j = μ0 141 (64 + j)) → G E d 203 Φ 42 [some (.inr 123), some (.inl 3), some (.inl c), some (.inl i)] [] μ := by
  have i1 : inR 3 := inR_of (by decide) (by decide)
  intro m
  induction m with
  | zero =>
    intro i μ hi i0 e hc
    have fin : Φ none (mu (mu μ 123 36 c) 123 3 0) := by
      have e3 : Ep (fun o i => o = 123 ∧ (i = 3 ∨ i = 36)) μ (mu (mu μ 123 36 c) 123 3 0) := (Ep.rf.mu (by omega)).mu (by omega)
      refine h _ (e.tr (e3.mono (fun o i k => by unfold RC; omega))) (fun j j0 j1 => ?_) ?_ ?_
      · rw [e3 _ _ (by omega)]; exact hc j j0 (by omega)
      · rw [mu_i (by decide), mu_s]
      · rw [mu_s]
    exact v203_42 (by omega) ⟨inR_of (by omega) (by omega), inR_of (by omega) (by omega), fun _ => ⟨i1, fun _ => ⟨i1, fun _ => ⟨i1, fun g => absurd rfl g, fun _ => fin⟩, fun g => absurd g (by decide)⟩, fun g => absurd g (by decide)⟩, fun g => by omega⟩
  | succ m ih =>
    intro i μ hi i0 e hc
    have e2 : Ep (fun o j => o = 141 ∧ j = i) μ (mu μ 141 i (μ 141 (64 + i))) := Ep.rf.mu ⟨rfl, rfl⟩
    refine v203_42 (by omega) ⟨inR_of (by omega) (by omega), inR_of (by omega) (by omega), fun g => by omega, fun _ => ⟨i1, fun g => absurd rfl g, fun _ => ⟨by omega, by omega, ih (i + 1) _ (by omega) (by omega) (e.tr (e2.mono (fun o j k => by unfold RC; omega))) (fun j j0 j1 => ?_)⟩⟩⟩
    by_cases g : j = i
    · subst g
      rw [mu_s]
      exact e _ _ (by unfold RC; omega)
    · rw [e2 _ _ (by omega)]
      exact hc j j0 (by omega)
theorem g203c (hd : 2 ≤ d) (c0 : 0 ≤ c) (c1 : c ≤ 16) (h : G E d 203 Φ 42 [some (.inr 123), some (.inl 3), some (.inl c), some (.inl 0)] [] μ) : ∀ (m : Nat) (i : Int), i + m = c → 0 ≤ i → G E d 203 Φ 2 [some (.inr 123), some (.inl 3), some (.inl c), some (.inl i)] [] μ := by
  have i1 : inR 3 := inR_of (by decide) (by decide)
  intro m
  induction m with
  | zero =>
    intro i hi i0
    exact v203_2 (by omega) ⟨inR_of (by omega) (by omega), inR_of (by omega) (by omega), fun _ => h, fun g => by omega⟩
  | succ m ih =>
    intro i hi i0
    exact v203_2 (by omega) ⟨inR_of (by omega) (by omega), inR_of (by omega) (by omega), fun g => by omega, fun _ => ⟨i1, fun _ => ⟨i1, fun _ => ⟨i1, fun _ => ih (i + 1) (by omega) (by omega), fun g => absurd g (by decide)⟩, fun g => absurd g (by decide)⟩, fun g => absurd g (by decide)⟩⟩
end S74
