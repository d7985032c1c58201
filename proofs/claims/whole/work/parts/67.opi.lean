/-! the image of the reference, kept and laid back -/
section S51
variable {E : En} {d : Nat} {Φ : Option AV → Mm → Prop} {μ μ0 μ' : Mm} {tk : Int} {a : Int}
theorem k282_151 (hd : 2 ≤ d) (ht : tk = 0 ∨ tk = 1) (h : ∀ μ', KP tk μ0 456 μ' → Φ none μ') : ∀ (m x : Nat) (μ : Mm), x + m = 10 → KP tk μ0 (446 + (x : Int)) μ → G E d 282 Φ 151 [some (.inr 123), some (.inl (x : Int))] [] μ := by
  intro m
  induction m with
  | zero =>
    intro x μ hx hP
    have e : (446 : Int) + (x : Int) = 456 := by omega
    rw [e] at hP
    exact v282_151 (by omega) ⟨inR_of (by omega) (by omega), fun _ => h μ hP, fun k => by omega⟩
  | succ m ih =>
    intro x μ hx hP
    refine v282_151 (by omega) ⟨inR_of (by omega) (by omega), fun k => by omega, fun _ => ⟨⟨by omega, by omega⟩, kp280 (by omega) ht hP (o := 155) (i := (x : Int)) (by unfold supM kmS; omega) rfl (fun z μ1 _ hP1 => ⟨⟨by omega, by omega⟩, ih (x + 1) _ (by omega) (by
      rw [show (446 : Int) + ((x + 1 : Nat) : Int) = 446 + (x : Int) + 1 by omega]; exact hP1)⟩) rfl⟩⟩
theorem k282_134 (hd : 2 ≤ d) (ht : tk = 0 ∨ tk = 1) (h : ∀ μ', KP tk μ0 456 μ' → Φ none μ') : ∀ (m x : Nat) (μ : Mm), x + m = 8 → KP tk μ0 (438 + (x : Int)) μ → G E d 282 Φ 134 [some (.inr 123), some (.inl (x : Int))] [] μ := by
  intro m
  induction m with
  | zero =>
    intro x μ hx hP
    have e : (438 : Int) + (x : Int) = 446 := by omega
    rw [e] at hP
    exact v282_134 (by omega) ⟨inR_of (by omega) (by omega), fun _ => k282_151 hd ht h 10 0 μ (by omega) (by simpa using hP), fun k => by omega⟩
  | succ m ih =>
    intro x μ hx hP
    refine v282_134 (by omega) ⟨inR_of (by omega) (by omega), fun k => by omega, fun _ => ⟨⟨by omega, by omega⟩, kp280 (by omega) ht hP (o := 149) (i := (x : Int)) (by unfold supM kmS; omega) rfl (fun z μ1 _ hP1 => ⟨⟨by omega, by omega⟩, ih (x + 1) _ (by omega) (by
      rw [show (438 : Int) + ((x + 1 : Nat) : Int) = 438 + (x : Int) + 1 by omega]; exact hP1)⟩) rfl⟩⟩
theorem k282_117 (hd : 2 ≤ d) (ht : tk = 0 ∨ tk = 1) (h : ∀ μ', KP tk μ0 456 μ' → Φ none μ') : ∀ (m x : Nat) (μ : Mm), x + m = 12 → KP tk μ0 (426 + (x : Int)) μ → G E d 282 Φ 117 [some (.inr 123), some (.inl (x : Int))] [] μ := by
  intro m
  induction m with
  | zero =>
    intro x μ hx hP
    have e : (426 : Int) + (x : Int) = 438 := by omega
    rw [e] at hP
    exact v282_117 (by omega) ⟨inR_of (by omega) (by omega), fun _ => k282_134 hd ht h 8 0 μ (by omega) (by simpa using hP), fun k => by omega⟩
  | succ m ih =>
    intro x μ hx hP
    refine v282_117 (by omega) ⟨inR_of (by omega) (by omega), fun k => by omega, fun _ => ⟨⟨by omega, by omega⟩, kp280 (by omega) ht hP (o := 146) (i := (x : Int)) (by unfold supM kmS; omega) rfl (fun z μ1 _ hP1 => ⟨⟨by omega, by omega⟩, ih (x + 1) _ (by omega) (by
      rw [show (426 : Int) + ((x + 1 : Nat) : Int) = 426 + (x : Int) + 1 by omega]; exact hP1)⟩) rfl⟩⟩
theorem k282_100 (hd : 2 ≤ d) (ht : tk = 0 ∨ tk = 1) (h : ∀ μ', KP tk μ0 456 μ' → Φ none μ') : ∀ (m x : Nat) (μ : Mm), x + m = 25 → KP tk μ0 (401 + (x : Int)) μ → G E d 282 Φ 100 [some (.inr 123), some (.inl (x : Int))] [] μ := by
  intro m
  induction m with
  | zero =>
    intro x μ hx hP
    have e : (401 : Int) + (x : Int) = 426 := by omega
    rw [e] at hP
    exact v282_100 (by omega) ⟨inR_of (by omega) (by omega), fun _ => k282_117 hd ht h 12 0 μ (by omega) (by simpa using hP), fun k => by omega⟩
  | succ m ih =>
    intro x μ hx hP
    refine v282_100 (by omega) ⟨inR_of (by omega) (by omega), fun k => by omega, fun _ => ⟨⟨by omega, by omega⟩, kp280 (by omega) ht hP (o := 147) (i := (x : Int)) (by unfold supM kmS; omega) rfl (fun z μ1 _ hP1 => ⟨⟨by omega, by omega⟩, ih (x + 1) _ (by omega) (by
      rw [show (401 : Int) + ((x + 1 : Nat) : Int) = 401 + (x : Int) + 1 by omega]; exact hP1)⟩) rfl⟩⟩
theorem k282_83 (hd : 2 ≤ d) (ht : tk = 0 ∨ tk = 1) (h : ∀ μ', KP tk μ0 456 μ' → Φ none μ') : ∀ (m x : Nat) (μ : Mm), x + m = 64 → KP tk μ0 (337 + (x : Int)) μ → G E d 282 Φ 83 [some (.inr 123), some (.inl (x : Int))] [] μ := by
  intro m
  induction m with
  | zero =>
    intro x μ hx hP
    have e : (337 : Int) + (x : Int) = 401 := by omega
    rw [e] at hP
    exact v282_83 (by omega) ⟨inR_of (by omega) (by omega), fun _ => k282_100 hd ht h 25 0 μ (by omega) (by simpa using hP), fun k => by omega⟩
  | succ m ih =>
    intro x μ hx hP
    refine v282_83 (by omega) ⟨inR_of (by omega) (by omega), fun k => by omega, fun _ => ⟨⟨by omega, by omega⟩, kp280 (by omega) ht hP (o := 141) (i := (x : Int)) (by unfold supM kmS; omega) rfl (fun z μ1 _ hP1 => ⟨⟨by omega, by omega⟩, ih (x + 1) _ (by omega) (by
      rw [show (337 : Int) + ((x + 1 : Nat) : Int) = 337 + (x : Int) + 1 by omega]; exact hP1)⟩) rfl⟩⟩
theorem k282_66 (hd : 2 ≤ d) (ht : tk = 0 ∨ tk = 1) (h : ∀ μ', KP tk μ0 456 μ' → Φ none μ') : ∀ (m x : Nat) (μ : Mm), x + m = 16 → KP tk μ0 (321 + (x : Int)) μ → G E d 282 Φ 66 [some (.inr 123), some (.inl (x : Int))] [] μ := by
  intro m
  induction m with
  | zero =>
    intro x μ hx hP
    have e : (321 : Int) + (x : Int) = 337 := by omega
    rw [e] at hP
    exact v282_66 (by omega) ⟨inR_of (by omega) (by omega), fun _ => k282_83 hd ht h 64 0 μ (by omega) (by simpa using hP), fun k => by omega⟩
  | succ m ih =>
    intro x μ hx hP
    refine v282_66 (by omega) ⟨inR_of (by omega) (by omega), fun k => by omega, fun _ => ⟨⟨by omega, by omega⟩, kp280 (by omega) ht hP (o := 140) (i := (x : Int)) (by unfold supM kmS; omega) rfl (fun z μ1 _ hP1 => ⟨⟨by omega, by omega⟩, ih (x + 1) _ (by omega) (by
      rw [show (321 : Int) + ((x + 1 : Nat) : Int) = 321 + (x : Int) + 1 by omega]; exact hP1)⟩) rfl⟩⟩
theorem k282_49 (hd : 2 ≤ d) (ht : tk = 0 ∨ tk = 1) (h : ∀ μ', KP tk μ0 456 μ' → Φ none μ') : ∀ (m x : Nat) (μ : Mm), x + m = 256 → KP tk μ0 (65 + (x : Int)) μ → G E d 282 Φ 49 [some (.inr 123), some (.inl (x : Int))] [] μ := by
  intro m
  induction m with
  | zero =>
    intro x μ hx hP
    have e : (65 : Int) + (x : Int) = 321 := by omega
    rw [e] at hP
    exact v282_49 (by omega) ⟨inR_of (by omega) (by omega), fun _ => k282_66 hd ht h 16 0 μ (by omega) (by simpa using hP), fun k => by omega⟩
  | succ m ih =>
    intro x μ hx hP
    refine v282_49 (by omega) ⟨inR_of (by omega) (by omega), fun k => by omega, fun _ => ⟨⟨by omega, by omega⟩, kp280 (by omega) ht hP (o := 139) (i := (x : Int)) (by unfold supM kmS; omega) rfl (fun z μ1 _ hP1 => ⟨⟨by omega, by omega⟩, ih (x + 1) _ (by omega) (by
      rw [show (65 : Int) + ((x + 1 : Nat) : Int) = 65 + (x : Int) + 1 by omega]; exact hP1)⟩) rfl⟩⟩
theorem k282_32 (hd : 2 ≤ d) (ht : tk = 0 ∨ tk = 1) (h : ∀ μ', KP tk μ0 456 μ' → Φ none μ') : ∀ (m x : Nat) (μ : Mm), x + m = 32 → KP tk μ0 (33 + (x : Int)) μ → G E d 282 Φ 32 [some (.inr 123), some (.inl (x : Int))] [] μ := by
  intro m
  induction m with
  | zero =>
    intro x μ hx hP
    have e : (33 : Int) + (x : Int) = 65 := by omega
    rw [e] at hP
    exact v282_32 (by omega) ⟨inR_of (by omega) (by omega), fun _ => k282_49 hd ht h 256 0 μ (by omega) (by simpa using hP), fun k => by omega⟩
  | succ m ih =>
    intro x μ hx hP
    refine v282_32 (by omega) ⟨inR_of (by omega) (by omega), fun k => by omega, fun _ => ⟨⟨by omega, by omega⟩, kp280 (by omega) ht hP (o := 138) (i := (x : Int)) (by unfold supM kmS; omega) rfl (fun z μ1 _ hP1 => ⟨⟨by omega, by omega⟩, ih (x + 1) _ (by omega) (by
      rw [show (33 : Int) + ((x + 1 : Nat) : Int) = 33 + (x : Int) + 1 by omega]; exact hP1)⟩) rfl⟩⟩
theorem s282 (hd : 2 ≤ d) (ht : tk = 0 ∨ tk = 1) (hP : KP tk μ0 28 μ) (h : ∀ μ', KP tk μ0 456 μ' → Φ none μ') : Ct E d 282 [.inr 123] μ Φ := by
  refine v282 (by omega) (kp280 (by omega) ht hP (o := 123) (i := 31) (by unfold supM kmS; omega) rfl (fun z2 μ1 _ h1 => kp280 (by omega) ht h1 (o := 123) (i := 32) (by unfold supM kmS; omega) rfl (fun z4 μ3 _ h3 => kp280 (by omega) ht h3 (o := 123) (i := 36) (by unfold supM kmS; omega) rfl (fun z6 μ5 _ h5 => kp280 (by omega) ht h5 (o := 123) (i := 42) (by unfold supM kmS; omega) rfl (fun z8 μ7 _ h7 => kp280 (by omega) ht h7 (o := 123) (i := 46) (by unfold supM kmS; omega) rfl (fun z10 μ9 _ h9 => k282_32 hd ht h 32 0 _ (by omega) (by simpa using h9)) (mu_i (by decide)).symm) (mu_i (by decide)).symm) (mu_i (by decide)).symm) (mu_i (by decide)).symm) rfl)
theorem k281_59 (hd : 2 ≤ d) (ht : tk = 0 ∨ tk = 1) (h : ∀ μ', KP tk μ0 1921 μ' → Φ none μ') : ∀ (m x : Nat) (μ : Mm), x + m = 400 → KP tk μ0 (1121 + 2 * (x : Int)) μ → G E d 281 Φ 59 [some (.inr 123), some (.inl (x : Int))] [] μ := by
  intro m
  induction m with
  | zero =>
    intro x μ hx hP
    rw [show (1121 : Int) + 2 * (x : Int) = 1921 by omega] at hP
    exact v281_59 (by omega) ⟨inR_of (by omega) (by omega), fun _ => h μ hP, fun k => by omega⟩
  | succ m ih =>
    intro x μ hx hP
    have bx : 0 ≤ (x : Int) ∧ (x : Int) < 1200 := by omega
    refine v281_59 (by omega) ⟨inR_of (by omega) (by omega), fun k => by omega, fun _ => ⟨bx, kp280 (by omega) ht hP (o := 135) (i := (x : Int)) (by unfold supM kmS; omega) rfl (fun z2 μ1 _ h1 => ⟨bx, bx, kp280 (by omega) ht h1 (o := 136) (i := (x : Int)) (by unfold supM kmS; omega) (by show (1122 : Int) + 2 * (x : Int) = _; omega) (fun z4 μ3 _ h3 => ⟨bx, ih (x + 1) _ (by omega) (by
      rw [show (1121 : Int) + 2 * ((x + 1 : Nat) : Int) = 1121 + 2 * (x : Int) + 1 + 1 by omega]; exact h3)⟩) (mu_o (by decide)).symm⟩) rfl⟩⟩
theorem k281_12 (hd : 2 ≤ d) (ht : tk = 0 ∨ tk = 1) (h : ∀ μ', KP tk μ0 1921 μ' → Φ none μ') : ∀ (m x : Nat) (μ : Mm), x + m = 16 → KP tk μ0 (1057 + 4 * (x : Int)) μ → G E d 281 Φ 12 [some (.inr 123), some (.inl (x : Int))] [] μ := by
  intro m
  induction m with
  | zero =>
    intro x μ hx hP
    rw [show (1057 : Int) + 4 * (x : Int) = 1121 by omega] at hP
    exact v281_12 (by omega) ⟨inR_of (by omega) (by omega), fun _ => k281_59 hd ht h 400 0 μ (by omega) (by simpa using hP), fun k => by omega⟩
  | succ m ih =>
    intro x μ hx hP
    have bx : 0 ≤ (x : Int) ∧ (x : Int) < 48 := by omega
    refine v281_12 (by omega) ⟨inR_of (by omega) (by omega), fun k => by omega, fun _ => ⟨bx, kp280 (by omega) ht hP (o := 131) (i := (x : Int)) (by unfold supM kmS; omega) rfl (fun z2 μ1 _ h1 => ⟨bx, bx, kp280 (by omega) ht h1 (o := 132) (i := (x : Int)) (by unfold supM kmS; omega) (by show (1058 : Int) + 4 * (x : Int) = _; omega) (fun z4 μ3 _ h3 => ⟨bx, bx, kp280 (by omega) ht h3 (o := 133) (i := (x : Int)) (by unfold supM kmS; omega) (by show (1059 : Int) + 4 * (x : Int) = _; omega) (fun z6 μ5 _ h5 => ⟨bx, bx, kp280 (by omega) ht h5 (o := 134) (i := (x : Int)) (by unfold supM kmS; omega) (by show (1060 : Int) + 4 * (x : Int) = _; omega) (fun z8 μ7 _ h7 => ⟨bx, ih (x + 1) _ (by omega) (by
      rw [show (1057 : Int) + 4 * ((x + 1 : Nat) : Int) = 1057 + 4 * (x : Int) + 1 + 1 + 1 + 1 by omega]; exact h7)⟩) (mu_o (by decide)).symm⟩) (mu_o (by decide)).symm⟩) (mu_o (by decide)).symm⟩) rfl⟩⟩
theorem s281 (hd : 2 ≤ d) (ht : tk = 0 ∨ tk = 1) (hP : KP tk μ0 1056 μ) (h : ∀ μ', KP tk μ0 1921 μ' → Φ none μ') : Ct E d 281 [.inr 123] μ Φ :=
  v281 (by omega) (kp280 (by omega) ht hP (o := 130) (i := 0) (by unfold supM kmS; omega) rfl (fun z2 μ1 _ h1 => k281_12 hd ht h 16 0 _ (by omega) (by simpa using h1)) rfl)
theorem k283_40 (hd : 3 ≤ d) (ht : tk = 0 ∨ tk = 1) (h1 : tk = 1 → ∀ μ', KP tk μ0 1921 μ' → Φ (some (.inl 1)) μ') (h0 : tk = 0 → ∀ μ', KP tk μ0 1921 μ' → Φ (some (.inl 1)) (mu μ' 123 3 0)) : ∀ (m x : Nat) (μ : Mm), x + m = 600 → KP tk μ0 (456 + (x : Int)) μ → G E d 283 Φ 40 [some (.inr 123), some (.inl tk), some (.inl (x : Int))] [] μ := by
  intro m
  induction m with
  | zero =>
    intro x μ hx hP
    rw [show (456 : Int) + (x : Int) = 1056 by omega] at hP
    exact v283_40 (by omega) ⟨inR_of (by omega) (by omega), fun _ => s281 (by omega) ht hP (fun μ' hP' => ⟨inR_of (by omega) (by omega), fun k => h1 (by omega) μ' hP', fun k => h0 k μ' hP'⟩), fun k => by omega⟩
  | succ m ih =>
    intro x μ hx hP
    refine v283_40 (by omega) ⟨inR_of (by omega) (by omega), fun k => by omega, fun _ => ⟨⟨by omega, by omega⟩, kp280 (by omega) ht hP (o := 127) (i := (x : Int)) (by unfold supM kmS; omega) rfl (fun z μ1 _ hP1 => ⟨⟨by omega, by omega⟩, ih (x + 1) _ (by omega) (by
      rw [show (456 : Int) + ((x + 1 : Nat) : Int) = 456 + (x : Int) + 1 by omega]; exact hP1)⟩) rfl⟩⟩
theorem k283_21 (hd : 3 ≤ d) (ht : tk = 0 ∨ tk = 1) (h1 : tk = 1 → ∀ μ', KP tk μ0 1921 μ' → Φ (some (.inl 1)) μ') (h0 : tk = 0 → ∀ μ', KP tk μ0 1921 μ' → Φ (some (.inl 1)) (mu μ' 123 3 0)) : ∀ (m x : Nat) (μ : Mm), x + m = 28 → KP tk μ0 (x : Int) μ → G E d 283 Φ 21 [some (.inr 123), some (.inl tk), some (.inl (x : Int))] [] μ := by
  intro m
  induction m with
  | zero =>
    intro x μ hx hP
    rw [show (x : Int) = 28 by omega] at hP
    exact v283_21 (by omega) ⟨inR_of (by omega) (by omega), fun _ => s282 (by omega) ht hP (fun μ' hP' => k283_40 hd ht h1 h0 600 0 μ' (by omega) (by simpa using hP')), fun k => by omega⟩
  | succ m ih =>
    intro x μ hx hP
    refine v283_21 (by omega) ⟨inR_of (by omega) (by omega), fun k => by omega, fun _ => ⟨⟨by omega, by omega⟩, kp280 (by omega) ht hP (o := 124) (i := (x : Int)) (by unfold supM kmS; omega) rfl (fun z μ1 _ hP1 => ⟨⟨by omega, by omega⟩, ih (x + 1) _ (by omega) (by
      rw [show ((x + 1 : Nat) : Int) = (x : Int) + 1 by omega]; exact hP1)⟩) rfl⟩⟩
theorem s283 (hd : 3 ≤ d) (ht : tk = 0 ∨ tk = 1) (h56 : μ 123 56 = 0 ∨ μ 123 56 = 1) (hn : tk = 0 → μ 123 56 = 0 → Φ (some (.inl 0)) (mu μ 123 0 0)) (h1 : tk = 1 → ∀ μ', KP tk (mu (mu (mu (mu μ 123 0 0) 123 55 tk) 123 56 1) 123 57 0) 1921 μ' → Φ (some (.inl 1)) μ') (h0 : tk = 0 → μ 123 56 = 1 → ∀ μ', KP tk (mu (mu (mu (mu μ 123 0 0) 123 55 tk) 123 56 1) 123 57 0) 1921 μ' → Φ (some (.inl 1)) (mu μ' 123 3 0)) : Ct E d 283 [.inr 123, .inl tk] μ Φ := by
  have go : (tk = 0 → μ 123 56 = 1) → G E d 283 Φ 21 [some (.inr 123), some (.inl tk), some (.inl 0)] [] (mu (mu (mu (mu μ 123 0 0) 123 55 tk) 123 56 1) 123 57 0) := fun hk => by
    refine k283_21 hd ht h1 (fun k => h0 k (hk k)) 28 0 _ (by omega) ⟨mu_s _ _ _ _, by rw [mu_i (by decide), mu_i (by decide), mu_s], fun _ => ⟨fun _ _ _ => rfl, fun o i hs hl => ?_⟩, fun _ => ⟨fun _ _ _ => rfl, fun o i hs hl => ?_⟩⟩
    · have := (ivC_s hs).2; omega
    · have := (ivC_s hs).2; omega
  refine v283 (by omega) ⟨inR_of (by omega) (by omega), fun k => ⟨ht, go (fun e => absurd e k)⟩, fun k => ⟨inR_of (by omega) (by omega), fun k2 => ⟨ht, go (fun _ => by omega)⟩, fun k2 => hn k k2⟩⟩
theorem o31 (hd : 20 ≤ d) (ht : tk = 0 ∨ tk = 1) (hI : Inv μ) : OP E d 150 283 [.inl tk] μ := by
  obtain ⟨f1, f2, f3⟩ := hI.2.2.2.2.2.1
  have dW : ∀ {o : Nat} {i : Int}, supM o i → 123 ≤ o ∧ o ≠ 157 ∧ ¬ (o = 123 ∧ (i = 0 ∨ i = 55 ∨ i = 56 ∨ i = 57)) := fun k => by unfold supM kmS at k; omega
  refine v150 (by omega) ⟨inR_of (by omega) (by omega), fun k => ⟨inR_of (by omega) (by omega), fun k2 => ?_, fun k2 => ?_⟩, fun k => ?_⟩
  · -- gone back to
    have p1 : μ 0 7 = 1 := by omega
    have hS := f3 p1
    refine s94_24 (by omega) (fun μ1 e1 c1 => s20 (by omega) ?_)
    have g1 : ∀ (o : Nat) (i : Int), (o < 25 ∨ 59 ≤ o) → ¬ (o = 100 ∧ i = 2) → mu μ1 100 2 0 o i = μ o i := fun o i a b => by
      by_cases e : o = 100
      · rw [e, mu_i (fun g => b ⟨e, g⟩), e1 _ _ (by omega)]
      · rw [mu_o e, e1 _ _ (by omega)]
    have e56 : mu μ1 100 2 0 123 56 = 1 := by rw [g1 _ _ (by omega) (by omega), ← f1]; exact p1
    refine s283 (by omega) ht (Or.inr e56) (fun _ q => absurd (e56.symm.trans q) (by decide)) (fun q => by omega) (fun _ _ μ2 hP => ⟨rfl, ?_⟩)
    obtain ⟨-, -, -, hP⟩ := hP
    obtain ⟨q1, q2⟩ := hP k
    have m4 : ∀ (o : Nat) (i : Int), ¬ (o = 123 ∧ (i = 0 ∨ i = 55 ∨ i = 56 ∨ i = 57)) → mu (mu (mu (mu (mu μ1 100 2 0) 123 0 0) 123 55 tk) 123 56 1) 123 57 0 o i = mu μ1 100 2 0 o i := fun o i hn => by
      by_cases e : o = 123
      · subst e
        rw [mu_i (by omega), mu_i (by omega), mu_i (by omega), mu_i (by omega)]
      · rw [mu_o e, mu_o e, mu_o e, mu_o e]
    -- what the cells are in the end
    have gM : ∀ o i, supM o i → mu μ2 123 3 0 o i = iv μ o i := fun o i hs => by
      have h3 : ¬ (o = 123 ∧ i = 3) := fun e => by rw [e.1, e.2] at hs; unfold supM kmS at hs; omega
      have : mu μ2 123 3 0 o i = μ2 o i := by unfold mu; rw [if_neg h3]
      rw [this, q2 o i hs (ivC_s hs).2.2, m4 _ _ (by omega), g1 _ _ (by omega) (by omega)]
      rfl
    have gN : ∀ (o : Nat) (i : Int), ¬ supM o i → ¬ (o = 123 ∧ (i = 0 ∨ i = 3 ∨ i = 55 ∨ i = 56 ∨ i = 57)) → mu μ2 123 3 0 o i = mu μ1 100 2 0 o i := fun o i hs hn => by
      have : mu μ2 123 3 0 o i = μ2 o i := by unfold mu; rw [if_neg (by omega)]
      rw [this, q1 o i (fun q => q.elim (fun q => hs q.1) (fun q => by omega)), m4 _ _ (by omega)]
    have nM : ∀ {o : Nat} {i : Int}, (o < 123 ∨ (o = 123 ∧ (i = 3 ∨ i = 5 ∨ i = 8 ∨ i = 29 ∨ i = 30 ∨ i = 56)) ∨ o = 125 ∨ o = 128 ∨ o = 129 ∨ o = 157) → ¬ supM o i := fun k => by unfold supM kmS; omega
    have gO : ∀ (o : Nat) (i : Int), (o < 25 ∨ 59 ≤ o) → (o < 123 ∨ (o = 123 ∧ (i = 5 ∨ i = 8 ∨ i = 29 ∨ i = 30)) ∨ o = 125 ∨ o = 128 ∨ o = 129 ∨ o = 157) → ¬ (o = 100 ∧ i = 2) → mu μ2 123 3 0 o i = μ o i := fun o i a b c => by
      rw [gN o i (nM (by omega)) (by omega), g1 o i a c]
    have gW : ∀ o i, supB o i → mu μ2 123 3 0 o i = sh41 μ o i := fun o i hs => by
      have ob : 25 ≤ o ∧ o < 59 := by unfold supB at hs; omega
      rw [gN o i (nM (by omega)) (by omega), mu_o (by omega), c1 o i hs]
      rfl
    have hSh : Sh (mu μ2 123 3 0) (mu μ2 123 3 0) := hS.cgB gW gM
    refine ⟨hSh, hI.2.1.zero (fun o i hn => ?_) ?_ (mu_s _ _ _ _), hI.2.2.1.cg (fun o i k0 k1 => gO o i (by omega) (by omega) (by omega)), hI.2.2.2.1.cg (fun o i k => gO o i (by omega) (by omega) (by omega)), hI.2.2.2.2.1.cg (fun o i k => gO o i (by omega) (by omega) (by omega)), ?_, hI.2.2.2.2.2.2.cg (fun o i k => gO o i (by omega) (by omega) (by omega))⟩
    · have hn := Classical.not_not.mp hn
      exact gO o i (by omega) (by omega) (by omega)
    · rw [gN _ _ (nM (by omega)) (by omega), mu_s]
    · have a7 : mu μ2 123 3 0 0 7 = 1 := by rw [gO _ _ (by omega) (by omega) (by omega)]; exact p1
      have a56 : mu μ2 123 3 0 123 56 = 1 := by
        rw [mu_i (by decide), q1 123 56 (fun q => q.elim (fun q => nM (by omega) q.1) (fun q => by omega)), mu_i (by decide), mu_s]
      refine ⟨a7.trans a56.symm, Or.inr a7, fun _ => hS.cg (fun o i hs => ?_) (fun o i _ => ?_)⟩
      · have ob : 25 ≤ o ∧ o < 59 := by unfold supW at hs; omega
        exact gO (o + 41) i (by omega) (by omega) (by omega)
      · exact gO 157 _ (by omega) (by omega) (by omega)
  · exact s283 (by omega) ht (Or.inl (by omega)) (fun _ _ => ⟨rfl, hI.sc sc0⟩) (fun q => by omega) (fun _ q => by omega)
  · -- taken
    have k1 : tk = 1 := by omega
    refine s94_65 (by omega) (fun μ1 e1 c1 => ?_)
    have g1 : ∀ (o : Nat) (i : Int), (o < 66 ∨ 100 ≤ o) → ¬ (o = 0 ∧ i = 7) → mu μ1 0 7 1 o i = μ o i := fun o i a b => by
      by_cases e : o = 0
      · rw [e, mu_i (fun g => b ⟨e, g⟩), e1 _ _ (by omega)]
      · rw [mu_o e, e1 _ _ (by omega)]
    refine s283 (by omega) ht (by rw [g1 _ _ (by omega) (by omega)]; omega) (fun q => by omega) (fun _ μ2 hP => ⟨rfl, ?_⟩) (fun q => by omega)
    obtain ⟨-, -, hP, -⟩ := hP
    obtain ⟨q1, q2⟩ := hP k1
    have m4 : ∀ (o : Nat) (i : Int), ¬ (o = 123 ∧ (i = 0 ∨ i = 55 ∨ i = 56 ∨ i = 57)) → mu (mu (mu (mu (mu μ1 0 7 1) 123 0 0) 123 55 tk) 123 56 1) 123 57 0 o i = mu μ1 0 7 1 o i := fun o i hn => by
      by_cases e : o = 123
      · subst e
        rw [mu_i (by omega), mu_i (by omega), mu_i (by omega), mu_i (by omega)]
      · rw [mu_o e, mu_o e, mu_o e, mu_o e]
    have gO : ∀ (o : Nat) (i : Int), (o < 66 ∨ 100 ≤ o) → ¬ (o = 0 ∧ i = 7) → ¬ (o = 157 ∨ (o = 123 ∧ (i = 0 ∨ i = 55 ∨ i = 56 ∨ i = 57))) → μ2 o i = μ o i := fun o i a b c => by
      rw [q1 o i (by omega), m4 o i (by omega), g1 o i a b]
    have hSh : Sh μ2 μ2 := hI.1.cg (fun o i hs => gO o i (by unfold supW at hs; omega) (by unfold supW at hs; omega) (by unfold supW at hs; omega)) (fun o i hs => gO o i (by have := dW hs; omega) (by have := dW hs; omega) (by have := dW hs; omega))
    refine ⟨hSh, hI.2.1.cg (fun o i k => gO o i (by omega) (by omega) (by omega)) (gO _ _ (by omega) (by omega) (by omega)), hI.2.2.1.cg (fun o i k0 k1 => gO o i (by omega) (by omega) (by omega)), hI.2.2.2.1.cg (fun o i k => gO o i (by omega) (by omega) (by omega)), hI.2.2.2.2.1.cg (fun o i k => gO o i (by omega) (by omega) (by omega)), ?_, hI.2.2.2.2.2.2.cg (fun o i k => gO o i (by omega) (by omega) (by omega))⟩
    have a7 : μ2 0 7 = 1 := by rw [q1 _ _ (by omega), m4 _ _ (by omega), mu_s]
    have a56 : μ2 123 56 = 1 := by rw [q1 _ _ (by omega), mu_i (by decide), mu_s]
    refine ⟨a7.trans a56.symm, Or.inr a7, fun _ => hI.1.cgB (fun o i hs => ?_) (fun o i hs => ?_)⟩
    · have ob : 25 ≤ o ∧ o < 59 := by unfold supB at hs; omega
      show μ2 (o + 41) i = μ o i
      rw [q1 _ _ (by omega), m4 _ _ (by omega), mu_o (by omega)]
      exact c1 o i hs
    · show μ2 157 (slt o i) = μ o i
      rw [q2 o i hs (ivC_s hs).2.2, m4 _ _ (by have := dW hs; omega)]
      exact g1 o i (by have := dW hs; omega) (by have := dW hs; omega)
end S51
