/-- sums -/
def sN : Nat → (Nat → Int) → Int
  | 0, _ => 0
  | m + 1, g => sN m g + g m
theorem sN_cg {g h : Nat → Int} : ∀ m : Nat, (∀ i, i < m → g i = h i) → sN m g = sN m h := by
  intro m
  induction m with
  | zero => intro _; rfl
  | succ m ih => intro e; rw [sN, sN, ih (fun i hi => e i (by omega)), e m (by omega)]
theorem sN_0 : ∀ m : Nat, sN m (fun _ => 0) = 0 := by
  intro m
  induction m with
  | zero => rfl
  | succ m ih => rw [sN, ih]; rfl
theorem sN_add (g h : Nat → Int) : ∀ m : Nat, sN m (fun i => g i + h i) = sN m g + sN m h := by
  intro m
  induction m with
  | zero => rfl
  | succ m ih => rw [sN, sN, sN, ih]; omega
theorem sN_swap (g : Nat → Nat → Int) (k : Nat) : ∀ m : Nat, sN m (fun i => sN k (fun j => g i j)) = sN k (fun j => sN m (fun i => g i j)) := by
  intro m
  induction m with
  | zero => exact (sN_0 k).symm
  | succ m ih =>
    rw [sN, ih, ← sN_add]
    exact sN_cg k (fun j _ => rfl)
theorem sN_tail {g : Nat → Int} {m : Nat} : ∀ k : Nat, (∀ i, m ≤ i → i < m + k → g i = 0) → sN (m + k) g = sN m g := by
  intro k
  induction k with
  | zero => intro _; rfl
  | succ k ih =>
    intro h
    rw [← Nat.add_assoc, sN, ih (fun i h1 h2 => h i h1 (by omega)), h (m + k) (by omega) (by omega)]
    omega
theorem sN_le {g : Nat → Int} (h : ∀ i, 0 ≤ g i ∧ g i ≤ 1) : ∀ m : Nat, 0 ≤ sN m g ∧ sN m g ≤ m := by
  intro m
  induction m with
  | zero => exact ⟨Int.le_refl 0, Int.le_refl 0⟩
  | succ m ih => have := h m; rw [sN]; omega
theorem alk_sym {f : Int → Int} {a b s : Int} : alk f a b s ↔ alk f b a s := ⟨fun h k h0 h1 => (h k h0 h1).symm, fun h k h0 h1 => (h k h0 h1).symm⟩
def old (f : Int → Int) (a s : Int) : Prop := ∃ b, 0 ≤ b ∧ b < a ∧ alk f b a s
noncomputable def pw (f : Int → Int) (n a s : Int) : Int := b2 (a + s ≤ n ∧ ¬ old f a s)
/-- how many unlike pieces -/
noncomputable def pcs (f : Int → Int) (n : Int) : Int := sN n.toNat fun a => sN n.toNat fun s => pw f n a (s + 1)
section S4
variable {E : En} {d : Nat} {Φ : Option AV → Mm → Prop} {n : Int} {f : Int → Int} {μ : Mm}
theorem l84 {a s : Int} (hd : 2 ≤ d) (hR : RW μ n f) (ha : 0 ≤ a) (has : a + s ≤ n) (s0 : 0 ≤ s) (h : Φ (some (.inl (b2 (old f a s)))) μ) : ∀ (m : Nat) (k : Int), 0 ≤ k → k + m = a → (∀ j, 0 ≤ j → j < k → ¬ alk f j a s) →
    G E d 84 Φ 2 [some (.inr 50), some (.inl a), some (.inl s), some (.inl k)] [] μ := by
  have r3 := hR.2.2.1
  intro m
  induction m with
  | zero =>
    intro k h0 hm hall
    refine v84_2 (by omega) ⟨inR_of (by omega) (by omega), inR_of (by omega) (by omega), fun h1 => ff h ?_, fun h1 => by omega⟩
    rintro ⟨b, b0, b1, b2⟩
    exact hall b b0 (by omega) b2
  | succ m ih =>
    intro k h0 hm hall
    refine v84_2 (by omega) ⟨inR_of (by omega) (by omega), inR_of (by omega) (by omega), fun h1 => by omega, fun h1 => ?_⟩
    refine s85 (by omega) hR h0 ha (by omega) has (by omega) ⟨b2_in _, fun h2 => ih (k + 1) (by omega) (by omega) (fun j j0 j1 => ?_), fun h2 => ft h ⟨k, h0, h1, b2_ne0.mp h2⟩⟩
    by_cases hj : j = k
    · rw [hj]; exact b2_0.mp h2
    · exact hall j j0 (by omega)
theorem s84 {a s : Int} (hd : 2 ≤ d) (hR : RW μ n f) (ha : 0 ≤ a) (has : a + s ≤ n) (s0 : 0 ≤ s) (h : Φ (some (.inl (b2 (old f a s)))) μ) : Ct E d 84 [.inr 50, .inl a, .inl s] μ Φ :=
  v84 (by omega) (l84 hd hR ha has s0 h a.toNat 0 (by omega) (by omega) (fun j j0 j1 => by omega))
theorem l83b (hd : 3 ≤ d) (hR : RW μ n f) (a : Nat) (han : (a : Int) < n) : ∀ (m : Nat) (s : Nat) (x : Int), s + m = n.toNat → (s : Int) ≤ n - a →
    G E d 83 Φ 4 [some (.inr 50), some (.inl (x - sN s (fun s => pw f n a (s + 1)) + sN n.toNat (fun s => pw f n a (s + 1)))), some (.inl ((a : Int) + 1)), none] [] μ →
    G E d 83 Φ 10 [some (.inr 50), some (.inl x), some (.inl (a : Int)), some (.inl ((s : Int) + 1))] [] μ := by
  have r3 := hR.2.2.1
  intro m
  induction m with
  | zero =>
    intro s x hm hs h
    refine v83_10 (by omega) ?_
    rw [hR.1]
    refine ⟨inR_of (by omega) (by omega), inR_of (by omega) (by omega), fun h1 => ?_, fun h1 => by omega⟩
    rwa [show n.toNat = s by omega, show x - sN s (fun s => pw f n a (s + 1)) + sN s (fun s => pw f n a (s + 1)) = x by omega] at h
  | succ m ih =>
    intro s x hm hs h
    refine v83_10 (by omega) ?_
    rw [hR.1]
    refine ⟨inR_of (by omega) (by omega), inR_of (by omega) (by omega), fun h1 => ?_, fun h1 => ?_⟩
    · have e : sN n.toNat (fun s => pw f n a (s + 1)) = sN s (fun s => pw f n a (s + 1)) := by
        rw [show n.toNat = s + (m + 1) by omega]
        exact sN_tail _ (fun i i0 i1 => b2_f (by omega))
      rwa [e, show x - sN s (fun s => pw f n a (s + 1)) + sN s (fun s => pw f n a (s + 1)) = x by omega] at h
    · refine s84 (by omega) hR (by omega) h1 (by omega) ⟨b2_in _, fun h2 => ?_, fun h2 => ?_⟩
      · have e : pw f n a ((s : Int) + 1) = 0 := b2_f (fun hh => hh.2 (b2_ne0.mp h2))
        have := ih (s + 1) x (by omega) (by omega) (by rw [sN, e]; simpa using h)
        simpa using this
      · have e : pw f n a ((s : Int) + 1) = 1 := b2_t ⟨h1, b2_0.mp h2⟩
        have := ih (s + 1) (x + 1) (by omega) (by omega) (by rw [sN, e, show x + 1 - (sN s (fun s => pw f n a (s + 1)) + 1) = x - sN s (fun s => pw f n a (s + 1)) by omega]; exact h)
        simpa using this
theorem l83 (hd : 3 ≤ d) (hR : RW μ n f) (h : Φ (some (.inl (pcs f n))) μ) : ∀ (m : Nat) (a : Nat), a + m = n.toNat →
    G E d 83 Φ 4 [some (.inr 50), some (.inl (sN a fun a => sN n.toNat fun s => pw f n a (s + 1))), some (.inl (a : Int)), none] [] μ := by
  have r2 := hR.2.1
  have r3 := hR.2.2.1
  intro m
  induction m with
  | zero =>
    intro a hm
    refine v83_4 (by omega) ?_
    rw [hR.1]
    refine ⟨inR_of (by omega) (by omega), inR_of (by omega) (by omega), fun h1 => fe h ?_, fun h1 => by omega⟩
    unfold pcs; rw [show n.toNat = a by omega]
  | succ m ih =>
    intro a hm
    refine v83_4 (by omega) ?_
    rw [hR.1]
    refine ⟨inR_of (by omega) (by omega), inR_of (by omega) (by omega), fun h1 => by omega, fun h1 => ?_⟩
    have := l83b (Φ := Φ) hd hR a h1 n.toNat 0 (sN a fun a => sN n.toNat fun s => pw f n a (s + 1)) (by omega) (by omega) (by
      have := ih (a + 1) (by omega)
      rw [sN] at this
      rw [show sN 0 (fun s => pw f n a (s + 1)) = 0 from rfl, Int.sub_zero]
      simpa using this)
    simpa using this
theorem s83 (hd : 3 ≤ d) (hR : RW μ n f) (h : Φ (some (.inl (pcs f n))) μ) : Ct E d 83 [.inr 50] μ Φ :=
  v83 (by omega) (l83 hd hR h n.toNat 0 (by omega))
theorem l255c {s : Int} (hd : 2 ≤ d) (hR : RM μ n f) (a : Int) (ha : 0 ≤ a) (has : a + s ≤ n) (s0 : 1 ≤ s) (x : Int) (h : G E d 255 Φ 10 [some (.inr 123), some (.inl (x + b2 (¬ old f a s))), some (.inl s), some (.inl (a + 1)), none, none] [] μ) : ∀ (m : Nat) (k : Int), 0 ≤ k → k + m = a →
    G E d 255 Φ 20 [some (.inr 123), some (.inl x), some (.inl s), some (.inl a), some (.inl (b2 (∀ j, 0 ≤ j → j < k → ¬ alk f j a s))), some (.inl k)] [] μ := by
  have r3 := hR.2.2.1
  intro m
  induction m with
  | zero =>
    intro k h0 hm
    have e : b2 (∀ j, 0 ≤ j → j < k → ¬ alk f j a s) = b2 (¬ old f a s) := b2_c ⟨fun hh => fun ⟨b, b0, b1, b3⟩ => hh b b0 (by omega) b3, fun hh j j0 j1 j2 => hh ⟨j, j0, by omega, j2⟩⟩
    rw [e]
    refine v255_20 (by omega) ⟨inR_of (by omega) (by omega), inR_of (by omega) (by omega), fun h1 => ⟨b2_in _, fun h2 => ?_, fun h2 => ?_⟩, fun h1 => by omega⟩
    · rwa [h2, Int.add_zero] at h
    · rwa [b2_t (b2_ne0.mp h2)] at h
  | succ m ih =>
    intro k h0 hm
    refine v255_20 (by omega) ⟨inR_of (by omega) (by omega), inR_of (by omega) (by omega), fun h1 => by omega, fun h1 => ?_⟩
    refine s254 (by omega) hR ha h0 has (by omega) (by omega) ⟨b2_in _, fun h2 => ?_, fun h2 => ?_⟩
    · have := ih (k + 1) (by omega) (by omega)
      have e : b2 (∀ j, 0 ≤ j → j < k → ¬ alk f j a s) = b2 (∀ j, 0 ≤ j → j < k + 1 → ¬ alk f j a s) := b2_c ⟨fun hh j j0 j1 => by
        by_cases hj : j = k
        · rw [hj]; exact fun q => b2_0.mp h2 (alk_sym.mp q)
        · exact hh j j0 (by omega), fun hh j j0 j1 => hh j j0 (by omega)⟩
      rw [e]; exact this
    · have := ih (k + 1) (by omega) (by omega)
      rw [b2_f (fun hh => hh k h0 (by omega) (alk_sym.mp (b2_ne0.mp h2)))] at this
      exact this
theorem l255b (hd : 2 ≤ d) (hR : RM μ n f) (s : Nat) (hsn : (s : Int) < n) : ∀ (m : Nat) (a : Nat) (x : Int), a + m = n.toNat →
    G E d 255 Φ 4 [some (.inr 123), some (.inl (x - sN a (fun a => pw f n a (s + 1)) + sN n.toNat (fun a => pw f n a (s + 1)))), some (.inl ((s : Int) + 1 + 1)), none, none, none] [] μ →
    G E d 255 Φ 10 [some (.inr 123), some (.inl x), some (.inl ((s : Int) + 1)), some (.inl (a : Int)), none, none] [] μ := by
  have r3 := hR.2.2.1
  intro m
  induction m with
  | zero =>
    intro a x hm h
    refine v255_10 (by omega) ?_
    rw [hR.1]
    refine ⟨inR_of (by omega) (by omega), inR_of (by omega) (by omega), fun h1 => ?_, fun h1 => by omega⟩
    rwa [show n.toNat = a by omega, show x - sN a (fun a => pw f n a (s + 1)) + sN a (fun a => pw f n a (s + 1)) = x by omega] at h
  | succ m ih =>
    intro a x hm h
    refine v255_10 (by omega) ?_
    rw [hR.1]
    refine ⟨inR_of (by omega) (by omega), inR_of (by omega) (by omega), fun h1 => ?_, fun h1 => ?_⟩
    · have e : sN n.toNat (fun a => pw f n a (s + 1)) = sN a (fun a => pw f n a (s + 1)) := by
        rw [show n.toNat = a + (m + 1) by omega]
        exact sN_tail _ (fun i i0 i1 => b2_f (by omega))
      rwa [e, show x - sN a (fun a => pw f n a (s + 1)) + sN a (fun a => pw f n a (s + 1)) = x by omega] at h
    · have e0 : (1 : Int) = b2 (∀ j, 0 ≤ j → j < (0 : Int) → ¬ alk f j a (s + 1)) := (b2_t (fun j j0 j1 => by omega)).symm
      have e : pw f n a ((s : Int) + 1) = b2 (¬ old f a (s + 1)) := b2_c ⟨fun hh => hh.2, fun hh => ⟨h1, hh⟩⟩
      have g := ih (a + 1) (x + b2 (¬ old f a (s + 1))) (by omega) (by rw [sN, e, show x + b2 (¬ old f a (s + 1)) - (sN a (fun a => pw f n a (s + 1)) + b2 (¬ old f a (s + 1))) = x - sN a (fun a => pw f n a (s + 1)) by omega]; exact h)
      have key := l255c (Φ := Φ) hd hR a (by omega) h1 (by omega) x (by simpa using g) a 0 (by omega) (by omega)
      rw [← e0] at key
      exact key
theorem l255 (hd : 2 ≤ d) (hR : RM μ n f) (h : Φ (some (.inl (pcs f n))) μ) : ∀ (m : Nat) (s : Nat), s + m = n.toNat →
    G E d 255 Φ 4 [some (.inr 123), some (.inl (sN s fun s => sN n.toNat fun a => pw f n a (s + 1))), some (.inl ((s : Int) + 1)), none, none, none] [] μ := by
  have r2 := hR.2.1
  have r3 := hR.2.2.1
  intro m
  induction m with
  | zero =>
    intro s hm
    refine v255_4 (by omega) ?_
    rw [hR.1]
    refine ⟨inR_of (by omega) (by omega), inR_of (by omega) (by omega), fun h1 => fe h ?_, fun h1 => by omega⟩
    unfold pcs; rw [sN_swap, show n.toNat = s by omega]
  | succ m ih =>
    intro s hm
    refine v255_4 (by omega) ?_
    rw [hR.1]
    refine ⟨inR_of (by omega) (by omega), inR_of (by omega) (by omega), fun h1 => by omega, fun h1 => ?_⟩
    have := l255b (Φ := Φ) hd hR s (by omega) n.toNat 0 (sN s fun s => sN n.toNat fun a => pw f n a (s + 1)) (by omega) (by
      have := ih (s + 1) (by omega)
      rw [sN] at this
      rw [show sN 0 (fun a => pw f n a (s + 1)) = 0 from rfl, Int.sub_zero]
      simpa using this)
    simpa using this
theorem s255 (hd : 2 ≤ d) (hR : RM μ n f) (h : Φ (some (.inl (pcs f n))) μ) : Ct E d 255 [.inr 123] μ Φ :=
  v255 (by omega) (l255 hd hR h n.toNat 0 (by omega))
end S4
/-- row -/
noncomputable def rowV (f W : Int → Int) (n a : Int) : Int :=
  if a = 0 then pcs f n else if a = 1 then (if n = 0 then 0 else brd f n (n - 1).toNat) else if a = 2 then W n else if a = 3 then hdc f n 13 0 else -1
section S5
variable {E : En} {d : Nat} {Φ : Option AV → Mm → Prop} {n : Int} {f W : Int → Int} {μ : Mm}
theorem s135 {a : Int} (hd : 5 ≤ d) (ha : inR a) (hR : RW μ n f) (hW : isW f n W) (h : ∀ μ', Eo 54 μ μ' → Φ (some (.inl (rowV f W n a))) μ') : Ct E d 135 [.inr 0, .inl a] μ Φ := by
  unfold rowV at h
  refine v135 (by omega) ⟨ha, fun h1 => ?_, fun h1 => ?_, fun h1 => ?_, fun h1 => ?_, fun h1 h2 h3 h4 => ?_⟩
  · rw [if_pos h1] at h
    exact s83 (by omega) hR (h μ Eo.rf)
  · rw [if_neg (by omega), if_pos h1] at h
    exact s86 (by omega) hR (fun h0 => by rw [if_pos h0] at h; exact h μ Eo.rf) (fun h0 => by rw [if_neg (by omega)] at h; exact h μ Eo.rf)
  · rw [if_neg (by omega), if_neg (by omega), if_pos h1] at h
    exact s87 (by omega) hW hR h
  · rw [if_neg (by omega), if_neg (by omega), if_neg (by omega), if_pos h1] at h
    exact s89 (by omega) hR (h μ Eo.rf)
  · rw [if_neg h1, if_neg h2, if_neg h3, if_neg h4] at h
    exact h μ Eo.rf
theorem s262 {a : Int} (hd : 4 ≤ d) (ha : inR a) (hR : RM μ n f) (hW : isW f n W) (h : ∀ μ', Eo 148 (mu μ 123 0 0) μ' → Φ (some (.inl (rowV f W n a))) μ') : Ct E d 262 [.inr 123, .inl a] μ Φ := by
  unfold rowV at h
  have hR' : RM (mu μ 123 0 0) n f := ⟨by rw [mu_i (by omega)]; exact hR.1, hR.2.1, hR.2.2.1, fun i i0 i1 => by rw [mu_o (by decide)]; exact hR.2.2.2.1 i i0 i1, hR.2.2.2.2⟩
  refine v262 (by omega) ⟨ha, fun h1 => ⟨ha, fun h2 => ⟨ha, fun h3 => ⟨ha, fun h4 => ?_, fun h4 => ?_⟩, fun h3 => ?_⟩, fun h2 => ?_⟩, fun h1 => ?_⟩
  · rw [if_neg h1, if_neg h2, if_neg h3, if_neg h4] at h
    exact h _ Eo.rf
  · rw [if_neg h1, if_neg h2, if_neg h3, if_pos h4] at h
    exact s261 (by omega) hR' (h _ Eo.rf)
  · rw [if_neg h1, if_neg h2, if_pos h3] at h
    exact s258 (by omega) hW hR' h
  · rw [if_neg h1, if_pos h2] at h
    exact s256 (by omega) hR' (fun h0 => by rw [if_pos h0] at h; exact h _ Eo.rf) (fun h0 => by rw [if_neg (by omega)] at h; exact h _ Eo.rf)
  · rw [if_pos h1] at h
    exact s255 (by omega) hR' (h _ Eo.rf)
end S5
