/-! the reference's game -/
theorem WM.eo {o : Nat} {μ μ' : Mm} {q b c : Int} {L : Int → Int} {X : Int → Int → Int} (h : WM μ q b c L X) (e : Eo o μ μ') (h1 : (123 : Nat) ≠ o) (h2 : (138 : Nat) ≠ o) (h3 : (139 : Nat) ≠ o) : WM μ' q b c L X :=
  ⟨by rw [e _ _ h1]; exact h.1, h.2.1, h.2.2.1, fun i i0 i1 => by rw [e _ _ h2]; exact h.2.2.2.1 i i0 i1, fun i k i0 i1 k0 k1 => by rw [e _ _ h3]; exact h.2.2.2.2 i k i0 i1 k0 k1⟩
theorem WM.mu0 {μ : Mm} {q b c v k : Int} {L : Int → Int} {X : Int → Int → Int} (h : WM μ q b c L X) (hk : k ≠ q) : WM (mu μ 123 k v) q b c L X :=
  ⟨by rw [mu_i (Ne.symm hk)]; exact h.1, h.2.1, h.2.2.1, fun i i0 i1 => by rw [mu_o (by decide)]; exact h.2.2.2.1 i i0 i1, fun i j i0 i1 k0 k1 => by rw [mu_o (by decide)]; exact h.2.2.2.2 i j i0 i1 k0 k1⟩
def kd (L : Int → Int) (X : Int → Int → Int) (a : Int) (k : Nat) (i : Int) : Int := if L i ≤ 4 ∧ k ≤ L i ∧ pfx X i k = a then (if L i = k then 2 else 1) else 0
def kv (L : Int → Int) (X : Int → Int → Int) (a : Int) (k : Nat) : Nat → Int
  | 0 => 0
  | m + 1 => max (kv L X a k m) (kd L X a k m)
section S20
variable {E : En} {d : Nat} {Φ : Option AV → Mm → Prop} {μ : Mm} {c : Int} {L : Int → Int} {X : Int → Int → Int}
theorem kv_b {a : Int} {k : Nat} (hk : k ≤ 4) : ∀ m : Nat, 0 ≤ kv L X a k m ∧ kv L X a k m ≤ 2 ∧ (kv L X a k m = 2 ↔ wrd m L X a k) ∧ (1 ≤ kv L X a k m ↔ bgn m L X a k) := by
  intro m; induction m with
  | zero =>
    rw [kv]
    refine ⟨by omega, by omega, ⟨fun e => by omega, ?_⟩, ⟨fun e => by omega, ?_⟩⟩
    · rintro ⟨i, i0, i1, _⟩; omega
    · rintro ⟨i, i0, i1, _⟩; omega
  | succ m ih =>
    obtain ⟨i0, i1, i2, i3⟩ := ih
    have hd : (kd L X a k m = 0 ∧ ¬ (L m ≤ 4 ∧ k ≤ L m ∧ pfx X m k = a)) ∨ (kd L X a k m = 1 ∧ (L m ≤ 4 ∧ k ≤ L m ∧ pfx X m k = a) ∧ L m ≠ k) ∨ (kd L X a k m = 2 ∧ (L m ≤ 4 ∧ k ≤ L m ∧ pfx X m k = a) ∧ L m = k) := by
      unfold kd
      by_cases e : L m ≤ 4 ∧ k ≤ L m ∧ pfx X m k = a
      · rw [if_pos e]
        by_cases g : L m = k
        · rw [if_pos g]; exact Or.inr (Or.inr ⟨rfl, e, g⟩)
        · rw [if_neg g]; exact Or.inr (Or.inl ⟨rfl, e, g⟩)
      · rw [if_neg e]; exact Or.inl ⟨rfl, e⟩
    rw [kv]
    refine ⟨by omega, by omega, ⟨fun e => ?_, ?_⟩, ⟨fun e => ?_, ?_⟩⟩
    · by_cases g : kv L X a k m = 2
      · obtain ⟨i, j0, j1, j2⟩ := i2.mp g
        exact ⟨i, j0, by omega, j2⟩
      · rcases hd with h | h | h
        · omega
        · omega
        · exact ⟨m, by omega, by omega, h.2.2, h.2.1.2.2⟩
    · rintro ⟨i, j0, j1, j2, j3⟩
      by_cases g : i = m
      · rw [g] at j2 j3
        rcases hd with h | h | h
        · exact absurd ⟨by omega, by omega, j3⟩ h.2
        · exact absurd j2 h.2.2
        · omega
      · have := i2.mpr ⟨i, j0, by omega, j2, j3⟩; omega
    · by_cases g : 1 ≤ kv L X a k m
      · obtain ⟨i, j0, j1, j2⟩ := i3.mp g
        exact ⟨i, j0, by omega, j2⟩
      · rcases hd with h | h | h
        · omega
        · exact ⟨m, by omega, by omega, h.2.1⟩
        · exact ⟨m, by omega, by omega, h.2.1⟩
    · rintro ⟨i, j0, j1, j2⟩
      by_cases g : i = m
      · rw [g] at j2
        rcases hd with h | h | h
        · exact absurd j2 h.2
        · omega
        · omega
      · have := i3.mpr ⟨i, j0, by omega, j2⟩; omega
theorem l277_42 {a : Int} {k i : Nat} (hd : 2 ≤ d) (hk : k ≤ 3) (ha : inR a) (hW : WM μ 32 16 c L X) (i1 : (i : Int) < c) (h4 : L i ≤ 4) (hl : (k : Int) ≤ L i) (h : G E d 277 Φ 20 [some (.inr 123), some (.inl a), some (.inl (k : Int)), some (.inl (kv L X a k (i + 1))), some (.inl ((i : Int) + 1)), none, none, none] [] μ) : ∀ (m j : Nat), j + m = k →
    G E d 277 Φ 42 [some (.inr 123), some (.inl a), some (.inl (k : Int)), some (.inl (kv L X a k i)), some (.inl (i : Int)), some (.inl (L i)), some (.inl (pfx X i j)), some (.inl (j : Int))] [] μ := by
  have w3 := hW.2.2.1
  have kb := kv_b (L := L) (X := X) (a := a) (k := k) (by omega) i
  rw [kv, kd] at h
  intro m
  induction m with
  | zero =>
    intro j hj
    obtain rfl : j = k := by omega
    have pb := pfx_b (X := X) (i := i) (k := j) (by omega) (fun q j0 j1 => (hW.2.2.2.2 i q (by omega) (by omega) j0 (by omega)).2)
    refine v277_42 (by omega) ⟨inR_of (by omega) (by omega), inR_of (by omega) (by omega), fun _ => ⟨inR_of (by omega) (by omega), ha, fun h1 => ?_, fun h1 => ⟨inR_of (by omega) (by omega), inR_of (by omega) (by omega), fun h2 => s155 (by omega) (inR_of (by omega) (by omega)) (inR_of (by omega) (by omega)) ?_, fun h2 => s155 (by omega) (inR_of (by omega) (by omega)) (inR_of (by omega) (by omega)) ?_⟩⟩, fun h1 => by omega⟩
    · rw [if_neg (fun e => h1 e.2.2), Int.max_eq_left kb.1] at h
      exact h
    · rw [if_pos ⟨h4, hl, h1⟩, if_neg h2] at h
      exact h
    · rw [if_pos ⟨h4, hl, h1⟩, if_pos h2] at h
      exact h
  | succ m ih =>
    intro j hj
    have pb := pfx_b (X := X) (i := i) (k := j) (by omega) (fun q j0 j1 => (hW.2.2.2.2 i q (by omega) (by omega) j0 (by omega)).2)
    have wx := hW.2.2.2.2 i j (by omega) i1 (by omega) (by omega)
    refine v277_42 (by omega) ⟨inR_of (by omega) (by omega), inR_of (by omega) (by omega), fun h1 => by omega, fun _ => v210 (by omega) ⟨by omega, ?_⟩⟩
    rw [wx.1]
    have := ih (j + 1) (by omega)
    rw [pfx, show pfx X i j * 10 + X i j = 10 * pfx X i j + X i j by omega] at this
    exact this
theorem l277_20 {a : Int} {k : Nat} (hd : 2 ≤ d) (hk : k ≤ 3) (ha : inR a) (hW : WM μ 32 16 c L X) (h : Φ (some (.inl (kv L X a k c.toNat))) μ) : ∀ (m i : Nat), (i : Int) + m = c →
    G E d 277 Φ 20 [some (.inr 123), some (.inl a), some (.inl (k : Int)), some (.inl (kv L X a k i)), some (.inl (i : Int)), none, none, none] [] μ := by
  have w1 := hW.1
  have w3 := hW.2.2.1
  intro m
  induction m with
  | zero =>
    intro i hm
    refine v277_20 (by omega) ?_
    rw [w1]
    exact ⟨inR_of (by omega) (by omega), inR_of (by omega) (by omega), fun _ => fe h (by rw [show c.toNat = i by omega]), fun h1 => by omega⟩
  | succ m ih =>
    intro i hm
    have wl := hW.2.2.2.1 i (by omega) (by omega)
    have kb := kv_b (L := L) (X := X) (a := a) (k := k) (by omega) i
    have nx := ih (i + 1) (by omega)
    have sk : ¬ (L i ≤ 4 ∧ k ≤ L i) → G E d 277 Φ 20 [some (.inr 123), some (.inl a), some (.inl (k : Int)), some (.inl (kv L X a k i)), some (.inl ((i : Int) + 1)), none, none, none] [] μ := by
      intro e
      rw [kv, kd, if_neg (fun g => e ⟨g.1, g.2.1⟩), Int.max_eq_left kb.1] at nx
      exact nx
    refine v277_20 (by omega) ?_
    rw [w1, wl.1]
    refine ⟨inR_of (by omega) (by omega), inR_of (by omega) (by omega), fun h1 => by omega, fun _ => ⟨by omega, inR_of (by omega) (by omega), fun h1 => sk (by omega), fun h1 => ⟨inR_of (by omega) (by omega), inR_of (by omega) (by omega), fun h2 => ?_, fun h2 => sk (by omega)⟩⟩⟩
    exact l277_42 hd hk ha hW (by omega) h1 h2 nx k 0 (by omega)
theorem l277_4 {a : Int} {k : Nat} (hd : 2 ≤ d) (hk : k ≤ 3) (ha : inR a) (hW : WM μ 32 16 c L X) (h : Φ (some (.inl (kv L X a k c.toNat))) μ) : ∀ (m j x : Nat), j + m = k → 10 ^ m ≤ x → x < 2 * 10 ^ m →
    G E d 277 Φ 4 [some (.inr 123), some (.inl a), some (.inl (j : Int)), some (.inl (x : Int)), none, none, none, none] [] μ := by
  have w2 := hW.2.1
  intro m
  induction m with
  | zero =>
    intro j x hj x0 x1
    obtain rfl : j = k := by omega
    refine v277_4 (by omega) ⟨inR_of (by omega) (by omega), fun _ => ?_, fun h1 => by omega⟩
    exact l277_20 hd hk ha hW h c.toNat 0 (by omega)
  | succ m ih =>
    intro j x hj x0 x1
    have e := pw_le (k := m + 1) (j := 3) (by omega)
    have e0 : 0 < 10 ^ m := Nat.pow_pos (by omega)
    rw [Nat.pow_succ] at x0 x1 e
    refine v277_4 (by omega) ⟨inR_of (by omega) (by omega), fun h1 => by omega, fun _ => ?_⟩
    rw [dv10 (by omega)]
    exact ih (j + 1) (x / 10) (by omega) (by omega) (by omega)
theorem s277 {a : Int} {k : Nat} (hd : 2 ≤ d) (hk : k ≤ 3) (a0 : ((10 ^ k : Nat) : Int) ≤ a) (a1 : a < 2 * ((10 ^ k : Nat) : Int)) (hW : WM μ 32 16 c L X) (h : ∀ v, inR v → (v = 1 ↔ bgn c L X a k ∧ ¬ wrd c L X a k) → Φ (some (.inl v)) μ) : Ct E d 277 [.inr 123, .inl a] μ Φ := by
  have w2 := hW.2.1
  have e := pw_le (k := k) (j := 3) hk
  have kb := kv_b (L := L) (X := X) (a := a) (k := k) (by omega) c.toNat
  rw [show ((c.toNat : Nat) : Int) = c by omega] at kb
  have := l277_4 (E := E) (Φ := Φ) (a := a) hd hk (inR_of (by omega) (by omega)) hW (h _ (inR_of (by omega) (by omega)) ⟨fun q => ⟨kb.2.2.2.mp (by omega), fun w => by have := kb.2.2.1.mpr w; omega⟩, fun q => by
    have q1 := kb.2.2.2.mpr q.1
    have q2 : ¬ _ := fun w => q.2 (kb.2.2.1.mp w)
    omega⟩) k 0 a.toNat (by omega) (by omega) (by omega)
  rw [show ((a.toNat : Nat) : Int) = a by omega] at this
  exact v277 (by omega) this
/-- the reference's table: who wins -/
def TW (μ : Mm) (c : Int) (L : Int → Int) (X : Int → Int → Int) (t : Int) : Prop := ∀ (b : Int) (k : Nat), t < b → 1 ≤ k → k ≤ 3 → ((10 ^ k : Nat) : Int) ≤ b → b < 2 * ((10 ^ k : Nat) : Int) → μ 156 b = b2 (wl c L X (3 - k) b ≠ -1)
theorem s278 {a : Int} {r : Nat} (hd : 3 ≤ d) (hr : r ≤ 2) (a0 : ((10 ^ (2 - r) : Nat) : Int) ≤ a) (a1 : a < 2 * ((10 ^ (2 - r) : Nat) : Int)) (hW : WM μ 32 16 c L X) (hT : TW μ c L X a) (h : Φ (some (.inl (wl c L X (r + 1) a))) μ) : Ct E d 278 [.inr 123, .inl a] μ Φ := by
  have e := pw_le (k := 2 - r) (j := 2) (by omega)
  have e0 : 0 < 10 ^ (2 - r) := Nat.pow_pos (by omega)
  have ep : ((10 ^ (3 - r) : Nat) : Int) = 10 * ((10 ^ (2 - r) : Nat) : Int) := by
    rw [show 3 - r = (2 - r) + 1 by omega, Nat.pow_succ, Int.natCast_mul, Int.mul_comm]; rfl
  rw [wl] at h
  have key : ∀ (m : Nat) (x : Int), 0 ≤ x → x + m = 10 → Φ (some (.inl (fst (fun x => bgn c L X (a * 10 + x) (3 - r) ∧ ¬ wrd c L X (a * 10 + x) (3 - r) ∧ wl c L X r (a * 10 + x) = -1) m x))) μ → G E d 278 Φ 2 [some (.inr 123), some (.inl a), some (.inl x)] [] μ := by
    intro m
    induction m with
    | zero => intro x x0 hm hx; exact v278_2 (by omega) ⟨inR_of (by omega) (by omega), fun _ => hx, fun h1 => by omega⟩
    | succ m ih =>
      intro x x0 hm hx
      rw [fst] at hx
      have no : ¬ (bgn c L X (a * 10 + x) (3 - r) ∧ ¬ wrd c L X (a * 10 + x) (3 - r) ∧ wl c L X r (a * 10 + x) = -1) → G E d 278 Φ 2 [some (.inr 123), some (.inl a), some (.inl (x + 1))] [] μ := fun hn => ih (x + 1) (by omega) (by omega) (by rwa [if_neg hn] at hx)
      have tw := hT (a * 10 + x) (3 - r) (by omega) (by omega) (by omega) (by omega) (by omega)
      rw [show 3 - (3 - r) = r by omega] at tw
      refine v278_2 (by omega) ⟨inR_of (by omega) (by omega), fun h1 => by omega, fun _ => ?_⟩
      rw [show 10 * a + x = a * 10 + x by omega]
      refine s277 (k := 3 - r) (by omega) (by omega) (by omega) (by omega) hW (fun v hv v1 => ⟨hv, fun h1 => no (fun g => h1 (v1.mpr ⟨g.1, g.2.1⟩)), fun h1 => ⟨by omega, ?_⟩⟩)
      rw [tw]
      refine ⟨b2_in _, fun h2 => no (fun g => b2_ne0.mp h2 g.2.2), fun h2 => ?_⟩
      have h3 := v1.mp h1
      rw [if_pos ⟨h3.1, h3.2, Classical.not_not.mp (b2_0.mp h2)⟩] at hx
      exact hx
  exact v278 (by omega) (key 10 0 (by omega) (by omega) h)
theorem l279 {a : Int} {k : Nat} {μ0 : Mm} (hd : 4 ≤ d) (hk : k ≤ 3) (a0 : ((10 ^ k : Nat) : Int) ≤ a) (a1 : a < 2 * ((10 ^ k : Nat) : Int)) (h0W : WM μ0 32 16 c L X) (h : ∀ μ', Eo 156 μ0 μ' → Φ (some (.inl (wl c L X (3 - k) a))) μ') : ∀ (m : Nat) (t : Int) (μ : Mm), t = a + m → t ≤ 1999 → Eo 156 μ0 μ → TW μ c L X t →
    G E d 279 Φ 35 [some (.inr 123), some (.inl a), some (.inl t), none] [] μ := by
  have e := pw_le (k := k) (j := 3) hk
  have e0 : 0 < 10 ^ k := Nat.pow_pos (by omega)
  intro m
  induction m with
  | zero =>
    intro t μ ht t1 hE hT
    have hW := h0W.eo hE (by decide) (by decide) (by decide)
    obtain rfl : t = a := by omega
    refine v279_35 (by omega) ⟨inR_of (by omega) (by omega), inR_of (by omega) (by omega), fun _ => ⟨inR_of (by omega) (by omega), fun h1 => ?_, fun h1 => ?_⟩, fun h1 => by omega⟩
    · have k2 : k ≤ 2 := by
        rcases (by omega : k = 3 ∨ k ≤ 2) with q | q
        · rw [q] at a0; omega
        · exact q
      have ek : k = 2 - (2 - k) := by omega
      refine s278 (r := 2 - k) (by omega) (by omega) (by rw [← ek]; exact a0) (by rw [← ek]; exact a1) hW hT ?_
      rw [show 2 - k + 1 = 3 - k by omega]
      exact h μ hE
    · have k3 : k = 3 := by
        rcases (by omega : k = 3 ∨ k ≤ 2) with q | q
        · exact q
        · have := pw_le q; omega
      have := h μ hE
      rw [k3] at this
      exact this
  | succ m ih =>
    intro t μ ht t1 hE hT
    have hW := h0W.eo hE (by decide) (by decide) (by decide)
    have kk : ∀ x : Nat, x < 2147483648 → inR (x : Int) := fun x hx => inR_of (by omega) (by omega)
    have nx : ∀ v, (∀ k : Nat, 1 ≤ k → k ≤ 3 → ((10 ^ k : Nat) : Int) ≤ t → t < 2 * ((10 ^ k : Nat) : Int) → v = b2 (wl c L X (3 - k) t ≠ -1)) → G E d 279 Φ 35 [some (.inr 123), some (.inl a), some (.inl (t + -1)), none] [] (mu μ 156 t v) := by
      intro v hv
      refine ih _ _ (by omega) (by omega) hE.mu (fun b k hb k1 k3 b0 b1 => ?_)
      by_cases q : b = t
      · rw [q, mu_s]; rw [q] at b0 b1; exact hv k k1 k3 b0 b1
      · rw [mu_i q]; exact hT b k (by omega) k1 k3 b0 b1
    have run : ∀ r : Nat, r ≤ 1 → ((10 ^ (2 - r) : Nat) : Int) ≤ t → t < 2 * ((10 ^ (2 - r) : Nat) : Int) → Ct E (d - 1) 278 [.inr 123, .inl t] μ (rI fun z μ1 => inR z ∧ (z = -1 → (0 ≤ t ∧ t < 2000) ∧ G E d 279 Φ 35 [some (.inr 123), some (.inl a), some (.inl (t + -1)), none] [] (mu μ1 156 t 0)) ∧ (z ≠ -1 → (0 ≤ t ∧ t < 2000) ∧ G E d 279 Φ 35 [some (.inr 123), some (.inl a), some (.inl (t + -1)), none] [] (mu μ1 156 t 1))) := by
      intro r hr q0 q1
      have wb := wl_b (c := c) (L := L) (X := X) (r + 1) t
      have uq : ∀ j : Nat, ((10 ^ j : Nat) : Int) ≤ t → t < 2 * ((10 ^ j : Nat) : Int) → j = 2 - r := fun j j1 j2 => p10u j1 j2 q0 q1
      refine s278 (by omega) (by omega) q0 q1 hW hT ⟨inR_of (by omega) (by omega), fun h1 => ⟨by omega, nx 0 (fun k k1 k3 g0 g1 => ?_)⟩, fun h1 => ⟨by omega, nx 1 (fun k k1 k3 g0 g1 => ?_)⟩⟩
      · rw [uq k g0 g1, show 3 - (2 - r) = r + 1 by omega, b2_f (fun q => q h1)]
      · rw [uq k g0 g1, show 3 - (2 - r) = r + 1 by omega, b2_t h1]
    refine v279_35 (by omega) ⟨inR_of (by omega) (by omega), inR_of (by omega) (by omega), fun h1 => by omega, fun _ => ?_⟩
    have it : inR t := inR_of (by omega) (by omega)
    refine s153 (by omega) it (kk 1000 (by omega)) (kk 1999 (by omega)) ⟨b2_in _, fun h1 => ?_, fun h1 => ?_⟩
    · have h1 := b2_ne0.mp h1
      refine ⟨it, fun _ => ⟨by omega, nx 0 (fun k k1 k3 g0 g1 => ?_)⟩, fun h2 => by omega⟩
      have : k = 3 := p10u g0 g1 (by omega : ((10 ^ 3 : Nat) : Int) ≤ t) (by omega)
      rw [this, show 3 - 3 = 0 by omega, wl, b2_f (fun q => q rfl)]
    · have h1 := b2_0.mp h1
      refine s153 (by omega) it (kk 100 (by omega)) (kk 199 (by omega)) ⟨b2_in _, fun h2 => ?_, fun h2 => ?_⟩
      · have h2 := b2_ne0.mp h2
        exact ⟨it, fun h3 => by omega, fun _ => run 0 (by omega) (by omega) (by omega)⟩
      · have h2 := b2_0.mp h2
        refine s153 (by omega) it (kk 10 (by omega)) (kk 19 (by omega)) ⟨b2_in _, fun h3 => ?_, fun h3 => ?_⟩
        · have h3 := b2_0.mp h3
          refine ih _ _ (by omega) (by omega) hE (fun b k hb k1 k3 b0 b1 => ?_)
          by_cases q : b = t
          · rw [q] at b0 b1
            exfalso
            rcases (by omega : k = 1 ∨ k = 2 ∨ k = 3) with rfl | rfl | rfl <;> omega
          · exact hT b k (by omega) k1 k3 b0 b1
        · have h3 := b2_ne0.mp h3
          exact ⟨it, fun h4 => by omega, fun _ => run 1 (by omega) (by omega) (by omega)⟩
theorem s279 {a : Int} (hd : 5 ≤ d) (ha : inR a) (hW : WM μ 32 16 c L X) (h : ∀ z μ', gaZ c L X a z → Eo 156 (mu μ 123 0 0) μ' → Φ (some (.inl z)) μ') : Ct E d 279 [.inr 123, .inl a] μ Φ := by
  have kk : ∀ x : Nat, x < 2147483648 → inR (x : Int) := fun x hx => inR_of (by omega) (by omega)
  have hW' : WM (mu μ 123 0 0) 32 16 c L X := hW.mu0 (by decide)
  have go : ∀ k : Nat, k ≤ 3 → ((10 ^ k : Nat) : Int) ≤ a → a < 2 * ((10 ^ k : Nat) : Int) → Ct E (d - 1) 277 [.inr 123, .inl a] (mu μ 123 0 0) (rI fun z μ1 => inR z ∧ (z = 1 → G E d 279 Φ 35 [some (.inr 123), some (.inl a), some (.inl 1999), none] [] μ1) ∧ (z ≠ 1 → Φ (some (.inl (-1))) μ1)) := by
    intro k hk a0 a1
    have e := pw_le (k := k) (j := 3) hk
    refine s277 (by omega) hk a0 a1 hW' (fun v hv v1 => ⟨hv, fun h1 => ?_, fun h1 => h _ _ (Or.inr ⟨?_, rfl⟩) Eo.rf⟩)
    · refine l279 (E := E) (by omega) hk a0 a1 hW' (fun μ' e' => h _ μ' (Or.inl ⟨k, hk, a0, a1, (v1.mp h1).1, (v1.mp h1).2, rfl⟩) e') (1999 - a).toNat 1999 _ (by omega) (by omega) Eo.rf (fun b j hb j1 j3 b0 b1 => ?_)
      have := pw_le (k := j) (j := 3) j3
      omega
    · rintro ⟨j, j0, j1, j2, j3, j4⟩
      rw [p10u j1 j2 a0 a1] at j3 j4
      exact h1 (v1.mpr ⟨j3, j4⟩)
  refine v279 (by omega) ⟨ha, fun h1 => go 0 (by omega) (by omega) (by omega), fun h1 => s153 (by omega) ha (kk 10 (by omega)) (kk 19 (by omega)) ⟨b2_in _, fun h2 => ?_, fun h2 => s153 (by omega) ha (kk 100 (by omega)) (kk 199 (by omega)) ⟨b2_in _, fun h3 => ?_, fun h3 => s153 (by omega) ha (kk 1000 (by omega)) (kk 1999 (by omega)) ⟨b2_in _, fun h4 => ?_, fun h4 => h _ _ (Or.inr ⟨?_, rfl⟩) Eo.rf⟩⟩⟩⟩
  · have h2 := b2_ne0.mp h2; exact go 1 (by omega) (by omega) (by omega)
  · have h3 := b2_ne0.mp h3; exact go 2 (by omega) (by omega) (by omega)
  · have h4 := b2_ne0.mp h4; exact go 3 (by omega) (by omega) (by omega)
  · have h2 := b2_0.mp h2
    have h3 := b2_0.mp h3
    have h4 := b2_0.mp h4
    rintro ⟨j, j0, j1, j2, _⟩
    rcases (by omega : j = 0 ∨ j = 1 ∨ j = 2 ∨ j = 3) with rfl | rfl | rfl | rfl <;> omega
end S20
