/-! words -/
/-- words as the class has them: 36 (37 38 39) the jobs, 40 (41 42 43) the book -/
def WW (μ : Mm) (o : Nat) (c : Int) (L : Int → Int) (X : Int → Int → Int) : Prop := μ o 0 = c ∧ 0 ≤ c ∧ c ≤ 16 ∧ (∀ i, 0 ≤ i → i < c → μ (o + 2) i = L i ∧ 0 ≤ L i ∧ L i ≤ 8) ∧ ∀ i k, 0 ≤ i → i < c → 0 ≤ k → k < L i → μ (o + 3) (8 * i + k) = X i k ∧ 0 ≤ X i k ∧ X i k ≤ 9
/-- words as the reference has them, from a line on -/
def WM (μ : Mm) (q : Int) (b : Int) (c : Int) (L : Int → Int) (X : Int → Int → Int) : Prop := μ 123 q = c ∧ 0 ≤ c ∧ c ≤ 16 ∧ (∀ i, 0 ≤ i → i < c → μ 138 (b + i) = L i ∧ 0 ≤ L i ∧ L i ≤ 8) ∧ ∀ i k, 0 ≤ i → i < c → 0 ≤ k → k < L i → μ 139 (8 * (b + i) + k) = X i k ∧ 0 ≤ X i k ∧ X i k ≤ 9
/-- 1 and the first letters -/
def pfx (X : Int → Int → Int) (i : Int) : Nat → Int
  | 0 => 1
  | k + 1 => pfx X i k * 10 + X i k
def bgn (c : Int) (L : Int → Int) (X : Int → Int → Int) (b : Int) (k : Nat) : Prop := ∃ i, 0 ≤ i ∧ i < c ∧ L i ≤ 4 ∧ k ≤ L i ∧ pfx X i k = b
def wrd (c : Int) (L : Int → Int) (X : Int → Int → Int) (b : Int) (k : Nat) : Prop := ∃ i, 0 ≤ i ∧ i < c ∧ L i = k ∧ pfx X i k = b
noncomputable def fst (p : Int → Prop) : Nat → Int → Int
  | 0, _ => -1
  | m + 1, x => @ite Int (p x) (Classical.propDecidable _) x (fst p m (x + 1))
/-- the letter that wins, if so many more may be put -/
noncomputable def wl (c : Int) (L : Int → Int) (X : Int → Int → Int) : Nat → Int → Int
  | 0, _ => -1
  | r + 1, b => fst (fun x => bgn c L X (b * 10 + x) (3 - r) ∧ ¬ wrd c L X (b * 10 + x) (3 - r) ∧ wl c L X r (b * 10 + x) = -1) 10 0
/-- the answer to game -/
def gaZ (c : Int) (L : Int → Int) (X : Int → Int → Int) (a z : Int) : Prop := (∃ k : Nat, k ≤ 3 ∧ ((10 ^ k : Nat) : Int) ≤ a ∧ a < 2 * ((10 ^ k : Nat) : Int) ∧ bgn c L X a k ∧ ¬ wrd c L X a k ∧ z = wl c L X (3 - k) a) ∨ ((¬ ∃ k : Nat, k ≤ 3 ∧ ((10 ^ k : Nat) : Int) ≤ a ∧ a < 2 * ((10 ^ k : Nat) : Int) ∧ bgn c L X a k ∧ ¬ wrd c L X a k) ∧ z = -1)
theorem p10u {k j : Nat} {a : Int} (h1 : ((10 ^ k : Nat) : Int) ≤ a) (h2 : a < 2 * ((10 ^ k : Nat) : Int)) (g1 : ((10 ^ j : Nat) : Int) ≤ a) (g2 : a < 2 * ((10 ^ j : Nat) : Int)) : k = j := by
  rcases Nat.lt_trichotomy k j with h | h | h
  · have := p10 h; omega
  · exact h
  · have := p10 h; omega
section S19
variable {E : En} {d : Nat} {Φ : Option AV → Mm → Prop} {μ : Mm} {c : Int} {L : Int → Int} {X : Int → Int → Int}
theorem gaZ_u {a z w : Int} (h1 : gaZ c L X a z) (h2 : gaZ c L X a w) : z = w := by
  rcases h1 with ⟨k, k0, k1, k2, k3, k4, k5⟩ | ⟨k0, k1⟩
  · rcases h2 with ⟨j, j0, j1, j2, j3, j4, j5⟩ | ⟨j0, j1⟩
    · rw [k5, j5, p10u k1 k2 j1 j2]
    · exact absurd ⟨k, k0, k1, k2, k3, k4⟩ j0
  · rcases h2 with ⟨j, j0, j1, j2, j3, j4, j5⟩ | ⟨j0, j1⟩
    · exact absurd ⟨j, j0, j1, j2, j3, j4⟩ k0
    · rw [k1, j1]
theorem pfx_b {i : Int} {k : Nat} (hk : k ≤ 4) (hX : ∀ j : Int, 0 ≤ j → j < k → 0 ≤ X i j ∧ X i j ≤ 9) : 1 ≤ pfx X i k ∧ pfx X i k ≤ 19999 := by
  have h0 : 0 < k → _ := fun h => hX 0 (by omega) (by omega)
  have h1 : 1 < k → _ := fun h => hX 1 (by omega) (by omega)
  have h2 : 2 < k → _ := fun h => hX 2 (by omega) (by omega)
  have h3 : 3 < k → _ := fun h => hX 3 (by omega) (by omega)
  rcases (by omega : k = 0 ∨ k = 1 ∨ k = 2 ∨ k = 3 ∨ k = 4) with rfl | rfl | rfl | rfl | rfl
  · simp [pfx]
  · simp [pfx] at *; omega
  · simp [pfx] at *; omega
  · simp [pfx] at *; omega
  · simp [pfx] at *; omega
theorem s103 {i : Int} (hd : 1 ≤ d) (hi : inR i) (hW : WW μ 40 c L X) (h : Φ (some (.inl (b2 (0 ≤ i ∧ i < c)))) μ) : Ct E d 103 [.inr 40, .inl i] μ Φ := by
  obtain ⟨w1, w2, w3, _⟩ := hW
  refine v103_40 hd ?_
  rw [w1]
  exact ⟨hi, fun h1 => ff h (by omega), fun h1 => ⟨hi, inR_of (by omega) (by omega), fun h2 => ff h (by omega), fun h2 => ft h (by omega)⟩⟩
theorem s104 {i k : Int} (hd : 2 ≤ d) (hW : WW μ 40 c L X) (i0 : 0 ≤ i) (i1 : i < c) (k0 : 0 ≤ k) (k1 : k < L i) (h : Φ (some (.inl (X i k))) μ) : Ct E d 104 [.inr 40, .inl i, .inl k] μ Φ := by
  have w3 := hW.2.2.1
  have wl := hW.2.2.2.1 i i0 i1
  have wx := hW.2.2.2.2 i k i0 i1 k0 k1
  refine v104_40 (by omega) (s103 (by omega) (inR_of (by omega) (by omega)) hW ⟨b2_in _, fun h1 => absurd ⟨i0, i1⟩ (b2_0.mp h1), fun _ => ⟨inR_of (by omega) (by omega), fun h1 => by omega, fun _ => ⟨by omega, ?_⟩⟩⟩)
  have e1 : μ 42 i = L i := wl.1
  have e2 : μ 43 (i * 8 + k) = X i k := by rw [show i * 8 + k = 8 * i + k by omega]; exact wx.1
  rw [e1, e2]
  exact ⟨inR_of (by omega) (by omega), inR_of (by omega) (by omega), fun h1 => by omega, fun _ => ⟨by omega, h⟩⟩
theorem l110 {i : Int} {k : Nat} (hd : 3 ≤ d) (hW : WW μ 40 c L X) (i0 : 0 ≤ i) (i1 : i < c) (k1 : k ≤ L i) (h : Φ (some (.inl (pfx X i k))) μ) : ∀ (m j : Nat), j + m = k →
    G E d 110 Φ 4 [some (.inr 40), some (.inl i), some (.inl (k : Int)), some (.inl (pfx X i j)), some (.inl (j : Int))] [] μ := by
  have wl := hW.2.2.2.1 i i0 i1
  intro m
  induction m with
  | zero =>
    intro j hj
    obtain rfl : j = k := by omega
    exact v110_4 (by omega) ⟨inR_of (by omega) (by omega), inR_of (by omega) (by omega), fun _ => h, fun h1 => by omega⟩
  | succ m ih =>
    intro j hj
    refine v110_4 (by omega) ⟨inR_of (by omega) (by omega), inR_of (by omega) (by omega), fun h1 => by omega, fun _ => s104 (by omega) hW i0 i1 (by omega) (by omega) ?_⟩
    exact ih (j + 1) (by omega)
theorem s110 {i : Int} {k : Nat} (hd : 3 ≤ d) (hW : WW μ 40 c L X) (i0 : 0 ≤ i) (i1 : i < c) (k1 : k ≤ L i) (h : Φ (some (.inl (pfx X i k))) μ) : Ct E d 110 [.inr 40, .inl i, .inl (k : Int)] μ Φ :=
  v110 (by omega) (l110 hd hW i0 i1 k1 h k 0 (by omega))
theorem s108 {b : Int} {k : Nat} (hd : 4 ≤ d) (hb : inR b) (hk : k ≤ 4) (hW : WW μ 40 c L X) (h : Φ (some (.inl (b2 (bgn c L X b k)))) μ) : Ct E d 108 [.inr 40, .inl b, .inl (k : Int)] μ Φ := by
  have w1 := hW.1
  have w2 := hW.2.1
  have w3 := hW.2.2.1
  have key : ∀ (m : Nat) (i : Int), 0 ≤ i → i + m = c → (∀ j, 0 ≤ j → j < i → ¬ (L j ≤ 4 ∧ k ≤ L j ∧ pfx X j k = b)) → G E d 108 Φ 2 [some (.inr 40), some (.inl b), some (.inl (k : Int)), some (.inl i)] [] μ := by
    intro m
    induction m with
    | zero =>
      intro i i0 hm hall
      refine v108_2 (by omega) ?_
      rw [w1]
      refine ⟨inR_of (by omega) (by omega), inR_of (by omega) (by omega), fun _ => ff h ?_, fun h1 => by omega⟩
      rintro ⟨j, j0, j1, j2⟩
      exact hall j j0 (by omega) j2
    | succ m ih =>
      intro i i0 hm hall
      have wl := hW.2.2.2.1 i i0 (by omega)
      have e1 : μ 42 i = L i := wl.1
      have nx : ¬ (L i ≤ 4 ∧ k ≤ L i ∧ pfx X i k = b) → G E d 108 Φ 2 [some (.inr 40), some (.inl b), some (.inl (k : Int)), some (.inl (i + 1))] [] μ := fun hn => ih (i + 1) (by omega) (by omega) fun j j0 j1 => by
        by_cases e : j = i
        · rw [e]; exact hn
        · exact hall j j0 (by omega)
      refine v108_2 (by omega) ?_
      rw [w1, e1]
      refine ⟨inR_of (by omega) (by omega), inR_of (by omega) (by omega), fun h1 => by omega, fun _ => ⟨by omega, inR_of (by omega) (by omega), fun h1 => nx (by omega), fun h1 => ⟨by omega, inR_of (by omega) (by omega), inR_of (by omega) (by omega), fun h2 => nx (by omega), fun h2 => ?_⟩⟩⟩
      have pb := pfx_b (X := X) (i := i) hk (fun j j0 j1 => (hW.2.2.2.2 i j i0 (by omega) j0 (by omega)).2)
      refine s110 (by omega) hW i0 (by omega) h2 ⟨inR_of (by omega) (by omega), hb, fun h3 => nx (fun e => h3 e.2.2), fun h3 => ft h ⟨i, i0, by omega, h1, h2, h3⟩⟩
  exact v108 (by omega) (key c.toNat 0 (by omega) (by omega) (fun j j0 j1 => by omega))
theorem s109 {b : Int} {k : Nat} (hd : 4 ≤ d) (hb : inR b) (hk : k ≤ 4) (hW : WW μ 40 c L X) (h : Φ (some (.inl (b2 (wrd c L X b k)))) μ) : Ct E d 109 [.inr 40, .inl b, .inl (k : Int)] μ Φ := by
  have w1 := hW.1
  have w2 := hW.2.1
  have w3 := hW.2.2.1
  have key : ∀ (m : Nat) (i : Int), 0 ≤ i → i + m = c → (∀ j, 0 ≤ j → j < i → ¬ (L j = k ∧ pfx X j k = b)) → G E d 109 Φ 2 [some (.inr 40), some (.inl b), some (.inl (k : Int)), some (.inl i)] [] μ := by
    intro m
    induction m with
    | zero =>
      intro i i0 hm hall
      refine v109_2 (by omega) ?_
      rw [w1]
      refine ⟨inR_of (by omega) (by omega), inR_of (by omega) (by omega), fun _ => ff h ?_, fun h1 => by omega⟩
      rintro ⟨j, j0, j1, j2⟩
      exact hall j j0 (by omega) j2
    | succ m ih =>
      intro i i0 hm hall
      have wl := hW.2.2.2.1 i i0 (by omega)
      have e1 : μ 42 i = L i := wl.1
      have nx : ¬ (L i = k ∧ pfx X i k = b) → G E d 109 Φ 2 [some (.inr 40), some (.inl b), some (.inl (k : Int)), some (.inl (i + 1))] [] μ := fun hn => ih (i + 1) (by omega) (by omega) fun j j0 j1 => by
        by_cases e : j = i
        · rw [e]; exact hn
        · exact hall j j0 (by omega)
      refine v109_2 (by omega) ?_
      rw [w1, e1]
      refine ⟨inR_of (by omega) (by omega), inR_of (by omega) (by omega), fun h1 => by omega, fun _ => ⟨by omega, inR_of (by omega) (by omega), inR_of (by omega) (by omega), fun h1 => nx (by omega), fun h1 => ?_⟩⟩
      have pb := pfx_b (X := X) (i := i) hk (fun j j0 j1 => (hW.2.2.2.2 i j i0 (by omega) j0 (by omega)).2)
      refine s110 (by omega) hW i0 (by omega) (by omega) ⟨inR_of (by omega) (by omega), hb, fun h3 => nx (fun e => h3 e.2), fun h3 => ft h ⟨i, i0, by omega, h1, h3⟩⟩
  exact v109 (by omega) (key c.toNat 0 (by omega) (by omega) (fun j j0 j1 => by omega))
theorem fst_b {p : Int → Prop} : ∀ (m : Nat) (x : Int), 0 ≤ x → -1 ≤ fst p m x ∧ fst p m x ≤ x + m := by
  intro m; induction m with
  | zero => intro x h; rw [fst]; omega
  | succ m ih => intro x h; rw [fst]; have := ih (x + 1) (by omega); split <;> omega
theorem wl_b (r : Nat) (b : Int) : -1 ≤ wl c L X r b ∧ wl c L X r b ≤ 10 := by
  cases r with
  | zero => rw [wl]; omega
  | succ r => rw [wl]; have := fst_b (p := fun x => bgn c L X (b * 10 + x) (3 - r) ∧ ¬ wrd c L X (b * 10 + x) (3 - r) ∧ wl c L X r (b * 10 + x) = -1) 10 0 (by omega); omega
theorem s107 (hW : WW μ 40 c L X) : ∀ (r d : Nat) (b : Int) (Φ : Option AV → Mm → Prop), r ≤ 3 → 5 + r ≤ d → 0 ≤ b → b < 2 * ((10 ^ (3 - r) : Nat) : Int) → Φ (some (.inl (wl c L X r b))) μ → Ct E d 107 [.inr 40, .inl b, .inl ((3 - r : Nat) : Int)] μ Φ := by
  intro r
  induction r with
  | zero =>
    intro d b Φ hr hd b0 b1 h
    have hb : b < 2000 := b1
    rw [wl] at h
    refine v107 (by omega) ⟨inR_of (by omega) (by omega), fun _ => ?_, fun h1 => by omega⟩
    have key : ∀ (m : Nat) (x : Int), 0 ≤ x → x + m = 10 → G E d 107 Φ 7 [some (.inr 40), some (.inl b), some (.inl ((3 - 0 : Nat) : Int)), some (.inl x), none] [] μ := by
      intro m
      induction m with
      | zero => intro x x0 hm; exact v107_7 (by omega) ⟨inR_of (by omega) (by omega), fun _ => h, fun h1 => by omega⟩
      | succ m ih =>
        intro x x0 hm
        refine v107_7 (by omega) ⟨inR_of (by omega) (by omega), fun h1 => by omega, fun _ => ?_⟩
        refine s108 (k := 4) (by omega) (inR_of (by omega) (by omega)) (by omega) hW ⟨b2_in _, fun _ => ih (x + 1) (by omega) (by omega), fun h1 => ?_⟩
        refine s109 (k := 4) (by omega) (inR_of (by omega) (by omega)) (by omega) hW ⟨b2_in _, fun _ => ih (x + 1) (by omega) (by omega), fun h2 => ?_⟩
        obtain ⟨i, i0, i1, i2, i3, i4⟩ := b2_ne0.mp h1
        exact absurd ⟨i, i0, i1, by omega, i4⟩ (b2_0.mp h2)
    exact key 10 0 (by omega) (by omega)
  | succ r ihr =>
    intro d b Φ hr hd b0 b1 h
    have hb : b < 200 := by
      have := pw_le (k := 3 - (r + 1)) (j := 2) (by omega)
      omega
    have ek : ((3 - (r + 1) : Nat) : Int) + 1 = ((3 - r : Nat) : Int) := by omega
    have ep : ((10 ^ (3 - r) : Nat) : Int) = 10 * ((10 ^ (3 - (r + 1)) : Nat) : Int) := by
      rw [show 3 - r = (3 - (r + 1)) + 1 by omega, Nat.pow_succ, Int.natCast_mul, Int.mul_comm]; rfl
    rw [wl] at h
    refine v107 (by omega) ⟨inR_of (by omega) (by omega), fun _ => ?_, fun h1 => by omega⟩
    have key : ∀ (m : Nat) (x : Int), 0 ≤ x → x + m = 10 → Φ (some (.inl (fst (fun x => bgn c L X (b * 10 + x) (3 - r) ∧ ¬ wrd c L X (b * 10 + x) (3 - r) ∧ wl c L X r (b * 10 + x) = -1) m x))) μ → G E d 107 Φ 7 [some (.inr 40), some (.inl b), some (.inl ((3 - (r + 1) : Nat) : Int)), some (.inl x), none] [] μ := by
      intro m
      induction m with
      | zero => intro x x0 hm hx; exact v107_7 (by omega) ⟨inR_of (by omega) (by omega), fun _ => hx, fun h1 => by omega⟩
      | succ m ih =>
        intro x x0 hm hx
        rw [fst] at hx
        have no : ¬ (bgn c L X (b * 10 + x) (3 - r) ∧ ¬ wrd c L X (b * 10 + x) (3 - r) ∧ wl c L X r (b * 10 + x) = -1) → G E d 107 Φ 7 [some (.inr 40), some (.inl b), some (.inl ((3 - (r + 1) : Nat) : Int)), some (.inl (x + 1)), none] [] μ := fun hn => ih (x + 1) (by omega) (by omega) (by rwa [if_neg hn] at hx)
        refine v107_7 (by omega) ⟨inR_of (by omega) (by omega), fun h1 => by omega, fun _ => ?_⟩
        rw [ek]
        refine s108 (k := 3 - r) (by omega) (inR_of (by omega) (by omega)) (by omega) hW ⟨b2_in _, fun h1 => no (fun e => b2_0.mp h1 e.1), fun h1 => ?_⟩
        refine s109 (k := 3 - r) (by omega) (inR_of (by omega) (by omega)) (by omega) hW ⟨b2_in _, fun h2 => no (fun e => e.2.1 (b2_ne0.mp h2)), fun h2 => ?_⟩
        have wb := wl_b (c := c) (L := L) (X := X) r (b * 10 + x)
        refine ihr (d - 1) _ _ (by omega) (by omega) (by omega) (by omega) ⟨inR_of (by omega) (by omega), fun h3 => no (fun e => h3 e.2.2), fun h3 => ?_⟩
        rw [if_pos ⟨b2_ne0.mp h1, b2_0.mp h2, h3⟩] at hx
        exact hx
    exact key 10 0 (by omega) (by omega) h
theorem s106 {a : Int} (hd : 9 ≤ d) (ha : inR a) (hW : WW μ 40 c L X) (h : ∀ z, gaZ c L X a z → Φ (some (.inl z)) μ) : Ct E d 106 [.inr 40, .inl a] μ Φ := by
  have key : ∀ (m k : Nat), k + m = 4 → (∀ j : Nat, j < k → ¬ (((10 ^ j : Nat) : Int) ≤ a ∧ a < 2 * ((10 ^ j : Nat) : Int))) → G E d 106 Φ 4 [some (.inr 40), some (.inl a), some (.inl ((10 ^ k : Nat) : Int)), some (.inl (k : Int))] [] μ := by
    intro m
    induction m with
    | zero =>
      intro k hk hall
      refine v106_4 (by omega) ⟨inR_of (by omega) (by omega), fun _ => h _ (Or.inr ⟨?_, rfl⟩), fun h1 => by omega⟩
      rintro ⟨j, j0, j1, j2, _⟩
      exact hall j (by omega) ⟨j1, j2⟩
    | succ m ih =>
      intro k hk hall
      have g1 : 10 ^ k ≤ 1000 := pw_le (j := 3) (by omega)
      have g0 : 0 < 10 ^ k := Nat.pow_pos (by omega)
      have nx : ¬ (((10 ^ k : Nat) : Int) ≤ a ∧ a < 2 * ((10 ^ k : Nat) : Int)) → G E d 106 Φ 4 [some (.inr 40), some (.inl a), some (.inl (((10 ^ k : Nat) : Int) * 10)), some (.inl ((k : Int) + 1))] [] μ := by
        intro hno
        have := ih (k + 1) (by omega) (fun j kj => by
          by_cases e : j = k
          · rw [e]; exact hno
          · exact hall j (by omega))
        rw [Nat.pow_succ, show ((10 ^ k * 10 : Nat) : Int) = ((10 ^ k : Nat) : Int) * 10 by rw [Int.natCast_mul]; rfl, show ((k + 1 : Nat) : Int) = (k : Int) + 1 by omega] at this
        exact this
      refine v106_4 (by omega) ⟨inR_of (by omega) (by omega), fun h1 => by omega, fun _ => ⟨ha, inR_of (by omega) (by omega), fun h1 => nx (by omega), fun h1 => ⟨ha, inR_of (by omega) (by omega), fun h2 => nx (by omega), fun h2 => ?_⟩⟩⟩
      have uq : ∀ j : Nat, ((10 ^ j : Nat) : Int) ≤ a → a < 2 * ((10 ^ j : Nat) : Int) → j = k := fun j j1 j2 => p10u j1 j2 h1 h2
      refine s108 (by omega) ha (by omega) hW ⟨b2_in _, fun h3 => h _ (Or.inr ⟨?_, rfl⟩), fun h3 => s109 (by omega) ha (by omega) hW ⟨b2_in _, fun h4 => h _ (Or.inr ⟨?_, rfl⟩), fun h4 => ?_⟩⟩
      · rintro ⟨j, j0, j1, j2, j3, j4⟩
        rw [uq j j1 j2] at j3
        exact b2_0.mp h3 j3
      · rintro ⟨j, j0, j1, j2, j3, j4⟩
        rw [uq j j1 j2] at j4
        exact j4 (b2_ne0.mp h4)
      · have e3 : k = 3 - (3 - k) := by omega
        have := s107 (E := E) hW (3 - k) (d - 1) a (rI fun z6 μ5 => Φ (some (.inl z6)) μ5) (by omega) (by omega) (by omega) (by rw [← e3]; exact h2) (h _ (Or.inl ⟨k, by omega, h1, h2, b2_ne0.mp h3, b2_0.mp h4, rfl⟩))
        rw [← e3] at this
        exact this
  exact v106 (by omega) (key 4 0 (by omega) (fun j hj => by omega))
theorem s148 {a : Int} (hd : 10 ≤ d) (ha : inR a) (hW : WW μ 40 c L X) (h : ∀ z, gaZ c L X a z → Φ (some (.inl z)) μ) : Ct E d 148 [.inr 0, .inl a] μ Φ :=
  v148 (by omega) (s106 (by omega) ha hW h)
end S19
