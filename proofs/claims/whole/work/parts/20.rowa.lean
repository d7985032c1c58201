/-! rows of letters: what both sides hold -/
def RW (μ : Mm) (n : Int) (f : Int → Int) : Prop := μ 50 1 = n ∧ 0 ≤ n ∧ n ≤ 12 ∧ (∀ i, 0 ≤ i → i < n → μ 51 i = f i) ∧ ∀ i, 0 ≤ i → i < n → 0 ≤ f i ∧ f i ≤ 9
def RM (μ : Mm) (n : Int) (f : Int → Int) : Prop := μ 123 42 = n ∧ 0 ≤ n ∧ n ≤ 12 ∧ (∀ i, 0 ≤ i → i < n → μ 146 i = f i) ∧ ∀ i, 0 ≤ i → i < n → 0 ≤ f i ∧ f i ≤ 9
theorem ft {p : Prop} {Φ : Option AV → Mm → Prop} {μ : Mm} (h : Φ (some (.inl (b2 p))) μ) (hp : p) : Φ (some (.inl 1)) μ := by rwa [b2_t hp] at h
theorem ff {p : Prop} {Φ : Option AV → Mm → Prop} {μ : Mm} (h : Φ (some (.inl (b2 p))) μ) (hp : ¬ p) : Φ (some (.inl 0)) μ := by rwa [b2_f hp] at h
theorem fe {x y : Int} {Φ : Option AV → Mm → Prop} {μ : Mm} (h : Φ (some (.inl x)) μ) (e : x = y) : Φ (some (.inl y)) μ := e ▸ h
theorem nlt0 {x : Int} {p : Prop} (h : x.toNat < 0) : p := absurd h (Nat.not_lt_zero _)
/-! small helpers of the reference -/
section S0
variable {E : En} {d : Nat} {Φ : Option AV → Mm → Prop} {μ : Mm}
theorem s153 {a b c : Int} (hd : 1 ≤ d) (ha : inR a) (hb : inR b) (hc : inR c) (h : Φ (some (.inl (b2 (b ≤ a ∧ a ≤ c)))) μ) : Ct E d 153 [.inr 123, .inl a, .inl b, .inl c] μ Φ :=
  v153 hd ⟨ha, hb, fun h1 => ff h (by omega), fun h1 => ⟨ha, hc, fun h2 => ff h (by omega), fun h2 => ft h (by omega)⟩⟩
theorem s155 {a b : Int} (hd : 1 ≤ d) (ha : inR a) (hb : inR b) (h : Φ (some (.inl (max a b))) μ) : Ct E d 155 [.inr 123, .inl a, .inl b] μ Φ :=
  v155 hd ⟨ha, hb, fun h1 => fe h (by omega), fun h1 => fe h (by omega)⟩
theorem s156 {a b : Int} (hd : 1 ≤ d) (ha : inR a) (hb : inR b) (h : Φ (some (.inl (min a b))) μ) : Ct E d 156 [.inr 123, .inl a, .inl b] μ Φ :=
  v156 hd ⟨ha, hb, fun h1 => fe h (by omega), fun h1 => fe h (by omega)⟩
theorem s166 {a : Int} (hd : 1 ≤ d) (ha : inR a) (h : Φ (some (.inl (b2 (0 ≤ a ∧ a < 10)))) μ) : Ct E d 166 [.inr 123, .inl a] μ Φ :=
  v166 hd ⟨ha, fun h1 => ff h (by omega), fun h1 => ⟨ha, fun h2 => ff h (by omega), fun h2 => ft h (by omega)⟩⟩
theorem s152 {a : Int} (hd : 1 ≤ d) (ha : inR a) (h : Φ (some (.inl (b2 (0 ≤ a ∧ a < 10)))) μ) : Ct E d 152 [.inl a] μ Φ :=
  v152 hd ⟨ha, fun h1 => ff h (by omega), fun h1 => ⟨ha, fun h2 => ff h (by omega), fun h2 => ft h (by omega)⟩⟩
end S0
/-! alike pieces; mirrors; less than an end; heads -/
def alk (f : Int → Int) (a b s : Int) : Prop := ∀ k, 0 ≤ k → k < s → f (a + k) = f (b + k)
def mir (f : Int → Int) (a b : Int) : Prop := ∀ k, 0 ≤ k → a + k < b - 1 - k → f (a + k) = f (b - 1 - k)
def lsp (f : Int → Int) (a e t : Int) : Prop := ∃ k, 0 ≤ k ∧ e + k < t ∧ (∀ j, 0 ≤ j → j < k → f (a + j) = f (e + j)) ∧ f (a + k) < f (e + k)
def hdp (f : Int → Int) (a t : Int) : Prop := ∀ e, a < e → e < t → lsp f a e t
section S1
variable {E : En} {d : Nat} {Φ : Option AV → Mm → Prop} {μ : Mm} {n : Int} {f : Int → Int}
theorem l85 {a b s : Int} (hd : 1 ≤ d) (hR : RW μ n f) (ha : 0 ≤ a) (hb : 0 ≤ b) (has : a + s ≤ n) (hbs : b + s ≤ n) (h : Φ (some (.inl (b2 (alk f a b s)))) μ) : ∀ (m : Nat) (k : Int), 0 ≤ k → (s - k).toNat < m → (∀ j, 0 ≤ j → j < k → f (a + j) = f (b + j)) → s ≤ 12 → -12 ≤ s → k ≤ 13 →
    G E d 85 Φ 2 [some (.inr 50), some (.inl a), some (.inl b), some (.inl s), some (.inl k)] [] μ := by
  obtain ⟨r1, r2, r3, r4, r5⟩ := hR
  intro m
  induction m with
  | zero => intro k _ hm; exact nlt0 hm
  | succ m ih =>
    intro k h0 hm hall s1 s2 s3
    refine v85_2 hd ⟨inR_of (by omega) (by omega), inR_of (by omega) (by omega), fun h1 => ?_, fun h1 => ?_⟩
    · exact ft h (fun j g1 g2 => hall j g1 (by omega))
    · have g1 := r5 (a + k) (by omega) (by omega)
      have g2 := r5 (b + k) (by omega) (by omega)
      rw [r4 (a + k) (by omega) (by omega), r4 (b + k) (by omega) (by omega)]
      refine ⟨by omega, by omega, inR_of (by omega) (by omega), inR_of (by omega) (by omega), fun h2 => ih (k + 1) (by omega) (by omega) (fun j g3 g4 => ?_) s1 s2 (by omega), fun h2 => ff h (fun hh => h2 (hh k h0 h1))⟩
      by_cases hj : j = k
      · rw [hj]; exact h2
      · exact hall j g3 (by omega)
theorem s85 {a b s : Int} (hd : 1 ≤ d) (hR : RW μ n f) (ha : 0 ≤ a) (hb : 0 ≤ b) (has : a + s ≤ n) (hbs : b + s ≤ n) (hs : -12 ≤ s) (h : Φ (some (.inl (b2 (alk f a b s)))) μ) : Ct E d 85 [.inr 50, .inl a, .inl b, .inl s] μ Φ :=
  v85 hd (l85 hd hR ha hb has hbs h _ 0 (by omega) (Nat.lt_succ_self _) (fun j g1 g2 => by omega) (by have := hR.2.2.1; omega) hs (by omega))
theorem l88 {a b : Int} (hd : 1 ≤ d) (hR : RW μ n f) (ha : 0 ≤ a) (hb : 0 ≤ b) (ha2 : a ≤ 12) (hbs : b ≤ n) (h : Φ (some (.inl (b2 (mir f a b)))) μ) : ∀ (m : Nat) (k : Int), 0 ≤ k → (13 - k).toNat < m → (∀ j, 0 ≤ j → j < k → a + j < b - 1 - j → f (a + j) = f (b - 1 - j)) → k ≤ 13 →
    G E d 88 Φ 2 [some (.inr 50), some (.inl a), some (.inl b), some (.inl k)] [] μ := by
  obtain ⟨r1, r2, r3, r4, r5⟩ := hR
  intro m
  induction m with
  | zero => intro k _ hm; exact nlt0 hm
  | succ m ih =>
    intro k h0 hm hall s3
    refine v88_2 hd ⟨inR_of (by omega) (by omega), inR_of (by omega) (by omega), fun h1 => ?_, fun h1 => ?_⟩
    · exact ft h (fun j g1 g2 => hall j g1 (by omega) g2)
    · have g1 := r5 (a + k) (by omega) (by omega)
      have g2 := r5 (b - 1 - k) (by omega) (by omega)
      rw [r4 (a + k) (by omega) (by omega), r4 (b - 1 - k) (by omega) (by omega)]
      refine ⟨by omega, by omega, inR_of (by omega) (by omega), inR_of (by omega) (by omega), fun h2 => ih (k + 1) (by omega) (by omega) (fun j g3 g4 g5 => ?_) (by omega), fun h2 => ff h (fun hh => h2 (hh k h0 h1))⟩
      by_cases hj : j = k
      · rw [hj]; exact h2
      · exact hall j g3 (by omega) g5
theorem s88 {a b : Int} (hd : 1 ≤ d) (hR : RW μ n f) (ha : 0 ≤ a) (hb : 0 ≤ b) (ha2 : a ≤ 12) (hbs : b ≤ n) (h : Φ (some (.inl (b2 (mir f a b)))) μ) : Ct E d 88 [.inr 50, .inl a, .inl b] μ Φ :=
  v88 hd (l88 hd hR ha hb ha2 hbs h _ 0 (by omega) (Nat.lt_succ_self _) (fun j g1 g2 => by omega) (by omega))

theorem l254 {a b s : Int} (hd : 1 ≤ d) (hR : RM μ n f) (ha : 0 ≤ a) (hb : 0 ≤ b) (has : a + s ≤ n) (hbs : b + s ≤ n) (h : Φ (some (.inl (b2 (alk f a b s)))) μ) : ∀ (m : Nat) (k : Int), 0 ≤ k → (s - k).toNat < m → (∀ j, 0 ≤ j → j < k → f (a + j) = f (b + j)) → s ≤ 12 → -12 ≤ s → k ≤ 13 →
    G E d 254 Φ 2 [some (.inr 123), some (.inl a), some (.inl b), some (.inl s), some (.inl k)] [] μ := by
  obtain ⟨r1, r2, r3, r4, r5⟩ := hR
  intro m
  induction m with
  | zero => intro k _ hm; exact nlt0 hm
  | succ m ih =>
    intro k h0 hm hall s1 s2 s3
    refine v254_2 hd ⟨inR_of (by omega) (by omega), inR_of (by omega) (by omega), fun h1 => ?_, fun h1 => ?_⟩
    · exact ft h (fun j g1 g2 => hall j g1 (by omega))
    · have g1 := r5 (a + k) (by omega) (by omega)
      have g2 := r5 (b + k) (by omega) (by omega)
      rw [r4 (a + k) (by omega) (by omega), r4 (b + k) (by omega) (by omega)]
      refine ⟨by omega, by omega, inR_of (by omega) (by omega), inR_of (by omega) (by omega), fun h2 => ih (k + 1) (by omega) (by omega) (fun j g3 g4 => ?_) s1 s2 (by omega), fun h2 => ff h (fun hh => h2 (hh k h0 h1))⟩
      by_cases hj : j = k
      · rw [hj]; exact h2
      · exact hall j g3 (by omega)
theorem s254 {a b s : Int} (hd : 1 ≤ d) (hR : RM μ n f) (ha : 0 ≤ a) (hb : 0 ≤ b) (has : a + s ≤ n) (hbs : b + s ≤ n) (hs : -12 ≤ s) (h : Φ (some (.inl (b2 (alk f a b s)))) μ) : Ct E d 254 [.inr 123, .inl a, .inl b, .inl s] μ Φ :=
  v254 hd (l254 hd hR ha hb has hbs h _ 0 (by omega) (Nat.lt_succ_self _) (fun j g1 g2 => by omega) (by have := hR.2.2.1; omega) hs (by omega))
theorem l257 {a b : Int} (hd : 1 ≤ d) (hR : RM μ n f) (ha : 0 ≤ a) (hb : 0 ≤ b) (ha2 : a ≤ 12) (hbs : b ≤ n) (h : Φ (some (.inl (b2 (mir f a b)))) μ) : ∀ (m : Nat) (k : Int), 0 ≤ k → (13 - k).toNat < m → (∀ j, 0 ≤ j → j < k → a + j < b - 1 - j → f (a + j) = f (b - 1 - j)) → k ≤ 13 →
    G E d 257 Φ 2 [some (.inr 123), some (.inl a), some (.inl b), some (.inl k)] [] μ := by
  obtain ⟨r1, r2, r3, r4, r5⟩ := hR
  intro m
  induction m with
  | zero => intro k _ hm; exact nlt0 hm
  | succ m ih =>
    intro k h0 hm hall s3
    refine v257_2 hd ⟨inR_of (by omega) (by omega), inR_of (by omega) (by omega), fun h1 => ?_, fun h1 => ?_⟩
    · exact ft h (fun j g1 g2 => hall j g1 (by omega) g2)
    · have g1 := r5 (a + k) (by omega) (by omega)
      have g2 := r5 (b - 1 - k) (by omega) (by omega)
      rw [r4 (a + k) (by omega) (by omega), r4 (b - 1 - k) (by omega) (by omega)]
      refine ⟨by omega, by omega, inR_of (by omega) (by omega), inR_of (by omega) (by omega), fun h2 => ih (k + 1) (by omega) (by omega) (fun j g3 g4 g5 => ?_) (by omega), fun h2 => ff h (fun hh => h2 (hh k h0 h1))⟩
      by_cases hj : j = k
      · rw [hj]; exact h2
      · exact hall j g3 (by omega) g5
theorem s257 {a b : Int} (hd : 1 ≤ d) (hR : RM μ n f) (ha : 0 ≤ a) (hb : 0 ≤ b) (ha2 : a ≤ 12) (hbs : b ≤ n) (h : Φ (some (.inl (b2 (mir f a b)))) μ) : Ct E d 257 [.inr 123, .inl a, .inl b] μ Φ :=
  v257 hd (l257 hd hR ha hb ha2 hbs h _ 0 (by omega) (Nat.lt_succ_self _) (fun j g1 g2 => by omega) (by omega))
theorem l92 {a s l : Int} (hd : 1 ≤ d) (hR : RW μ n f) (ha : 0 ≤ a) (hl : 0 ≤ l) (hs : a + s ≤ n) (hl2 : l ≤ 12) (h : Φ (some (.inl (b2 (lsp f a (a + l) (a + s))))) μ) : ∀ (m : Nat) (k : Int), 0 ≤ k → (13 - k).toNat < m → (∀ j, 0 ≤ j → j < k → f (a + j) = f (a + l + j)) → k ≤ 13 → -12 ≤ s → a ≤ 12 →
    G E d 92 Φ 2 [some (.inr 50), some (.inl a), some (.inl s), some (.inl l), some (.inl k), none, none] [] μ := by
  obtain ⟨r1, r2, r3, r4, r5⟩ := hR
  intro m
  induction m with
  | zero => intro k _ hm; exact nlt0 hm
  | succ m ih =>
    intro k h0 hm hall s3 s4 s5
    refine v92_2 hd ⟨inR_of (by omega) (by omega), inR_of (by omega) (by omega), fun h1 => ?_, fun h1 => ?_⟩
    · refine ff h ?_
      rintro ⟨j, j0, j1, j2, j3⟩
      rw [hall j j0 (by omega)] at j3
      exact absurd j3 (Int.lt_irrefl _)
    · have g1 := r5 (a + k) (by omega) (by omega)
      have g2 := r5 (a + l + k) (by omega) (by omega)
      rw [r4 (a + k) (by omega) (by omega), r4 (a + l + k) (by omega) (by omega)]
      refine ⟨by omega, by omega, inR_of (by omega) (by omega), inR_of (by omega) (by omega), fun h2 => ih (k + 1) (by omega) (by omega) (fun j g3 g4 => ?_) (by omega) s4 s5, fun h2 => ⟨inR_of (by omega) (by omega), inR_of (by omega) (by omega), fun h3 => ff h ?_, fun h3 => ft h ⟨k, h0, by omega, hall, h3⟩⟩⟩
      · by_cases hj : j = k
        · rw [hj]; exact h2
        · exact hall j g3 (by omega)
      · rintro ⟨j, j0, j1, j2, j3⟩
        rcases Int.lt_trichotomy j k with g | g | g
        · rw [hall j j0 g] at j3; exact absurd j3 (Int.lt_irrefl _)
        · rw [g] at j3; omega
        · exact h2 (j2 k h0 g)
theorem s92 {a s l : Int} (hd : 1 ≤ d) (hR : RW μ n f) (ha : 0 ≤ a) (hl : 0 ≤ l) (hs : a + s ≤ n) (hl2 : l ≤ 12) (s4 : -12 ≤ s) (s5 : a ≤ 12) (h : Φ (some (.inl (b2 (lsp f a (a + l) (a + s))))) μ) : Ct E d 92 [.inr 50, .inl a, .inl s, .inl l] μ Φ :=
  v92 hd (l92 hd hR ha hl hs hl2 h _ 0 (by omega) (Nat.lt_succ_self _) (fun j g1 g2 => by omega) (by omega) s4 s5)
theorem l259 {a t l : Int} (hd : 1 ≤ d) (hR : RM μ n f) (ha : 0 ≤ a) (hl : a ≤ l) (hs : t ≤ n) (hl2 : l ≤ 12) (h : Φ (some (.inl (b2 (lsp f a l t)))) μ) : ∀ (m : Nat) (k : Int), 0 ≤ k → (13 - k).toNat < m → (∀ j, 0 ≤ j → j < k → f (a + j) = f (l + j)) → k ≤ 13 → 0 ≤ t → a ≤ 12 →
    G E d 259 Φ 2 [some (.inr 123), some (.inl a), some (.inl t), some (.inl l), some (.inl k)] [] μ := by
  obtain ⟨r1, r2, r3, r4, r5⟩ := hR
  intro m
  induction m with
  | zero => intro k _ hm; exact nlt0 hm
  | succ m ih =>
    intro k h0 hm hall s3 s4 s5
    refine v259_2 hd ⟨inR_of (by omega) (by omega), inR_of (by omega) (by omega), fun h1 => ?_, fun h1 => ?_⟩
    · refine ff h ?_
      rintro ⟨j, j0, j1, j2, j3⟩
      rw [hall j j0 (by omega)] at j3
      exact absurd j3 (Int.lt_irrefl _)
    · have g1 := r5 (a + k) (by omega) (by omega)
      have g2 := r5 (l + k) (by omega) (by omega)
      rw [r4 (a + k) (by omega) (by omega), r4 (l + k) (by omega) (by omega)]
      refine ⟨by omega, by omega, inR_of (by omega) (by omega), inR_of (by omega) (by omega), fun h2 => ih (k + 1) (by omega) (by omega) (fun j g3 g4 => ?_) (by omega) s4 s5, fun h2 => ⟨by omega, by omega, inR_of (by omega) (by omega), inR_of (by omega) (by omega), fun h3 => ff h ?_, fun h3 => ft h ⟨k, h0, by omega, hall, h3⟩⟩⟩
      · by_cases hj : j = k
        · rw [hj]; exact h2
        · exact hall j g3 (by omega)
      · rintro ⟨j, j0, j1, j2, j3⟩
        rcases Int.lt_trichotomy j k with g | g | g
        · rw [hall j j0 g] at j3; exact absurd j3 (Int.lt_irrefl _)
        · rw [g] at j3; omega
        · exact h2 (j2 k h0 g)
theorem s259 {a t l : Int} (hd : 1 ≤ d) (hR : RM μ n f) (ha : 0 ≤ a) (hl : a ≤ l) (hs : t ≤ n) (hl2 : l ≤ 12) (s4 : 0 ≤ t) (s5 : a ≤ 12) (h : Φ (some (.inl (b2 (lsp f a l t)))) μ) : Ct E d 259 [.inr 123, .inl a, .inl t, .inl l] μ Φ :=
  v259 hd (l259 hd hR ha hl hs hl2 h _ 0 (by omega) (Nat.lt_succ_self _) (fun j g1 g2 => by omega) (by omega) s4 s5)
theorem l91 {a s : Int} (hd : 2 ≤ d) (hR : RW μ n f) (ha : 0 ≤ a) (hs : a + s ≤ n) (s0 : 0 ≤ s) (h : Φ (some (.inl (b2 (hdp f a (a + s))))) μ) : ∀ (m : Nat) (k : Int), 1 ≤ k → (s - k).toNat < m → (∀ j, 1 ≤ j → j < k → lsp f a (a + j) (a + s)) → k ≤ 13 →
    G E d 91 Φ 2 [some (.inr 50), some (.inl a), some (.inl s), some (.inl k)] [] μ := by
  have r3 := hR.2.2.1
  intro m
  induction m with
  | zero => intro k _ hm; exact nlt0 hm
  | succ m ih =>
    intro k h0 hm hall s3
    refine v91_2 (by omega) ⟨inR_of (by omega) (by omega), inR_of (by omega) (by omega), fun h1 => ?_, fun h1 => ?_⟩
    · refine ft h (fun e g1 g2 => ?_)
      have := hall (e - a) (by omega) (by omega)
      rwa [show a + (e - a) = e by omega] at this
    · refine s92 (by omega) hR ha (by omega) hs (by omega) (by omega) (by omega) ?_
      refine ⟨b2_in _, fun h2 => ih (k + 1) (by omega) (by omega) (fun j g3 g4 => ?_) (by omega), fun h2 => ff h (fun hh => b2_0.mp h2 (hh (a + k) (by omega) (by omega)))⟩
      by_cases hj : j = k
      · rw [hj]; exact b2_ne0.mp h2
      · exact hall j g3 (by omega)
theorem s91 {a s : Int} (hd : 2 ≤ d) (hR : RW μ n f) (ha : 0 ≤ a) (hs : a + s ≤ n) (s0 : 0 ≤ s) (h : Φ (some (.inl (b2 (hdp f a (a + s))))) μ) : Ct E d 91 [.inr 50, .inl a, .inl s] μ Φ :=
  v91 (by omega) (l91 hd hR ha hs s0 h _ 1 (by omega) (Nat.lt_succ_self _) (fun j g1 g2 => by omega) (by omega))
theorem l260 {a t : Int} (hd : 2 ≤ d) (hR : RM μ n f) (ha : 0 ≤ a) (hs : t ≤ n) (s0 : 0 ≤ t) (a12 : a ≤ 12) (h : Φ (some (.inl (b2 (hdp f a t)))) μ) : ∀ (m : Nat) (k : Int), a + 1 ≤ k → (t - k).toNat < m → (∀ j, a + 1 ≤ j → j < k → lsp f a j t) → k ≤ 13 →
    G E d 260 Φ 4 [some (.inr 123), some (.inl a), some (.inl t), some (.inl k)] [] μ := by
  have r3 := hR.2.2.1
  intro m
  induction m with
  | zero => intro k _ hm; exact nlt0 hm
  | succ m ih =>
    intro k h0 hm hall s3
    refine v260_4 (by omega) ⟨inR_of (by omega) (by omega), inR_of (by omega) (by omega), fun h1 => ?_, fun h1 => ?_⟩
    · exact ft h (fun e g1 g2 => hall e (by omega) (by omega))
    · refine s259 (by omega) hR ha (by omega) hs (by omega) (by omega) (by omega) ?_
      refine ⟨b2_in _, fun h2 => ih (k + 1) (by omega) (by omega) (fun j g3 g4 => ?_) (by omega), fun h2 => ff h (fun hh => b2_0.mp h2 (hh k (by omega) (by omega)))⟩
      by_cases hj : j = k
      · rw [hj]; exact b2_ne0.mp h2
      · exact hall j g3 (by omega)
theorem s260 {a t : Int} (hd : 2 ≤ d) (hR : RM μ n f) (ha : 0 ≤ a) (hs : t ≤ n) (s0 : 0 ≤ t) (a12 : a ≤ 12) (h : Φ (some (.inl (b2 (hdp f a t)))) μ) : Ct E d 260 [.inr 123, .inl a, .inl t] μ Φ :=
  v260 (by omega) (l260 hd hR ha hs s0 a12 h _ (a + 1) (by omega) (Nat.lt_succ_self _) (fun j g1 g2 => by omega) (by omega))
end S1
