/-! the square of letters -/
def PW (μ : Mm) (q : Int → Int) : Prop := (∀ i, 0 ≤ i → i < 25 → μ 55 i = q i) ∧ ∀ i, 0 ≤ i → i < 25 → inR (q i)
def PM (μ : Mm) (q : Int → Int) : Prop := (∀ i, 0 ≤ i → i < 25 → μ 147 i = q i) ∧ ∀ i, 0 ≤ i → i < 25 → inR (q i)
theorem PM.mu0 {μ : Mm} {v : Int → Int} {k x : Int} (h : PM μ v) : PM (mu μ 123 k x) v := ⟨fun i a b => by rw [mu_o (by decide)]; exact h.1 i a b, h.2⟩
/-- the row stands in the square, from here, this way -/
def sq (f q : Int → Int) (n x y u v : Int) : Prop := ∀ k, 0 ≤ k → k < n → 0 ≤ x + k * u ∧ x + k * u < 5 ∧ 0 ≤ y + k * v ∧ y + k * v < 5 ∧ q (5 * (y + k * v) + (x + k * u)) = f k
/-- sums -/
def su (g : Nat → Int) : Nat → Int
  | 0 => 0
  | m + 1 => su g m + g m
theorem su_add (g h : Nat → Int) : ∀ m, su (fun i => g i + h i) m = su g m + su h m := by
  intro m; induction m with
  | zero => rfl
  | succ m ih => rw [su, su, su, ih]; omega
theorem su_swap (g : Nat → Nat → Int) (a : Nat) : ∀ b, su (fun i => su (g i) b) a = su (fun j => su (fun i => g i j) a) b := by
  intro b; induction b with
  | zero =>
    rw [su]
    have : ∀ a, su (fun i => su (g i) 0) a = 0 := by
      intro a; induction a with
      | zero => rfl
      | succ a ih => rw [su, ih, su]; rfl
    exact this a
  | succ b ih => rw [su, ← ih, ← su_add]; rfl
theorem su_c {g h : Nat → Int} : ∀ m, (∀ i, i < m → g i = h i) → su g m = su h m := by
  intro m; induction m with
  | zero => intro _; rfl
  | succ m ih => intro e; rw [su, su, ih (fun i hi => e i (by omega)), e m (by omega)]
theorem su_b {g : Nat → Int} {B : Int} : ∀ m : Nat, (∀ i, i < m → 0 ≤ g i ∧ g i ≤ B) → 0 ≤ su g m ∧ su g m ≤ B * m := by
  intro m; induction m with
  | zero => intro _; rw [su]; simp
  | succ m ih => intro e; have h1 := ih (fun i hi => e i (by omega)); have h2 := e m (by omega); rw [su, show B * ((m + 1 : Nat) : Int) = B * m + B by rw [Int.natCast_add, Int.mul_add]; simp]; omega
/-- one place and one way: whether it counts -/
noncomputable def sqT (f q : Int → Int) (n : Int) (c w : Nat) : Int := @ite Int (n = 1 ↔ w = 4) (Classical.propDecidable _) (b2 (sq f q n ((c : Int) % 5) ((c : Int) / 5) ((w : Int) % 3 - 1) ((w : Int) / 3 - 1))) 0
/-- the answer to square -/
noncomputable def sqA (f q : Int → Int) (n : Int) : Int := if 1 ≤ n ∧ n ≤ 5 then su (fun c => su (sqT f q n c) 9) 25 else 0
theorem sqT_01 (f q : Int → Int) (n : Int) (c w : Nat) : 0 ≤ sqT f q n c w ∧ sqT f q n c w ≤ 1 := by
  unfold sqT; split
  · rcases b2_01 (sq f q n ((c : Int) % 5) ((c : Int) / 5) ((w : Int) % 3 - 1) ((w : Int) / 3 - 1)) with h | h <;> rw [h] <;> omega
  · omega
theorem st3 {k u : Int} (k0 : 0 ≤ k) (k1 : k ≤ 12) (u0 : -1 ≤ u) (u1 : u ≤ 1) : -12 ≤ k * u ∧ k * u ≤ 12 := by
  rcases (by omega : u = -1 ∨ u = 0 ∨ u = 1) with rfl | rfl | rfl <;> omega
section S10
variable {E : En} {d : Nat} {Φ : Option AV → Mm → Prop} {n : Int} {f q : Int → Int} {μ : Mm}
theorem l63 {x y u v : Int} (hd : 1 ≤ d) (hR : RW μ n f) (hP : PW μ q) (x0 : 0 ≤ x) (x1 : x < 5) (y0 : 0 ≤ y) (y1 : y < 5) (u0 : -1 ≤ u) (u1 : u ≤ 1) (v0 : -1 ≤ v) (v1 : v ≤ 1) (h : Φ (some (.inl (b2 (sq f q n x y u v)))) μ) : ∀ (m : Nat) (k : Int), 0 ≤ k → k + m = n → (∀ j, 0 ≤ j → j < k → 0 ≤ x + j * u ∧ x + j * u < 5 ∧ 0 ≤ y + j * v ∧ y + j * v < 5 ∧ q (5 * (y + j * v) + (x + j * u)) = f j) →
    G E d 63 Φ 2 [some (.inr 49), some (.inl x), some (.inl y), some (.inl u), some (.inl v), some (.inl k), none, none] [] μ := by
  obtain ⟨r1, r2, r3, r4, r5⟩ := hR
  intro m
  induction m with
  | zero =>
    intro k k0 hm hall
    refine v63_2 hd ?_
    rw [r1]
    exact ⟨inR_of (by omega) (by omega), inR_of (by omega) (by omega), fun _ => ft h (fun j j0 j1 => hall j j0 (by omega)), fun h1 => by omega⟩
  | succ m ih =>
    intro k k0 hm hall
    have p1 := st3 k0 (by omega) u0 u1
    have p2 := st3 k0 (by omega) v0 v1
    have g0 := r5 k k0 (by omega)
    refine v63_2 hd ?_
    rw [r1, r4 k k0 (by omega)]
    refine ⟨inR_of (by omega) (by omega), inR_of (by omega) (by omega), fun h1 => by omega, fun h1 => ⟨inR_of (by omega) (by omega), fun h2 => ff h (fun hh => by have := hh k k0 h1; omega), fun h2 => ⟨inR_of (by omega) (by omega), fun h3 => ff h (fun hh => by have := hh k k0 h1; omega), fun h3 => ⟨inR_of (by omega) (by omega), fun h4 => ff h (fun hh => by have := hh k k0 h1; omega), fun h4 => ⟨inR_of (by omega) (by omega), fun h5 => ff h (fun hh => by have := hh k k0 h1; omega), fun h5 => ?_⟩⟩⟩⟩⟩
    rw [show (y + k * v) * 5 + (x + k * u) = 5 * (y + k * v) + (x + k * u) by omega, hP.1 _ (by omega) (by omega)]
    refine ⟨by omega, by omega, hP.2 _ (by omega) (by omega), inR_of (by omega) (by omega), fun h6 => ?_, fun h6 => ff h (fun hh => h6 (hh k k0 h1).2.2.2.2)⟩
    refine ih (k + 1) (by omega) (by omega) fun j j0 j1 => ?_
    by_cases e : j = k
    · rw [e]; exact ⟨h2, h3, h4, h5, h6⟩
    · exact hall j j0 (by omega)
theorem s63 {x y u v : Int} (hd : 1 ≤ d) (hR : RW μ n f) (hP : PW μ q) (x0 : 0 ≤ x) (x1 : x < 5) (y0 : 0 ≤ y) (y1 : y < 5) (u0 : -1 ≤ u) (u1 : u ≤ 1) (v0 : -1 ≤ v) (v1 : v ≤ 1) (h : Φ (some (.inl (b2 (sq f q n x y u v)))) μ) : Ct E d 63 [.inr 49, .inl x, .inl y, .inl u, .inl v] μ Φ := by
  have r2 := hR.2.1
  exact v63 hd (l63 hd hR hP x0 x1 y0 y1 u0 u1 v0 v1 h n.toNat 0 (by omega) (by omega) (fun j j0 j1 => by omega))
theorem l244 {x y u v : Int} (hd : 2 ≤ d) (hR : RM μ n f) (hP : PM μ q) (x0 : 0 ≤ x) (x1 : x < 5) (y0 : 0 ≤ y) (y1 : y < 5) (u0 : -1 ≤ u) (u1 : u ≤ 1) (v0 : -1 ≤ v) (v1 : v ≤ 1) (h : Φ (some (.inl (b2 (sq f q n x y u v)))) μ) : ∀ (m : Nat) (k : Int), 0 ≤ k → k + m = n → (∀ j, 0 ≤ j → j < k → 0 ≤ x + j * u ∧ x + j * u < 5 ∧ 0 ≤ y + j * v ∧ y + j * v < 5 ∧ q (5 * (y + j * v) + (x + j * u)) = f j) →
    G E d 244 Φ 2 [some (.inr 123), some (.inl x), some (.inl y), some (.inl u), some (.inl v), some (.inl k), none, none] [] μ := by
  obtain ⟨r1, r2, r3, r4, r5⟩ := hR
  intro m
  induction m with
  | zero =>
    intro k k0 hm hall
    refine v244_2 (by omega) ?_
    rw [r1]
    exact ⟨inR_of (by omega) (by omega), inR_of (by omega) (by omega), fun _ => ft h (fun j j0 j1 => hall j j0 (by omega)), fun h1 => by omega⟩
  | succ m ih =>
    intro k k0 hm hall
    have p1 := st3 k0 (by omega) u0 u1
    have p2 := st3 k0 (by omega) v0 v1
    have g0 := r5 k k0 (by omega)
    refine v244_2 (by omega) ?_
    rw [r1]
    refine ⟨inR_of (by omega) (by omega), inR_of (by omega) (by omega), fun h1 => by omega, fun h1 => s153 (by omega) (inR_of (by omega) (by omega)) (inR_of (by omega) (by omega)) (inR_of (by omega) (by omega)) ⟨b2_in _, fun h2 => ff h (fun hh => by have := hh k k0 h1; have := b2_0.mp h2; omega), fun h2 => s153 (by omega) (inR_of (by omega) (by omega)) (inR_of (by omega) (by omega)) (inR_of (by omega) (by omega)) ⟨b2_in _, fun h3 => ff h (fun hh => by have := hh k k0 h1; have := b2_0.mp h3; omega), fun h3 => ?_⟩⟩⟩
    have h2 := b2_ne0.mp h2
    have h3 := b2_ne0.mp h3
    rw [hP.1 _ (by omega) (by omega), r4 k k0 (by omega)]
    refine ⟨by omega, by omega, hP.2 _ (by omega) (by omega), inR_of (by omega) (by omega), fun h6 => ?_, fun h6 => ff h (fun hh => h6 (hh k k0 h1).2.2.2.2)⟩
    refine ih (k + 1) (by omega) (by omega) fun j j0 j1 => ?_
    by_cases e : j = k
    · rw [e]; exact ⟨by omega, by omega, by omega, by omega, h6⟩
    · exact hall j j0 (by omega)
theorem s244 {x y u v : Int} (hd : 2 ≤ d) (hR : RM μ n f) (hP : PM μ q) (x0 : 0 ≤ x) (x1 : x < 5) (y0 : 0 ≤ y) (y1 : y < 5) (u0 : -1 ≤ u) (u1 : u ≤ 1) (v0 : -1 ≤ v) (v1 : v ≤ 1) (h : Φ (some (.inl (b2 (sq f q n x y u v)))) μ) : Ct E d 244 [.inr 123, .inl x, .inl y, .inl u, .inl v] μ Φ := by
  have r2 := hR.2.1
  exact v244 (by omega) (l244 hd hR hP x0 x1 y0 y1 u0 u1 v0 v1 h n.toNat 0 (by omega) (by omega) (fun j j0 j1 => by omega))
/-- one way, all places -/
noncomputable def sqw (f q : Int → Int) (n u v : Int) (c : Nat) : Int := b2 (sq f q n ((c : Int) % 5) ((c : Int) / 5) u v)
theorem sqw_b (f q : Int → Int) (n u v : Int) (m : Nat) : 0 ≤ su (sqw f q n u v) m ∧ su (sqw f q n u v) m ≤ m := by
  have := su_b (g := sqw f q n u v) (B := 1) m (fun i _ => by unfold sqw; rcases b2_01 (sq f q n ((i : Int) % 5) ((i : Int) / 5) u v) with h | h <;> rw [h] <;> omega)
  omega
theorem l62_9 {u v : Int} {y : Nat} (hd : 2 ≤ d) (hR : RW μ n f) (hP : PW μ q) (hy : y < 5) (u0 : -1 ≤ u) (u1 : u ≤ 1) (v0 : -1 ≤ v) (v1 : v ≤ 1) (h : G E d 62 Φ 4 [some (.inr 49), some (.inl u), some (.inl v), some (.inl (su (sqw f q n u v) (5 * (y + 1)))), some (.inl ((y : Int) + 1)), none] [] μ) : ∀ (m x : Nat), x + m = 5 →
    G E d 62 Φ 9 [some (.inr 49), some (.inl u), some (.inl v), some (.inl (su (sqw f q n u v) (5 * y + x))), some (.inl (y : Int)), some (.inl (x : Int))] [] μ := by
  intro m
  induction m with
  | zero =>
    intro x hm
    refine v62_9 (by omega) ⟨inR_of (by omega) (by omega), fun _ => ?_, fun h1 => by omega⟩
    rw [show 5 * y + x = 5 * (y + 1) by omega]; exact h
  | succ m ih =>
    intro x hm
    have hx := ih (x + 1) (by omega)
    rw [show 5 * y + (x + 1) = 5 * y + x + 1 by omega, su] at hx
    have e : sqw f q n u v (5 * y + x) = b2 (sq f q n x y u v) := by
      unfold sqw
      rw [show ((5 * y + x : Nat) : Int) % 5 = x by omega, show ((5 * y + x : Nat) : Int) / 5 = y by omega]
    rw [e] at hx
    refine v62_9 (by omega) ⟨inR_of (by omega) (by omega), fun h1 => by omega, fun h1 => s63 (by omega) hR hP (by omega) (by omega) (by omega) (by omega) u0 u1 v0 v1 ⟨b2_in _, fun h2 => ?_, fun h2 => ?_⟩⟩
    · rw [h2] at hx; simpa using hx
    · rw [b2_t (b2_ne0.mp h2)] at hx; simpa using hx
theorem l62 {u v : Int} (hd : 2 ≤ d) (hR : RW μ n f) (hP : PW μ q) (u0 : -1 ≤ u) (u1 : u ≤ 1) (v0 : -1 ≤ v) (v1 : v ≤ 1) (h : Φ (some (.inl (su (sqw f q n u v) 25))) μ) : ∀ (m y : Nat), y + m = 5 →
    G E d 62 Φ 4 [some (.inr 49), some (.inl u), some (.inl v), some (.inl (su (sqw f q n u v) (5 * y))), some (.inl (y : Int)), none] [] μ := by
  intro m
  induction m with
  | zero =>
    intro y hm
    refine v62_4 (by omega) ⟨inR_of (by omega) (by omega), fun _ => fe h (by rw [show 5 * y = 25 by omega]), fun h1 => by omega⟩
  | succ m ih =>
    intro y hm
    refine v62_4 (by omega) ⟨inR_of (by omega) (by omega), fun h1 => by omega, fun h1 => ?_⟩
    exact l62_9 hd hR hP (by omega) u0 u1 v0 v1 (by simpa using ih (y + 1) (by omega)) 5 0 (by omega)
theorem s62 {u v : Int} (hd : 2 ≤ d) (hR : RW μ n f) (hP : PW μ q) (u0 : -1 ≤ u) (u1 : u ≤ 1) (v0 : -1 ≤ v) (v1 : v ≤ 1) (h : Φ (some (.inl (su (sqw f q n u v) 25))) μ) : Ct E d 62 [.inr 49, .inl u, .inl v] μ Φ :=
  v62 (by omega) (l62 hd hR hP u0 u1 v0 v1 h 5 0 (by omega))
/-- one way, all places, if the way counts -/
noncomputable def sqV (f q : Int → Int) (n : Int) (w : Nat) : Int := su (fun c => sqT f q n c w) 25
theorem sqV_y {w : Nat} (h : n = 1 ↔ w = 4) : sqV f q n w = su (sqw f q n ((w : Int) % 3 - 1) ((w : Int) / 3 - 1)) 25 := by
  unfold sqV; exact su_c _ (fun c _ => by unfold sqT sqw; rw [if_pos h])
theorem sqV_n {w : Nat} (h : ¬ (n = 1 ↔ w = 4)) : sqV f q n w = 0 := by
  unfold sqV
  rw [su_c (h := fun _ => 0) _ (fun c _ => by unfold sqT; rw [if_neg h])]; rfl
theorem l61_21 {r : Nat} (hd : 3 ≤ d) (hR : RW μ n f) (hP : PW μ q) (hr : r < 3) (h : G E d 61 Φ 16 [some (.inr 49), some (.inl (su (sqV f q n) (3 * (r + 1)))), some (.inl ((r : Int) - 1 + 1)), none, none] [] μ) : ∀ (m p : Nat), p + m = 3 →
    G E d 61 Φ 21 [some (.inr 49), some (.inl (su (sqV f q n) (3 * r + p))), some (.inl ((r : Int) - 1)), some (.inl ((p : Int) - 1)), none] [] μ := by
  have r1 := hR.1
  have r2 := hR.2.1
  have r3 := hR.2.2.1
  intro m
  induction m with
  | zero =>
    intro p hm
    refine v61_21 (by omega) ⟨inR_of (by omega) (by omega), fun _ => ?_, fun h1 => by omega⟩
    rw [show 3 * r + p = 3 * (r + 1) by omega]; exact h
  | succ m ih =>
    intro p hm
    have hx := ih (p + 1) (by omega)
    rw [show 3 * r + (p + 1) = 3 * r + p + 1 by omega, su, show ((p + 1 : Nat) : Int) - 1 = (p : Int) - 1 + 1 by omega] at hx
    have yes : (n = 1 ↔ 3 * r + p = 4) → Ct E (d - 1) 62 [.inr 49, .inl ((p : Int) - 1), .inl ((r : Int) - 1)] μ (rI fun z μ1 => G E d 61 Φ 21 [some (.inr 49), some (.inl (su (sqV f q n) (3 * r + p) + z)), some (.inl ((r : Int) - 1)), some (.inl ((p : Int) - 1 + 1)), none] [] μ1) := by
      intro e
      rw [sqV_y e, show ((3 * r + p : Nat) : Int) % 3 - 1 = (p : Int) - 1 by omega, show ((3 * r + p : Nat) : Int) / 3 - 1 = (r : Int) - 1 by omega] at hx
      exact s62 (by omega) hR hP (by omega) (by omega) (by omega) (by omega) hx
    have no : ¬ (n = 1 ↔ 3 * r + p = 4) → G E d 61 Φ 21 [some (.inr 49), some (.inl (su (sqV f q n) (3 * r + p))), some (.inl ((r : Int) - 1)), some (.inl ((p : Int) - 1 + 1)), none] [] μ := by
      intro e
      rw [sqV_n e, Int.add_zero] at hx
      exact hx
    refine v61_21 (by omega) ?_
    rw [r1]
    refine ⟨inR_of (by omega) (by omega), fun h1 => by omega, fun h1 => ⟨inR_of (by omega) (by omega), fun h2 => ⟨inR_of (by omega) (by omega), fun h3 => yes (by omega), fun h3 => no (by omega)⟩, fun h2 => ⟨inR_of (by omega) (by omega), fun h3 => ⟨inR_of (by omega) (by omega), fun h4 => yes (by omega), fun h4 => no (by omega)⟩, fun h3 => ⟨inR_of (by omega) (by omega), fun h4 => no (by omega), fun h4 => yes (by omega)⟩⟩⟩⟩
theorem l61_16 (hd : 3 ≤ d) (hR : RW μ n f) (hP : PW μ q) (h : Φ (some (.inl (su (sqV f q n) 9))) μ) : ∀ (m r : Nat), r + m = 3 →
    G E d 61 Φ 16 [some (.inr 49), some (.inl (su (sqV f q n) (3 * r))), some (.inl ((r : Int) - 1)), none, none] [] μ := by
  intro m
  induction m with
  | zero =>
    intro r hm
    exact v61_16 (by omega) ⟨inR_of (by omega) (by omega), fun _ => fe h (by rw [show 3 * r = 9 by omega]), fun h1 => by omega⟩
  | succ m ih =>
    intro r hm
    refine v61_16 (by omega) ⟨inR_of (by omega) (by omega), fun h1 => by omega, fun h1 => ?_⟩
    have := ih (r + 1) (by omega)
    rw [show ((r + 1 : Nat) : Int) - 1 = (r : Int) - 1 + 1 by omega] at this
    exact l61_21 hd hR hP (by omega) this 3 0 (by omega)
theorem s61 (hd : 3 ≤ d) (hR : RW μ n f) (hP : PW μ q) (h : Φ (some (.inl (sqA f q n))) μ) : Ct E d 61 [.inr 49] μ Φ := by
  have r1 := hR.1
  have r2 := hR.2.1
  have r3 := hR.2.2.1
  refine v61 (by omega) ?_
  rw [r1]
  refine ⟨inR_of (by omega) (by omega), fun h1 => fe h (by rw [sqA, if_neg (by omega)]), fun h1 => ⟨inR_of (by omega) (by omega), fun h2 => ?_, fun h2 => fe h (by rw [sqA, if_neg (by omega)])⟩⟩
  refine l61_16 hd hR hP (fe h ?_) 3 0 (by omega)
  rw [sqA, if_pos (by omega), su_swap]; rfl
theorem s129 (hd : 4 ≤ d) (hR : RW μ n f) (hP : PW μ q) (h : Φ (some (.inl (sqA f q n))) μ) : Ct E d 129 [.inr 0] μ Φ :=
  v129 (by omega) (s61 (by omega) hR hP h)
theorem sqT_b (c m : Nat) : 0 ≤ su (sqT f q n c) m ∧ su (sqT f q n c) m ≤ m := by
  have := su_b (g := sqT f q n c) (B := 1) m (fun i _ => sqT_01 f q n c i)
  omega
theorem l245_21 {c : Nat} {s : Int} (hd : 3 ≤ d) (hR : RM μ n f) (hP : PM μ q) (hc : c < 25) (h : G E d 245 Φ 16 [some (.inr 123), some (.inl (s + su (sqT f q n c) 9)), some (.inl ((c : Int) + 1)), none, none] [] μ) : ∀ (m w : Nat), w + m = 9 →
    G E d 245 Φ 21 [some (.inr 123), some (.inl (s + su (sqT f q n c) w)), some (.inl (c : Int)), some (.inl (w : Int)), none] [] μ := by
  have r1 := hR.1
  have r2 := hR.2.1
  have r3 := hR.2.2.1
  intro m
  induction m with
  | zero =>
    intro w hm
    refine v245_21 (by omega) ⟨inR_of (by omega) (by omega), fun _ => ?_, fun h1 => by omega⟩
    rw [show w = 9 by omega]; exact h
  | succ m ih =>
    intro w hm
    have hx := ih (w + 1) (by omega)
    rw [su, ← Int.add_assoc, show ((w + 1 : Nat) : Int) = (w : Int) + 1 by omega] at hx
    have no : ¬ (n = 1 ↔ w = 4) → G E d 245 Φ 21 [some (.inr 123), some (.inl (s + su (sqT f q n c) w)), some (.inl (c : Int)), some (.inl ((w : Int) + 1)), none] [] μ := by
      intro e
      have : sqT f q n c w = 0 := by unfold sqT; rw [if_neg e]
      rw [this, Int.add_zero] at hx
      exact hx
    have yes : (n = 1 ↔ w = 4) → Ct E (d - 1) 244 [.inr 123, .inl (iRem (c : Int) 5), .inl (iDiv (c : Int) 5), .inl ((iRem (w : Int) 3) - 1), .inl ((iDiv (w : Int) 3) - 1)] μ (rI fun z μ1 => inR z ∧ (z = 0 → G E d 245 Φ 21 [some (.inr 123), some (.inl (s + su (sqT f q n c) w)), some (.inl (c : Int)), some (.inl ((w : Int) + 1)), none] [] μ1) ∧ (z ≠ 0 → G E d 245 Φ 21 [some (.inr 123), some (.inl (s + su (sqT f q n c) w + 1)), some (.inl (c : Int)), some (.inl ((w : Int) + 1)), none] [] μ1)) := by
      intro e
      have : sqT f q n c w = b2 (sq f q n ((c : Int) % 5) ((c : Int) / 5) ((w : Int) % 3 - 1) ((w : Int) / 3 - 1)) := by unfold sqT; rw [if_pos e]
      rw [this] at hx
      have i1 : inR (c : Int) := inR_of (by omega) (by omega)
      have i2 : inR (w : Int) := inR_of (by omega) (by omega)
      have i3 : inR 3 := inR_of (by omega) (by omega)
      have i5 : inR 5 := inR_of (by omega) (by omega)
      rw [iRem_eq (by omega) i1 (by omega) i5, iDiv_eq (by omega) i1 (by omega) i5, iRem_eq (by omega) i2 (by omega) i3, iDiv_eq (by omega) i2 (by omega) i3]
      refine s244 (by omega) hR hP (by omega) (by omega) (by omega) (by omega) (by omega) (by omega) (by omega) (by omega) ⟨b2_in _, fun h2 => ?_, fun h2 => ?_⟩
      · rw [h2, Int.add_zero] at hx; exact hx
      · rw [b2_t (b2_ne0.mp h2)] at hx; exact hx
    refine v245_21 (by omega) ?_
    rw [r1]
    refine ⟨inR_of (by omega) (by omega), fun h1 => by omega, fun h1 => ⟨inR_of (by omega) (by omega), fun h2 => ⟨inR_of (by omega) (by omega), fun h3 => no (by omega), fun h3 => yes (by omega)⟩, fun h2 => ⟨inR_of (by omega) (by omega), fun h3 => no (by omega), fun h3 => yes (by omega)⟩⟩⟩
theorem l245_16 (hd : 3 ≤ d) (hR : RM μ n f) (hP : PM μ q) (h : Φ (some (.inl (su (fun c => su (sqT f q n c) 9) 25))) μ) : ∀ (m c : Nat), c + m = 25 →
    G E d 245 Φ 16 [some (.inr 123), some (.inl (su (fun c => su (sqT f q n c) 9) c)), some (.inl (c : Int)), none, none] [] μ := by
  intro m
  induction m with
  | zero =>
    intro c hm
    exact v245_16 (by omega) ⟨inR_of (by omega) (by omega), fun _ => fe h (by rw [show c = 25 by omega]), fun h1 => by omega⟩
  | succ m ih =>
    intro c hm
    refine v245_16 (by omega) ⟨inR_of (by omega) (by omega), fun h1 => by omega, fun h1 => ?_⟩
    have hx := ih (c + 1) (by omega)
    rw [su, show ((c + 1 : Nat) : Int) = (c : Int) + 1 by omega] at hx
    have := l245_21 (s := su (fun c => su (sqT f q n c) 9) c) hd hR hP (by omega) hx 9 0 (by omega)
    rw [su, Int.add_zero] at this
    exact this
theorem s245 (hd : 4 ≤ d) (hR : RM μ n f) (hP : PM μ q) (h : Φ (some (.inl (sqA f q n))) (mu μ 123 0 0)) : Ct E d 245 [.inr 123] μ Φ := by
  have r1 := hR.1
  have r2 := hR.2.1
  have r3 := hR.2.2.1
  refine v245 (by omega) ?_
  rw [r1]
  refine s153 (by omega) (inR_of (by omega) (by omega)) (inR_of (by omega) (by omega)) (inR_of (by omega) (by omega)) ⟨b2_in _, fun h1 => ?_, fun h1 => fe h (by rw [sqA, if_neg (b2_0.mp h1)])⟩
  exact l245_16 (E := E) (by omega) (hR.mu0 (by decide)) hP.mu0 (fe h (by rw [sqA, if_pos (b2_ne0.mp h1)])) 25 0 (by omega)
end S10
