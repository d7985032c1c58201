/-! columns -/
def cfi (f : Int → Int) (n k c : Int) : Nat → Int → Int → Option Int
  | 0, _, _ => none
  | m + 1, i, s => if n ≤ i then none else if s = c then some (f i) else cfi f n k c m (i + k) (s + 1)
def ccn (n k : Int) : Nat → Int → Int
  | 0, _ => 0
  | m + 1, i => if n ≤ i then 0 else 1 + ccn n k m (i + k)
def dgt (a k p : Nat) : Int := ((a / 10 ^ (k - 1 - p) % 10 : Nat) : Int)
def rdc (f : Int → Int) (n c : Int) (a k : Nat) : Nat → Int → Int
  | 0, _ => -1
  | m + 1, s => match cfi f n k c 13 (dgt a k (k - (m + 1))) s with
    | some x => x
    | none => rdc f n c a k m (s + ccn n k 13 (dgt a k (k - (m + 1))))
def mk : Nat → Nat → Nat → Nat
  | 0, b, _ => b
  | m + 1, b, x => mk m (b ||| 2 ^ (x % 10)) (x / 10)
def goodK (a k : Nat) : Prop := 1 ≤ k ∧ k ≤ 6 ∧ 10 ^ k ≤ a ∧ a < 2 * 10 ^ k ∧ mk k 0 a = 2 ^ k - 1
/-- the answer to columns -/
def coZ (f : Int → Int) (n a b z : Int) : Prop := (∃ k : Nat, 0 ≤ a ∧ goodK a.toNat k ∧ z = (if 0 ≤ b ∧ b < n then rdc f n b a.toNat k k 0 else -1)) ∨ ((¬ ∃ k : Nat, 0 ≤ a ∧ goodK a.toNat k) ∧ z = -1)
theorem p10 {k j : Nat} (h : k < j) : 10 * 10 ^ k ≤ 10 ^ j := by
  have := Nat.pow_le_pow_right (n := 10) (by omega) (show k + 1 ≤ j by omega)
  rw [Nat.pow_succ] at this; omega
theorem good_u {a k j : Nat} (h1 : goodK a k) (h2 : goodK a j) : k = j := by
  obtain ⟨_, _, a1, a2, _⟩ := h1
  obtain ⟨_, _, b1, b2, _⟩ := h2
  rcases Nat.lt_trichotomy k j with h | h | h
  · have := p10 h; omega
  · exact h
  · have := p10 h; omega
theorem coZ_u {f : Int → Int} {n a b z w : Int} (h1 : coZ f n a b z) (h2 : coZ f n a b w) : z = w := by
  rcases h1 with ⟨k, k0, k1, k2⟩ | ⟨k0, k1⟩
  · rcases h2 with ⟨j, j0, j1, j2⟩ | ⟨j0, j1⟩
    · rw [k2, j2, good_u k1 j1]
    · exact absurd ⟨k, k0, k1⟩ j0
  · rcases h2 with ⟨j, j0, j1, j2⟩ | ⟨j0, j1⟩
    · exact absurd ⟨j, j0, j1⟩ k0
    · rw [k1, j1]
/-! every letter is read once -/
theorem su_h (g : Nat → Int) : ∀ k, su g (k + 1) = g 0 + su (fun i => g (i + 1)) k := by
  intro k; induction k with
  | zero => simp [su]
  | succ k ih => rw [su, ih, su]; omega
theorem su_rev (h : Nat → Int) : ∀ k, su (fun i => h (k - 1 - i)) k = su h k := by
  intro k; induction k with
  | zero => rfl
  | succ k ih =>
    rw [su_h, su, ← ih]
    have : su (fun i => h (k + 1 - 1 - (i + 1))) k = su (fun i => h (k - 1 - i)) k := su_c _ (fun i _ => by rw [show k + 1 - 1 - (i + 1) = k - 1 - i by omega])
    rw [this]; simp; omega
theorem su_upd {g g' : Nat → Int} {r : Nat} : ∀ m, (∀ i, i < m → i ≠ r → g' i = g i) → su g' m = su g m + (if r < m then g' r - g r else 0) := by
  intro m; induction m with
  | zero => intro _; rw [su, su, if_neg (by omega)]; rfl
  | succ m ih =>
    intro e
    rw [su, su, ih (fun i hi => e i (by omega))]
    by_cases h : m = r
    · rw [h, if_neg (by omega), if_pos (by omega)]; omega
    · rw [e m (by omega) h]
      by_cases h2 : r < m
      · rw [if_pos h2, if_pos (by omega)]; omega
      · rw [if_neg h2, if_neg (by omega)]; omega
def Fm (c : Nat → Int) (M : Nat) : Int := su (fun r => if M.testBit r then c r else 0) 10
theorem Fm_or {c : Nat → Int} {M r : Nat} (hr : r < 10) : Fm c (M ||| 2 ^ r) = Fm c M + (if M.testBit r then 0 else c r) := by
  unfold Fm
  rw [su_upd (g := fun r => if M.testBit r then c r else 0) (r := r) 10 (fun i _ hi => by
    have : (M ||| 2 ^ r).testBit i = M.testBit i := by rw [Nat.testBit_or, Nat.testBit_two_pow_of_ne (Ne.symm hi), Bool.or_false]
    simp only [this]), if_pos hr]
  have : (M ||| 2 ^ r).testBit r = true := by rw [Nat.testBit_or, Nat.testBit_two_pow_self, Bool.or_true]
  simp only [this, if_true]
  by_cases h : M.testBit r = true
  · simp only [h, if_true]; omega
  · simp only [h]; simp
def Mj (D : Nat → Nat) : Nat → Nat
  | 0 => 0
  | j + 1 => Mj D j ||| 2 ^ (D j)
theorem Mj_F (D : Nat → Nat) (hD : ∀ i, D i < 10) (c : Nat → Int) : ∀ j : Nat, Fm (fun _ => 1) (Mj D j) ≤ j ∧ (Fm (fun _ => 1) (Mj D j) = j → Fm c (Mj D j) = su (fun i => c (D i)) j) := by
  intro j
  induction j with
  | zero => refine ⟨by show Fm (fun _ => 1) 0 ≤ ((0 : Nat) : Int); decide, fun _ => ?_⟩; rw [Mj, su, Fm]; rw [su_c (h := fun _ => 0) 10 (fun i _ => by simp)]; rfl
  | succ j ih =>
    rw [Mj, Fm_or (hD j), Fm_or (hD j), su]
    obtain ⟨i1, i2⟩ := ih
    by_cases h : (Mj D j).testBit (D j) = true
    · rw [if_pos h, if_pos h]; exact ⟨by omega, fun e => by omega⟩
    · rw [if_neg h, if_neg h]; exact ⟨by omega, fun e => by rw [i2 (by omega)]⟩
theorem mk_M (a : Nat) : ∀ m j : Nat, mk m (Mj (fun i => a / 10 ^ i % 10) j) (a / 10 ^ j) = Mj (fun i => a / 10 ^ i % 10) (j + m) := by
  intro m; induction m with
  | zero => intro j; rfl
  | succ m ih =>
    intro j
    have := ih (j + 1)
    rw [mk, Nat.div_div_eq_div_mul, ← Nat.pow_succ]
    rw [Mj] at this
    rw [this, show j + (m + 1) = j + 1 + m by omega]
theorem F_1 : ∀ k, k < 7 → Fm (fun _ => 1) (2 ^ k - 1) = (k : Nat) := by decide +kernel
theorem F_n : ∀ n, n < 13 → ∀ k, k < 7 → 1 ≤ k → Fm (fun r => ccn ((n : Nat) : Int) ((k : Nat) : Int) 13 r) (2 ^ k - 1) = n := by decide +kernel
theorem all_n {a k : Nat} {n : Int} (h : goodK a k) (n0 : 0 ≤ n) (n1 : n ≤ 12) : su (fun p => ccn n k 13 (dgt a k p)) k = n := by
  obtain ⟨k1, k6, _, _, hm⟩ := h
  have h0 := mk_M a k 0
  rw [show a / 10 ^ 0 = a by simp, Nat.zero_add] at h0
  have h0' : mk k 0 a = Mj (fun i => a / 10 ^ i % 10) k := h0
  rw [h0'] at hm
  have h1 := (Mj_F (fun i => a / 10 ^ i % 10) (fun i => by omega) (fun r => ccn n k 13 r) k).2 (by rw [hm]; exact F_1 k (by omega))
  rw [hm] at h1
  have h2 := F_n n.toNat (by omega) k (by omega) k1
  rw [show ((n.toNat : Nat) : Int) = n by omega] at h2
  rw [h2] at h1
  exact (su_rev (fun i => ccn n k 13 ((a / 10 ^ i % 10 : Nat) : Int)) k).trans h1.symm
theorem ccn_0 (n k : Int) : ∀ (m : Nat) (i : Int), 0 ≤ ccn n k m i := by
  intro m; induction m with
  | zero => intro i; rw [ccn]; omega
  | succ m ih => intro i; rw [ccn]; split
                 · omega
                 · have := ih (i + k); omega
theorem cfi_no {f : Int → Int} {n k c : Int} : ∀ (m : Nat) (i s : Int), s + ccn n k m i ≤ c → cfi f n k c m i s = none := by
  intro m; induction m with
  | zero => intro i s _; rw [cfi]
  | succ m ih =>
    intro i s h
    rw [ccn] at h
    rw [cfi]
    split
    · rfl
    · next g =>
      rw [if_neg g] at h
      have := ccn_0 n k m (i + k)
      rw [if_neg (by omega)]
      exact ih _ _ (by omega)
theorem rdc_no {f : Int → Int} {n c : Int} {a k : Nat} : ∀ (m : Nat) (s : Int), m ≤ k → s + su (fun p => ccn n k 13 (dgt a k (k - m + p))) m ≤ c → rdc f n c a k m s = -1 := by
  intro m; induction m with
  | zero => intro s _ _; rw [rdc]
  | succ m ih =>
    intro s hk h
    rw [su_h] at h
    have e : su (fun i => ccn n k 13 (dgt a k (k - (m + 1) + (i + 1)))) m = su (fun p => ccn n k 13 (dgt a k (k - m + p))) m := su_c _ (fun i _ => by rw [show k - (m + 1) + (i + 1) = k - m + i by omega])
    rw [e] at h
    have nn : ∀ j : Nat, 0 ≤ su (fun p => ccn n k 13 (dgt a k (k - m + p))) j := by
      intro j; induction j with
      | zero => rw [su]; omega
      | succ j ihj => rw [su]; have := ccn_0 n k 13 (dgt a k (k - m + j)); omega
    have := nn m
    simp only [Nat.add_zero] at h
    rw [rdc, cfi_no _ _ _ (by omega)]
    exact ih _ (by omega) (by omega)
section S13
variable {E : En} {d : Nat} {Φ : Option AV → Mm → Prop} {n c : Int} {f : Int → Int} {μ : Mm} {a k : Nat}
theorem pw_le {k j : Nat} (h : k ≤ j) : 10 ^ k ≤ 10 ^ j := Nat.pow_le_pow_right (by omega) h
theorem dv10 {x : Nat} (hx : x < 2147483648) : iDiv (x : Int) 10 = ((x / 10 : Nat) : Int) := by
  rw [iDiv_eq (by omega) (inR_of (by omega) (by omega)) (by omega) (inR_of (by omega) (by omega))]; omega
theorem rm10 {x : Nat} (hx : x < 2147483648) : iRem (x : Int) 10 = ((x % 10 : Nat) : Int) := by
  rw [iRem_eq (by omega) (inR_of (by omega) (by omega)) (by omega) (inR_of (by omega) (by omega))]; omega
theorem dvP {x y : Nat} (hx : x < 2147483648) (hy : y < 2147483648) (h0 : 0 < y) : iDiv (x : Int) (y : Int) = ((x / y : Nat) : Int) := by
  rw [iDiv_eq (by omega) (inR_of (by omega) (by omega)) (by omega) (inR_of (by omega) (by omega))]; rfl
/-- the class reads one column -/
theorem l93_39 {m : Nat} {A : Option Int} {B : Int} (hd : 1 ≤ d) (hR : RW μ n f) (k1 : 1 ≤ k) (k6 : k ≤ 6) (c0 : 0 ≤ c) (c1 : c ≤ 12)
    (h : ∀ s, 0 ≤ s → s ≤ c → A = none → s = B → G E d 93 Φ 28 [some (.inr 50), some (.inl (a : Int)), some (.inl (k : Int)), none, some (.inl (iDiv ((10 ^ m : Nat) : Int) 10)), some (.inl (c - s)), some (.inl (((k - (m + 1) : Nat) : Int) + 1)), none] [] μ)
    (hs : ∀ x, A = some x → Φ (some (.inl x)) μ) :
    ∀ (r : Nat) (i s : Int), 0 ≤ i → n ≤ i + r → i ≤ 100 → 0 ≤ s → s ≤ c → A = cfi f n k c r i s → B = s + ccn n k r i →
    G E d 93 Φ 39 [some (.inr 50), some (.inl (a : Int)), some (.inl (k : Int)), none, some (.inl ((10 ^ m : Nat) : Int)), some (.inl (c - s)), some (.inl ((k - (m + 1) : Nat) : Int)), some (.inl i)] [] μ := by
  obtain ⟨r1, r2, r3, r4, r5⟩ := hR
  intro r
  induction r with
  | zero =>
    intro i s i0 hn i1 s0 s1 e1 e2
    refine v93_39 hd ?_
    rw [r1]
    rw [cfi] at e1
    rw [ccn] at e2
    exact ⟨inR_of (by omega) (by omega), inR_of (by omega) (by omega), fun _ => h s s0 s1 e1 (by omega), fun h1 => by omega⟩
  | succ r ih =>
    intro i s i0 hn i1 s0 s1 e1 e2
    refine v93_39 hd ?_
    rw [r1]
    rw [cfi] at e1
    rw [ccn] at e2
    refine ⟨inR_of (by omega) (by omega), inR_of (by omega) (by omega), fun h1 => ?_, fun h1 => ⟨inR_of (by omega) (by omega), fun h2 => ?_, fun h2 => ⟨by omega, ?_⟩⟩⟩
    · rw [if_pos h1] at e1 e2
      exact h s s0 s1 e1 (by omega)
    · rw [if_neg (by omega), if_neg (by omega)] at e1
      rw [if_neg (by omega)] at e2
      have := ih (i + k) (s + 1) (by omega) (by omega) (by omega) (by omega) (by omega) e1 (by omega)
      rw [show c - (s + 1) = c - s + -1 by omega] at this
      exact this
    · rw [if_neg (by omega), if_pos (by omega)] at e1
      rw [r4 i i0 h1]
      exact hs _ e1
theorem l93_28 (hd : 1 ≤ d) (hR : RW μ n f) (k1 : 1 ≤ k) (k6 : k ≤ 6) (c0 : 0 ≤ c) (c1 : c ≤ 12) (ha : a < 2147483648) : ∀ (m : Nat) (s x4 : Int), m ≤ k → 0 ≤ s → s ≤ c → (m = 0 ∨ ∃ j, m = j + 1 ∧ x4 = ((10 ^ j : Nat) : Int)) → Φ (some (.inl (rdc f n c a k m s))) μ →
    G E d 93 Φ 28 [some (.inr 50), some (.inl (a : Int)), some (.inl (k : Int)), none, some (.inl x4), some (.inl (c - s)), some (.inl ((k - m : Nat) : Int)), none] [] μ := by
  intro m
  induction m with
  | zero =>
    intro s x4 hm s0 s1 hx h
    exact v93_28 hd ⟨inR_of (by omega) (by omega), inR_of (by omega) (by omega), fun _ => h, fun h1 => by omega⟩
  | succ m ih =>
    intro s x4 hm s0 s1 hx h
    obtain rfl : x4 = ((10 ^ m : Nat) : Int) := by
      rcases hx with hx | ⟨j, hj, e⟩
      · omega
      · rw [e, show j = m by omega]
    have g1 : 10 ^ m ≤ 100000 := pw_le (j := 5) (by omega)
    have g0 : 0 < 10 ^ m := Nat.pow_pos (by omega)
    have hq : a / 10 ^ m < 2147483648 := Nat.lt_of_le_of_lt (Nat.div_le_self _ _) ha
    refine v93_28 hd ⟨inR_of (by omega) (by omega), inR_of (by omega) (by omega), fun h1 => by omega, fun h1 => ⟨inR_of (by omega) (by omega), fun h2 => by omega, fun h2 => ⟨w32_ne0 (inR_of (by omega) (by omega)) (by omega), ?_⟩⟩⟩
    rw [dvP ha (by omega) g0, rm10 hq]
    have ed : ((a / 10 ^ m % 10 : Nat) : Int) = dgt a k (k - (m + 1)) := by unfold dgt; rw [show k - 1 - (k - (m + 1)) = m by omega]
    have r2 := hR.2.1
    have r3 := hR.2.2.1
    rw [ed]
    have hdg : 0 ≤ dgt a k (k - (m + 1)) ∧ dgt a k (k - (m + 1)) ≤ 9 := by rw [← ed]; omega
    rw [rdc] at h
    refine l93_39 (m := m) hd hR k1 k6 c0 c1 (fun t t0 t1 tn te => ?_) (fun x hx => by rwa [hx] at h) 13 _ s hdg.1 (by omega) (by omega) s0 s1 rfl rfl
    rw [tn] at h
    rw [← te] at h
    have := ih t (iDiv ((10 ^ m : Nat) : Int) 10) (by omega) t0 t1 (by
      cases m with
      | zero => exact Or.inl rfl
      | succ j => refine Or.inr ⟨j, rfl, ?_⟩
                  rw [dv10 (by omega), Nat.pow_succ, Nat.mul_div_cancel _ (by omega)]) h
    rw [show ((k - m : Nat) : Int) = ((k - (m + 1) : Nat) : Int) + 1 by omega] at this
    exact this
theorem l93_15 (hd : 1 ≤ d) (hR : RW μ n f) (k1 : 1 ≤ k) (k6 : k ≤ 6) (c0 : 0 ≤ c) (c1 : c ≤ 12) (ha : a < 2147483648) (h : Φ (some (.inl (rdc f n c a k k 0))) μ) : ∀ (m j : Nat), j + 1 + m = k →
    G E d 93 Φ 15 [some (.inr 50), some (.inl (a : Int)), some (.inl (k : Int)), some (.inl c), some (.inl ((10 ^ j : Nat) : Int)), some (.inl ((j : Int) + 1)), none, none] [] μ := by
  intro m
  induction m with
  | zero =>
    intro j hj
    refine v93_15 hd ⟨inR_of (by omega) (by omega), inR_of (by omega) (by omega), fun _ => ?_, fun h1 => by omega⟩
    have := l93_28 (E := E) hd hR k1 k6 c0 c1 ha k 0 ((10 ^ j : Nat) : Int) (by omega) (by omega) (by omega) (Or.inr ⟨j, by omega, rfl⟩) h
    simpa using this
  | succ m ih =>
    intro j hj
    refine v93_15 hd ⟨inR_of (by omega) (by omega), inR_of (by omega) (by omega), fun h1 => by omega, fun _ => ?_⟩
    have := ih (j + 1) (by omega)
    rw [Nat.pow_succ, show ((10 ^ j * 10 : Nat) : Int) = ((10 ^ j : Nat) : Int) * 10 by rw [Int.natCast_mul]; rfl, show ((j + 1 : Nat) : Int) = (j : Int) + 1 by omega] at this
    exact this
theorem s93 {b : Int} (hd : 1 ≤ d) (hR : RW μ n f) (hk : goodK a k) (ha : a < 2147483648) (hb : inR b) (h : Φ (some (.inl (if 0 ≤ b ∧ b < n then rdc f n b a k k 0 else -1))) μ) : Ct E d 93 [.inr 50, .inl (a : Int), .inl (k : Int), .inl b] μ Φ := by
  obtain ⟨k1, k6, _⟩ := hk
  have r1 := hR.1
  have r2 := hR.2.1
  have r3 := hR.2.2.1
  refine v93 hd ?_
  rw [r1]
  refine ⟨hb, fun h1 => fe h (by rw [if_neg (by omega)]), fun h1 => ⟨hb, inR_of (by omega) (by omega), fun h2 => fe h (by rw [if_neg (by omega)]), fun h2 => ⟨inR_of (by omega) (by omega), fun _ => ?_, fun h3 => by omega⟩⟩⟩
  rw [if_pos ⟨h1, h2⟩] at h
  exact l93_15 (E := E) hd hR k1 k6 h1 (by omega) ha h (k - 1) 0 (by omega)
theorem mk_b : ∀ (m b x : Nat), b < 1024 → mk m b x < 1024 := by
  intro m; induction m with
  | zero => intro b x h; exact h
  | succ m ih =>
    intro b x h
    rw [mk]
    refine ih _ _ (Nat.or_lt_two_pow (n := 10) h (Nat.pow_lt_pow_right (by omega) (by omega)))
theorem mkS {b x : Nat} (hb : b < 1024) (hx : x < 2147483648) : iOr (b : Int) (iShl 1 (iRem (x : Int) 10)) = ((b ||| 2 ^ (x % 10) : Nat) : Int) := by
  have hp : 2 ^ (x % 10) < 1024 := Nat.pow_lt_pow_right (a := 2) (n := 10) (by omega) (by omega)
  have h1 := nShl (a := 1) (k := x % 10) (by omega) (by omega)
  rw [Nat.one_mul] at h1
  rw [rm10 hx]
  have h2 : iShl 1 ((x % 10 : Nat) : Int) = ((2 ^ (x % 10) : Nat) : Int) := h1
  rw [h2, nOr (by omega) (by omega)]
theorem shk {k : Nat} (h : k ≤ 6) : iShl 1 (k : Int) - 1 = ((2 ^ k - 1 : Nat) : Int) := by
  have h0 : 2 ^ k ≤ 64 := Nat.pow_le_pow_right (n := 2) (j := 6) (by omega) h
  have h1 := nShl (a := 1) (k := k) (by omega) (by omega)
  rw [Nat.one_mul] at h1
  have h2 : iShl 1 (k : Int) = ((2 ^ k : Nat) : Int) := h1
  have := Nat.two_pow_pos k
  rw [h2]; omega
theorem orb {b x : Nat} (hb : b < 1024) : b ||| 2 ^ (x % 10) < 1024 := Nat.or_lt_two_pow (n := 10) hb (Nat.pow_lt_pow_right (by omega) (by omega))
theorem l145 (hd : 1 ≤ d) (k6 : k ≤ 6) : ∀ (m b x j : Nat), j + m = k → b < 1024 → x < 2147483648 → Φ (some (.inl (b2 (mk m b x = 2 ^ k - 1)))) μ →
    G E d 145 Φ 6 [none, some (.inl (k : Int)), some (.inl (b : Int)), some (.inl (x : Int)), some (.inl (j : Int))] [] μ := by
  have h0 : 2 ^ k ≤ 64 := Nat.pow_le_pow_right (n := 2) (j := 6) (by omega) k6
  intro m
  induction m with
  | zero =>
    intro b x j hj hb hx h
    rw [mk] at h
    refine v145_6 hd ?_
    rw [shk k6]
    exact ⟨inR_of (by omega) (by omega), inR_of (by omega) (by omega), fun _ => ⟨inR_of (by omega) (by omega), inR_of (by omega) (by omega), fun h1 => ff h (by omega), fun h1 => ft h (by omega)⟩, fun h1 => by omega⟩
  | succ m ih =>
    intro b x j hj hb hx h
    rw [mk] at h
    refine v145_6 hd ⟨inR_of (by omega) (by omega), inR_of (by omega) (by omega), fun h1 => by omega, fun _ => ?_⟩
    rw [mkS hb hx, dv10 hx]
    exact ih _ _ (j + 1) (by omega) (orb hb) (by omega) h
theorem s145 (hd : 1 ≤ d) (k6 : k ≤ 6) (ha : a < 2147483648) (h : Φ (some (.inl (b2 (mk k 0 a = 2 ^ k - 1)))) μ) : Ct E d 145 [.inl (a : Int), .inl (k : Int)] μ Φ :=
  v145 hd (l145 hd k6 k 0 a 0 (by omega) (by omega) ha h)
theorem s144 {a b : Int} (hd : 2 ≤ d) (ha : inR a) (hb : inR b) (hR : RW μ n f) (h : ∀ z, coZ f n a b z → Φ (some (.inl z)) μ) : Ct E d 144 [.inr 0, .inl a, .inl b] μ Φ := by
  have hA : a ≤ 2147483647 := by have := ha.2; omega
  have key : ∀ (m j : Nat), 1 ≤ j → j + m = 7 → (∀ k, 1 ≤ k → k < j → ¬ (0 ≤ a ∧ 10 ^ k ≤ a.toNat ∧ a.toNat < 2 * 10 ^ k)) →
      G E d 144 Φ 4 [some (.inr 0), some (.inl a), some (.inl b), some (.inl ((10 ^ j : Nat) : Int)), some (.inl (j : Int))] [] μ := by
    intro m
    induction m with
    | zero =>
      intro j j1 hj hn
      refine v144_4 (by omega) ⟨inR_of (by omega) (by omega), fun _ => h _ (Or.inr ⟨?_, rfl⟩), fun h1 => by omega⟩
      rintro ⟨k, a0, k1, k6, g1, g2, g3⟩
      exact hn k k1 (by omega) ⟨a0, g1, g2⟩
    | succ m ih =>
      intro j j1 hj hn
      have g1 : 10 ^ j ≤ 1000000 := pw_le (j := 6) (by omega)
      have g0 : 0 < 10 ^ j := Nat.pow_pos (by omega)
      have nx : ¬ (0 ≤ a ∧ 10 ^ j ≤ a.toNat ∧ a.toNat < 2 * 10 ^ j) → G E d 144 Φ 4 [some (.inr 0), some (.inl a), some (.inl b), some (.inl (((10 ^ j : Nat) : Int) * 10)), some (.inl ((j : Int) + 1))] [] μ := by
        intro hno
        have := ih (j + 1) (by omega) (by omega) (fun k k1 kj => by
          by_cases e : k = j
          · rw [e]; exact hno
          · exact hn k k1 (by omega))
        rw [Nat.pow_succ, show ((10 ^ j * 10 : Nat) : Int) = ((10 ^ j : Nat) : Int) * 10 by rw [Int.natCast_mul]; rfl, show ((j + 1 : Nat) : Int) = (j : Int) + 1 by omega] at this
        exact this
      refine v144_4 (by omega) ⟨inR_of (by omega) (by omega), fun h1 => by omega, fun _ => ⟨ha, inR_of (by omega) (by omega), fun h1 => nx (by omega), fun h1 => ⟨ha, inR_of (by omega) (by omega), fun h2 => nx (by omega), fun h2 => ?_⟩⟩⟩
      obtain ⟨a, rfl⟩ : ∃ q : Nat, a = q := ⟨a.toNat, by omega⟩
      refine s145 (by omega) (by omega) (by omega) ⟨b2_in _, fun h3 => h _ (Or.inr ⟨?_, rfl⟩), fun h3 => ?_⟩
      · rintro ⟨k, a0, k1, k6, q1, q2, q3⟩
        rw [Int.toNat_natCast] at q1 q2 q3
        have e : k = j := by
          rcases Nat.lt_trichotomy k j with h | h | h
          · have := p10 h; omega
          · exact h
          · have := p10 h; omega
        rw [e] at q3
        exact b2_0.mp h3 q3
      · have hk : goodK a j := ⟨j1, by omega, by omega, by omega, b2_ne0.mp h3⟩
        refine s93 (by omega) hR hk (by omega) hb (h _ (Or.inl ⟨j, by omega, ?_, ?_⟩))
        · rwa [Int.toNat_natCast]
        · rw [Int.toNat_natCast]
  exact v144 (by omega) (key 6 1 (by omega) (by omega) (fun k k1 kj => by omega))
/-! the reference's columns -/
theorem l272_32 {μ0 : Mm} (hd : 2 ≤ d) (k1 : 1 ≤ k) (k6 : k ≤ 6) (ha : a < 2147483648) (hy : goodK a k → ∀ μ', Eo 154 μ0 μ' → (∀ p : Nat, p < k → μ' 154 p = dgt a k p) → Φ (some (.inl (k : Int))) μ') (hn : ¬ goodK a k → ∀ μ', Eo 154 μ0 μ' → Φ (some (.inl (-1))) μ') : ∀ (m : Nat) (b j : Nat) (μ : Mm), j + m = k → b < 1024 → mk k 0 a = mk m b (a / 10 ^ j) → Eo 154 μ0 μ → (∀ p : Nat, p < k → k ≤ p + j → μ 154 p = dgt a k p) →
    G E d 272 Φ 32 [some (.inr 123), none, some (.inl (k : Int)), some (.inl ((a / 10 ^ j : Nat) : Int)), some (.inl (b : Int)), some (.inl ((m : Int) - 1))] [] μ := by
  have h0 : 2 ^ k ≤ 64 := Nat.pow_le_pow_right (n := 2) (j := 6) (by omega) k6
  intro m
  induction m with
  | zero =>
    intro b j μ hj hb he hE hall
    have g0 : 0 < 10 ^ k := Nat.pow_pos (by omega)
    have hq : a / 10 ^ j < 2147483648 := Nat.lt_of_le_of_lt (Nat.div_le_self _ _) ha
    have hq0 : (0 : Int) ≤ ((a / 10 ^ j : Nat) : Int) := Int.natCast_nonneg _
    obtain rfl : j = k := by omega
    rw [mk] at he
    have h1 : a / 10 ^ j = 1 ↔ (10 ^ j ≤ a ∧ a < 2 * 10 ^ j) := by
      rw [Nat.div_eq_iff g0]
      omega
    refine v272_32 (by omega) ?_
    rw [shk k6]
    have cq : ((a / 10 ^ j : Nat) : Int) = 1 ↔ a / 10 ^ j = 1 := ⟨fun e => Int.ofNat.inj e, fun e => by rw [e]; rfl⟩
    have cr : inR ((a / 10 ^ j : Nat) : Int) := by
      generalize a / 10 ^ j = q at hq
      exact inR_of (by omega) (by omega)
    refine ⟨inR_of (by omega) (by omega), fun _ => ⟨cr, fun h2 => hn (fun g => h2 (cq.mpr (h1.mpr ⟨g.2.2.1, g.2.2.2.1⟩))) μ hE, fun h2 => ⟨inR_of (by omega) (by omega), inR_of (by omega) (by omega), fun h3 => hn (fun g => h3 (by rw [← he, g.2.2.2.2])) μ hE, fun h3 => ?_⟩⟩, fun h2 => by omega⟩
    have h4 := h1.mp (cq.mp h2)
    exact hy ⟨k1, k6, h4.1, h4.2, by rw [he]; omega⟩ μ hE (fun p hp => hall p hp (by omega))
  | succ m ih =>
    intro b j μ hj hb he hE hall
    have hq : a / 10 ^ j < 2147483648 := Nat.lt_of_le_of_lt (Nat.div_le_self _ _) ha
    refine v272_32 (by omega) ⟨inR_of (by omega) (by omega), fun h2 => by omega, fun _ => ⟨by omega, ?_⟩⟩
    rw [mkS hb hq, dv10 hq, rm10 hq, Nat.div_div_eq_div_mul, ← Nat.pow_succ]
    have em : ((m + 1 : Nat) : Int) - 1 = (m : Int) := by omega
    rw [em]
    rw [mk, Nat.div_div_eq_div_mul, ← Nat.pow_succ] at he
    refine ih _ (j + 1) _ (by omega) (orb hb) he hE.mu (fun p hp hj2 => ?_)
    by_cases e : p = m
    · rw [e, mu_s]; unfold dgt; rw [show k - 1 - m = j by omega]
    · rw [mu_i (by omega)]; exact hall p hp (by omega)
theorem s272 {a : Int} {μ0 : Mm} (hd : 2 ≤ d) (ha : inR a) (hy : ∀ k : Nat, 0 ≤ a → goodK a.toNat k → ∀ μ', Eo 154 μ0 μ' → (∀ p : Nat, p < k → μ' 154 p = dgt a.toNat k p) → Φ (some (.inl (k : Int))) μ') (hn : (¬ ∃ k : Nat, 0 ≤ a ∧ goodK a.toNat k) → ∀ μ', Eo 154 μ0 μ' → Φ (some (.inl (-1))) μ') : Ct E d 272 [.inr 123, .inl a] μ0 Φ := by
  refine v272 (by omega) ?_
  by_cases h9 : a ≤ 9
  · refine v272_4 (by omega) ⟨ha, fun _ => s153 (by omega) (inR_of (by omega) (by omega)) (inR_of (by omega) (by omega)) (inR_of (by omega) (by omega)) ⟨b2_in _, fun h1 => absurd (b2_ne0.mp h1) (by omega), fun _ => hn ?_ μ0 Eo.rf⟩, fun h1 => by omega⟩
    rintro ⟨k, a0, k1, k6, q1, q2, q3⟩
    have := pw_le (k := 1) (j := k) k1
    omega
  have hA := ha.2
  obtain ⟨a, rfl⟩ : ∃ q : Nat, a = q := ⟨a.toNat, by omega⟩
  rw [Int.toNat_natCast] at hy hn
  have key : ∀ (m j : Nat), j + m = 10 → 0 < a / 10 ^ j → G E d 272 Φ 4 [some (.inr 123), some (.inl (a : Int)), some (.inl (j : Int)), some (.inl ((a / 10 ^ j : Nat) : Int)), none, none] [] μ0 := by
    intro m
    induction m with
    | zero =>
      intro j hj hp
      exfalso
      have : 10 ^ j ≤ a := (Nat.div_pos_iff.mp hp).2
      rw [show j = 10 by omega] at this
      omega
    | succ m ih =>
      intro j hj hp
      have hq : a / 10 ^ j < 2147483648 := Nat.lt_of_le_of_lt (Nat.div_le_self _ _) (by omega)
      have g0 : 0 < 10 ^ j := Nat.pow_pos (by omega)
      refine v272_4 (by omega) ?_
      rw [dv10 hq, Nat.div_div_eq_div_mul, ← Nat.pow_succ]
      have hlt : ∀ q : Nat, a / 10 ^ j = q → q ≤ 9 → a < 10 * 10 ^ j := fun q e hq => (Nat.div_lt_iff_lt_mul g0).mp (by omega)
      have hge := (Nat.div_pos_iff.mp hp).2
      have hnext : 9 < a / 10 ^ j → 0 < a / 10 ^ (j + 1) := fun e => by rw [Nat.pow_succ, ← Nat.div_div_eq_div_mul]; omega
      generalize hQ : a / 10 ^ j = q at *
      refine ⟨inR_of (by omega) (by omega), fun h1 => s153 (by omega) (inR_of (by omega) (by omega)) (inR_of (by omega) (by omega)) (inR_of (by omega) (by omega)) ⟨b2_in _, fun h2 => ?_, fun h2 => hn ?_ μ0 Eo.rf⟩, fun h1 => ih (j + 1) (by omega) (hnext (by omega))⟩
      · have h2 := b2_ne0.mp h2
        have hu := hlt q rfl (by omega)
        have := l272_32 (E := E) (Φ := Φ) (k := j) (a := a) (μ0 := μ0) hd (by omega) (by omega) (by omega) (hy j (by omega)) (fun g => hn (fun ⟨k, a0, hk⟩ => g (by
          obtain ⟨k1, k6, q1, q2, q3⟩ := hk
          have e : k = j := by
            rcases Nat.lt_trichotomy k j with h | h | h
            · have := p10 h; omega
            · exact h
            · have := p10 h; omega
          rw [← e]; exact ⟨k1, k6, q1, q2, q3⟩))) j 0 0 μ0 (by omega) (by omega) (by simp) Eo.rf (fun p p1 p2 => by omega)
        simpa using this
      · have h2 := b2_0.mp h2
        have hu := hlt q rfl (by omega)
        rintro ⟨k, a0, k1, k6, q1, q2, q3⟩
        have e : k = j := by
          rcases Nat.lt_trichotomy k j with h | h | h
          · have := p10 h; omega
          · exact h
          · have := p10 h; omega
        omega
  have := key 10 0 (by omega) (by simp; omega)
  simpa using this
theorem l273_26 {m : Nat} {A : Option Int} {B w : Int} (hw : w ≤ 100) (hd : 1 ≤ d) (hR : RM μ n f) (k1 : 1 ≤ k) (k6 : k ≤ 6) (hc : inR c)
    (h : ∀ s, 0 ≤ s → s ≤ w + 13 → A = none → s = B → G E d 273 Φ 18 [some (.inr 123), none, some (.inl c), some (.inl (k : Int)), some (.inl s), some (.inl (((k - (m + 1) : Nat) : Int) + 1)), none] [] μ)
    (hs : ∀ x, A = some x → Φ (some (.inl x)) μ) :
    ∀ (r : Nat) (i s : Int), 0 ≤ i → n ≤ i + r → i ≤ 100 → 0 ≤ s → s + r ≤ w + 13 → A = cfi f n k c r i s → B = s + ccn n k r i →
    G E d 273 Φ 26 [some (.inr 123), none, some (.inl c), some (.inl (k : Int)), some (.inl s), some (.inl ((k - (m + 1) : Nat) : Int)), some (.inl i)] [] μ := by
  obtain ⟨r1, r2, r3, r4, r5⟩ := hR
  intro r
  induction r with
  | zero =>
    intro i s i0 hn i1 s0 s1 e1 e2
    refine v273_26 hd ?_
    rw [r1]
    rw [cfi] at e1
    rw [ccn] at e2
    exact ⟨inR_of (by omega) (by omega), inR_of (by omega) (by omega), fun _ => h s s0 (by omega) e1 (by omega), fun h1 => by omega⟩
  | succ r ih =>
    intro i s i0 hn i1 s0 s1 e1 e2
    refine v273_26 hd ?_
    rw [r1]
    rw [cfi] at e1
    rw [ccn] at e2
    refine ⟨inR_of (by omega) (by omega), inR_of (by omega) (by omega), fun h1 => ?_, fun h1 => ⟨inR_of (by omega) (by omega), hc, fun h2 => ?_, fun h2 => ⟨by omega, ?_⟩⟩⟩
    · rw [if_pos h1] at e1 e2
      exact h s s0 (by omega) e1 (by omega)
    · rw [if_neg (by omega), if_neg (by omega)] at e1
      rw [if_neg (by omega)] at e2
      exact ih (i + k) (s + 1) (by omega) (by omega) (by omega) (by omega) (by omega) e1 (by omega)
    · rw [if_neg (by omega), if_pos (by omega)] at e1
      rw [r4 i i0 h1]
      exact hs _ e1
theorem l273_18 (hd : 1 ≤ d) (hR : RM μ n f) (k1 : 1 ≤ k) (k6 : k ≤ 6) (hc : inR c) (hK : ∀ p : Nat, p < k → μ 154 p = dgt a k p) : ∀ (m : Nat) (s : Int), m ≤ k → 0 ≤ s → s + 13 * m ≤ 78 → Φ (some (.inl (rdc f n c a k m s))) μ →
    G E d 273 Φ 18 [some (.inr 123), none, some (.inl c), some (.inl (k : Int)), some (.inl s), some (.inl ((k - m : Nat) : Int)), none] [] μ := by
  intro m
  induction m with
  | zero =>
    intro s hm s0 s1 h
    exact v273_18 hd ⟨inR_of (by omega) (by omega), inR_of (by omega) (by omega), fun _ => h, fun h1 => by omega⟩
  | succ m ih =>
    intro s hm s0 s1 h
    refine v273_18 hd ⟨inR_of (by omega) (by omega), inR_of (by omega) (by omega), fun h1 => by omega, fun h1 => ⟨by omega, ?_⟩⟩
    rw [hK _ (by omega)]
    have hdg : 0 ≤ dgt a k (k - (m + 1)) ∧ dgt a k (k - (m + 1)) ≤ 9 := by unfold dgt; omega
    rw [rdc] at h
    have r3 := hR.2.2.1
    refine l273_26 (m := m) (w := s) (by omega) hd hR k1 k6 hc (fun t t0 t1 tn te => ?_) (fun x hx => by rwa [hx] at h) 13 _ s hdg.1 (by omega) (by omega) s0 (by omega) rfl rfl
    rw [tn] at h
    rw [← te] at h
    have := ih t (by omega) t0 (by omega) h
    rw [show ((k - m : Nat) : Int) = ((k - (m + 1) : Nat) : Int) + 1 by omega] at this
    exact this
theorem s273 {a b : Int} (hd : 3 ≤ d) (ha : inR a) (hb : inR b) (hR : RM μ n f) (h : ∀ z μ', coZ f n a b z → Eo 154 (mu μ 123 0 0) μ' → Φ (some (.inl z)) μ') : Ct E d 273 [.inr 123, .inl a, .inl b] μ Φ := by
  refine v273 (by omega) (s272 (by omega) ha (fun k a0 hk μ' hE hK => ?_) (fun hno μ' hE => ⟨inR_of (by omega) (by omega), fun _ => h _ _ (Or.inr ⟨hno, rfl⟩) hE, fun h1 => absurd rfl h1⟩))
  have k1 := hk.1
  have k6 := hk.2.1
  refine ⟨inR_of (by omega) (by omega), fun h1 => by omega, fun _ => ⟨hb, fun h2 => ?_, fun h2 => h _ _ (Or.inl ⟨k, a0, hk, by rw [if_neg (by omega)]⟩) hE⟩⟩
  have hR' := (hR.mu0 (v := 0) (k := 0) (by decide)).eo hE (by decide) (by decide)
  have := l273_18 (E := E) (d := d) (Φ := Φ) (c := b) (by omega) hR' k1 k6 hb hK k 0 (by omega) (by omega) (by omega) (h _ _ (Or.inl ⟨k, a0, hk, ?_⟩) hE)
  · rw [Nat.sub_self] at this
    exact this
  · by_cases hbn : b < n
    · rw [if_pos ⟨h2, hbn⟩]
    · rw [if_neg (by omega)]
      refine rdc_no k 0 (by omega) ?_
      rw [Nat.sub_self]
      have := all_n hk hR.2.1 hR.2.2.1
      have e : su (fun p => ccn n k 13 (dgt a.toNat k (0 + p))) k = su (fun p => ccn n k 13 (dgt a.toNat k p)) k := su_c _ (fun i _ => by rw [Nat.zero_add])
      rw [e, this]; omega
end S13
