/-! turned rows in order -/
def tF (f : Int → Int) (n x j : Int) : Int := f ((x + j) % n)
def tl (f : Int → Int) (n x y : Int) : Prop := ∃ k, 0 ≤ k ∧ k < n ∧ (∀ j, 0 ≤ j → j < k → tF f n x j = tF f n y j) ∧ tF f n x k < tF f n y k
def te (f : Int → Int) (n x y : Int) : Prop := ∀ j, 0 ≤ j → j < n → tF f n x j = tF f n y j
def lt (f : Int → Int) (n x y : Int) : Prop := tl f n x y ∨ (te f n x y ∧ x < y)
noncomputable def rk (f : Int → Int) (n x : Int) (m : Nat) : Int := su (fun y => b2 (lt f n y x)) m
section S17
variable {f : Int → Int} {n : Int}
theorem tl_ir {x y : Int} (h : te f n x y) : ¬ tl f n x y := fun ⟨k, k0, k1, _, k3⟩ => by have := h k k0 k1; omega
theorem tl_tr {x y z : Int} (h : tl f n x y) (g : tl f n y z) : tl f n x z := by
  obtain ⟨k, k0, k1, k2, k3⟩ := h
  obtain ⟨l, l0, l1, l2, l3⟩ := g
  rcases (by omega : k < l ∨ k = l ∨ l < k) with e | e | e
  · exact ⟨k, k0, k1, fun j j0 j1 => by rw [k2 j j0 j1, l2 j j0 (by omega)], by have := l2 k k0 e; omega⟩
  · subst e; exact ⟨k, k0, k1, fun j j0 j1 => by rw [k2 j j0 j1, l2 j j0 j1], by omega⟩
  · exact ⟨l, l0, l1, fun j j0 j1 => by rw [k2 j j0 (by omega), l2 j j0 j1], by have := k2 l l0 e; omega⟩
theorem tl_te {x y z : Int} (h : tl f n x y) (g : te f n y z) : tl f n x z := by
  obtain ⟨k, k0, k1, k2, k3⟩ := h
  exact ⟨k, k0, k1, fun j j0 j1 => by rw [k2 j j0 j1, g j j0 (by omega)], by have := g k k0 k1; omega⟩
theorem te_tl {x y z : Int} (g : te f n x y) (h : tl f n y z) : tl f n x z := by
  obtain ⟨k, k0, k1, k2, k3⟩ := h
  exact ⟨k, k0, k1, fun j j0 j1 => by rw [g j j0 (by omega), k2 j j0 j1], by have := g k k0 k1; omega⟩
theorem te_tr {x y z : Int} (g : te f n x y) (h : te f n y z) : te f n x z := fun j j0 j1 => by rw [g j j0 j1, h j j0 j1]
theorem te_sy {x y : Int} (g : te f n x y) : te f n y x := fun j j0 j1 => (g j j0 j1).symm
theorem lt_tr {x y z : Int} (h : lt f n x y) (g : lt f n y z) : lt f n x z := by
  rcases h with h | ⟨h, h'⟩
  · rcases g with g | ⟨g, g'⟩
    · exact Or.inl (tl_tr h g)
    · exact Or.inl (tl_te h g)
  · rcases g with g | ⟨g, g'⟩
    · exact Or.inl (te_tl h g)
    · exact Or.inr ⟨te_tr h g, by omega⟩
theorem lt_ir {x : Int} : ¬ lt f n x x := by
  rintro (h | ⟨_, h⟩)
  · exact tl_ir (fun j _ _ => rfl) h
  · omega
theorem tl_tot (x y : Int) : tl f n x y ∨ te f n x y ∨ tl f n y x := by
  have key : ∀ m : Nat, (m : Int) ≤ n → tl f n x y ∨ (∀ j : Int, 0 ≤ j → j < m → tF f n x j = tF f n y j) ∨ tl f n y x := by
    intro m; induction m with
    | zero => intro _; exact Or.inr (Or.inl fun j _ _ => by omega)
    | succ m ih =>
      intro hm
      rcases ih (by omega) with h | h | h
      · exact Or.inl h
      · rcases (by omega : tF f n x m < tF f n y m ∨ tF f n x m = tF f n y m ∨ tF f n y m < tF f n x m) with e | e | e
        · exact Or.inl ⟨m, by omega, by omega, h, e⟩
        · refine Or.inr (Or.inl fun j j0 j1 => ?_)
          by_cases q : j = m
          · rw [q]; exact e
          · exact h j j0 (by omega)
        · exact Or.inr (Or.inr ⟨m, by omega, by omega, fun j j0 j1 => (h j j0 j1).symm, e⟩)
      · exact Or.inr (Or.inr h)
  by_cases h0 : 0 ≤ n
  · have := key n.toNat (by omega)
    rw [show ((n.toNat : Nat) : Int) = n by omega] at this
    exact this
  · exact Or.inr (Or.inl fun j _ _ => by omega)
theorem lt_tot {x y : Int} (h : x ≠ y) : lt f n x y ∨ lt f n y x := by
  rcases tl_tot (f := f) (n := n) x y with e | e | e
  · exact Or.inl (Or.inl e)
  · rcases (by omega : x < y ∨ y < x) with q | q
    · exact Or.inl (Or.inr ⟨e, q⟩)
    · exact Or.inr (Or.inr ⟨te_sy e, q⟩)
  · exact Or.inr (Or.inl e)
theorem b2_le {p q : Prop} (h : p → q) : b2 p ≤ b2 q := by
  by_cases hp : p
  · rw [b2_t hp, b2_t (h hp)]; omega
  · rw [b2_f hp]; rcases b2_01 q with e | e <;> omega
theorem ct_le {p q : Nat → Prop} : ∀ m : Nat, (∀ y, y < m → p y → q y) → su (fun y => b2 (p y)) m ≤ su (fun y => b2 (q y)) m := by
  intro m; induction m with
  | zero => intro _; exact Int.le_refl _
  | succ m ih => intro h; have h1 := ih (fun y hy => h y (by omega)); have h2 := b2_le (h m (by omega)); rw [su, su]; omega
theorem ct_lt {p q : Nat → Prop} {z : Nat} : ∀ m : Nat, z < m → (∀ y, y < m → p y → q y) → q z → ¬ p z → su (fun y => b2 (p y)) m + 1 ≤ su (fun y => b2 (q y)) m := by
  intro m; induction m with
  | zero => intro h; omega
  | succ m ih =>
    intro hz h hq hp
    rw [su, su]
    by_cases e : z = m
    · subst e
      have := ct_le (p := p) (q := q) z (fun y hy => h y (by omega))
      rw [b2_t hq, b2_f hp]; omega
    · have h1 := ih (by omega) (fun y hy => h y (by omega)) hq hp
      have h2 := b2_le (h m (by omega)); omega
theorem rk_mo {x y : Int} {m : Nat} (h : lt f n x y) (x0 : 0 ≤ x) (xm : x < m) : rk f n x m + 1 ≤ rk f n y m := by
  unfold rk
  refine ct_lt (z := x.toNat) m (by omega) (fun w _ hw => lt_tr hw h) ?_ ?_
  · rw [show ((x.toNat : Nat) : Int) = x by omega]; exact h
  · rw [show ((x.toNat : Nat) : Int) = x by omega]; exact lt_ir
theorem rk_le {x y : Int} {m : Nat} (h : lt f n x y) : rk f n x m ≤ rk f n y m := ct_le m (fun w _ hw => lt_tr hw h)
theorem rk_in {x : Int} (m : Nat) : 0 ≤ rk f n x m ∧ rk f n x m ≤ m := by
  have := su_b (g := fun y => b2 (lt f n y x)) (B := 1) m (fun i _ => by rcases b2_01 (lt f n i x) with e | e <;> rw [e] <;> omega)
  unfold rk; omega
theorem rk_lt {x : Int} {m : Nat} (x0 : 0 ≤ x) (xm : x < m) : rk f n x m < m := by
  have h1 := ct_lt (p := fun y => lt f n y x) (q := fun _ => True) (z := x.toNat) m (by omega) (fun _ _ _ => trivial) trivial (by rw [show ((x.toNat : Nat) : Int) = x by omega]; exact lt_ir)
  have h2 := su_b (g := fun _ => b2 True) (B := 1) m (fun i _ => by rw [b2_t trivial]; omega)
  unfold rk; omega
theorem rk_inj {x y : Int} {m : Nat} (x0 : 0 ≤ x) (xm : x < m) (y0 : 0 ≤ y) (ym : y < m) (h : rk f n x m = rk f n y m) : x = y := by
  apply Classical.byContradiction
  intro e
  rcases lt_tot (f := f) (n := n) e with g | g
  · have := rk_mo g x0 xm; omega
  · have := rk_mo g y0 ym; omega
theorem rk_s (x : Int) (m : Nat) : rk f n x (m + 1) = rk f n x m + b2 (lt f n m x) := rfl
/-- sorted so far -/
def tJ (f : Int → Int) (n : Int) (T : Int → Int) (m : Nat) : Prop := ∀ p : Int, 0 ≤ p → p < m → 0 ≤ T p ∧ T p < m ∧ rk f n (T p) m = p
/-- one more is put where it belongs -/
theorem tJ_s {T T' : Int → Int} {m : Nat} {q : Int} (hJ : tJ f n T m) (q0 : 0 ≤ q) (q1 : q ≤ m) (hlo : ∀ p : Int, 0 ≤ p → p < q → T' p = T p) (hhi : ∀ p : Int, q < p → p ≤ m → T' p = T (p - 1)) (hq : T' q = m)
    (hz : 0 < q → ¬ tl f n m (T (q - 1))) (hw : ∀ p : Int, q ≤ p → p < m → tl f n m (T p)) : tJ f n T' (m + 1) := by
  have hzl : 0 < q → lt f n (T (q - 1)) m := by
    intro h
    have := hJ (q - 1) (by omega) (by omega)
    rcases lt_tot (f := f) (n := n) (x := T (q - 1)) (y := (m : Int)) (by omega) with g | g
    · exact g
    · rcases g with g | ⟨_, g⟩
      · exact absurd g (hz h)
      · omega
  have hnl : ∀ p : Int, 0 ≤ p → p < q → ¬ lt f n m (T p) := by
    intro p p0 p1 h
    have a := hJ p p0 (by omega)
    have b := hJ (q - 1) (by omega) (by omega)
    have := rk_mo (m := m) (lt_tr (hzl (by omega)) h) b.1 b.2.1
    omega
  have hrm : rk f n m m = q := by
    have h1 : q ≤ rk f n m m := by
      by_cases h : 0 < q
      · have b := hJ (q - 1) (by omega) (by omega)
        have := rk_mo (m := m) (hzl h) b.1 b.2.1
        omega
      · have := (rk_in (f := f) (n := n) (x := (m : Int)) m).1; omega
    have h2 : rk f n m m ≤ q := by
      by_cases h : q < m
      · have b := hJ q q0 h
        have := rk_le (m := m) (Or.inl (hw q (by omega) h) : lt f n m (T q))
        omega
      · have := (rk_in (f := f) (n := n) (x := (m : Int)) m).2; omega
    omega
  intro p p0 p1
  rcases (by omega : p < q ∨ p = q ∨ q < p) with e | e | e
  · have a := hJ p p0 (by omega)
    rw [hlo p p0 e, rk_s, b2_f (hnl p p0 e)]
    exact ⟨a.1, by omega, by omega⟩
  · rw [e, hq, rk_s, b2_f lt_ir]
    exact ⟨by omega, by omega, by omega⟩
  · have a := hJ (p - 1) (by omega) (by omega)
    rw [hhi p e (by omega), rk_s, b2_t (show lt f n m (T (p - 1)) from Or.inl (hw (p - 1) (by omega) (by omega)))]
    exact ⟨a.1, by omega, by omega⟩
/-- the answer to turned -/
def tuZ (f : Int → Int) (n a z : Int) : Prop := (a = -1 ∧ z = if n = 0 then -1 else rk f n 0 n.toNat) ∨ (a ≠ -1 ∧ 0 ≤ a ∧ a < n ∧ ∃ x, 0 ≤ x ∧ x < n ∧ rk f n x n.toNat = a ∧ z = f ((x + n - 1) % n)) ∨ (a ≠ -1 ∧ ¬ (0 ≤ a ∧ a < n) ∧ z = -1)
theorem tuZ_u {a z w : Int} (h1 : tuZ f n a z) (h2 : tuZ f n a w) : z = w := by
  rcases h1 with ⟨a1, a2⟩ | ⟨a1, a2, a3, x, x0, x1, x2, x3⟩ | ⟨a1, a2, a3⟩
  · rcases h2 with ⟨b1, b2⟩ | ⟨b1, _⟩ | ⟨b1, _⟩
    · rw [a2, b2]
    · exact absurd a1 b1
    · exact absurd a1 b1
  · rcases h2 with ⟨b1, b2⟩ | ⟨b1, b2, b3, y, y0, y1, y2, y3⟩ | ⟨b1, b2, b3⟩
    · exact absurd b1 a1
    · rw [x3, y3, rk_inj (m := n.toNat) x0 (by omega) y0 (by omega) (by rw [x2, y2])]
    · exact absurd ⟨a2, a3⟩ b2
  · rcases h2 with ⟨b1, b2⟩ | ⟨b1, b2, b3, _⟩ | ⟨b1, b2, b3⟩
    · exact absurd b1 a1
    · exact absurd ⟨b2, b3⟩ a2
    · rw [a3, b3]
end S17
section S18
variable {E : En} {d : Nat} {Φ : Option AV → Mm → Prop} {μ : Mm} {n : Int} {f : Int → Int}
theorem rmN {x : Int} (x0 : 0 ≤ x) (x1 : x < 100) (n0 : 0 < n) (n1 : n ≤ 12) : iRem x n = x % n ∧ 0 ≤ x % n ∧ x % n < n := by
  refine ⟨iRem_eq x0 (inR_of (by omega) (by omega)) n0 (inR_of (by omega) (by omega)), Int.emod_nonneg _ (by omega), Int.emod_lt_of_pos _ n0⟩
theorem l78 {a b : Int} (hd : 1 ≤ d) (hR : RW μ n f) (a0 : 0 ≤ a) (a1 : a < n) (b0 : 0 ≤ b) (b1 : b < n) (h : Φ (some (.inl (b2 (tl f n a b)))) μ) : ∀ (m : Nat) (k : Int), 0 ≤ k → k + m = n → (∀ j, 0 ≤ j → j < k → tF f n a j = tF f n b j) →
    G E d 78 Φ 2 [some (.inr 50), some (.inl a), some (.inl b), some (.inl k), none, none] [] μ := by
  obtain ⟨r1, r2, r3, r4, r5⟩ := hR
  intro m
  induction m with
  | zero =>
    intro k k0 hm hall
    refine v78_2 hd ?_
    rw [r1]
    exact ⟨inR_of (by omega) (by omega), inR_of (by omega) (by omega), fun _ => ff h (tl_ir fun j j0 j1 => hall j j0 (by omega)), fun h1 => by omega⟩
  | succ m ih =>
    intro k k0 hm hall
    obtain ⟨p1, p2, p3⟩ := rmN (n := n) (x := a + k) (by omega) (by omega) (by omega) r3
    obtain ⟨q1, q2, q3⟩ := rmN (n := n) (x := b + k) (by omega) (by omega) (by omega) r3
    have g1 := r5 _ p2 p3
    have g2 := r5 _ q2 q3
    refine v78_2 hd ?_
    rw [r1, p1, q1, r4 _ p2 p3, r4 _ q2 q3]
    refine ⟨inR_of (by omega) (by omega), inR_of (by omega) (by omega), fun h1 => by omega, fun _ => ⟨w32_ne0 (inR_of (by omega) (by omega)) (by omega), by omega, w32_ne0 (inR_of (by omega) (by omega)) (by omega), by omega, inR_of (by omega) (by omega), inR_of (by omega) (by omega), fun h2 => ?_, fun h2 => ⟨inR_of (by omega) (by omega), inR_of (by omega) (by omega), fun h3 => ff h ?_, fun h3 => ft h ⟨k, k0, by omega, hall, h3⟩⟩⟩⟩
    · refine ih (k + 1) (by omega) (by omega) fun j j0 j1 => ?_
      by_cases e : j = k
      · rw [e]; exact h2
      · exact hall j j0 (by omega)
    · intro hc
      have hs : tl f n b a := ⟨k, k0, by omega, fun j j0 j1 => (hall j j0 j1).symm, by unfold tF; omega⟩
      exact tl_ir (fun j _ _ => rfl) (tl_tr hc hs)
theorem s78 {a b : Int} (hd : 1 ≤ d) (hR : RW μ n f) (a0 : 0 ≤ a) (a1 : a < n) (b0 : 0 ≤ b) (b1 : b < n) (h : Φ (some (.inl (b2 (tl f n a b)))) μ) : Ct E d 78 [.inr 50, .inl a, .inl b] μ Φ := by
  have r2 := hR.2.1
  exact v78 hd (l78 hd hR a0 a1 b0 b1 h n.toNat 0 (by omega) (by omega) (fun j j0 j1 => by omega))
theorem l77_8 {μ0 : Mm} {T : Int → Int} {m : Nat} (hd : 2 ≤ d) (h0R : RW μ0 n f) (hm : (m : Int) < n) (hJ : tJ f n T m) (h : ∀ μ' T', Eo 52 μ0 μ' → tJ f n T' (m + 1) → (∀ p : Int, 0 ≤ p → p < (m + 1 : Nat) → μ' 52 p = T' p) → G E d 77 Φ 2 [some (.inr 50), some (.inl ((m : Int) + 1)), none] [] μ') : ∀ (q : Nat) (μ : Mm), q ≤ m → Eo 52 μ0 μ → (∀ p : Int, 0 ≤ p → p < q → μ 52 p = T p) → (∀ p : Int, q < p → p ≤ m → μ 52 p = T (p - 1)) → (∀ p : Int, q ≤ p → p < m → tl f n m (T p)) →
    G E d 77 Φ 8 [some (.inr 50), some (.inl (m : Int)), some (.inl (q : Int))] [] μ := by
  intro q
  induction q with
  | zero =>
    intro μ hq hE hlo hhi hw
    have hR := h0R.eo hE (by decide) (by decide)
    have r3 := hR.2.2.1
    refine v77_8 (by omega) ⟨inR_of (by omega) (by omega), fun _ => ⟨by omega, ?_⟩, fun h1 => by omega⟩
    refine h _ (mu μ 52 (0 : Nat) m 52) hE.mu ?_ (fun p _ _ => rfl)
    refine tJ_s (q := 0) hJ (by omega) (by omega) (fun p p0 p1 => by omega) (fun p p0 p1 => by rw [mu_i (by omega)]; exact hhi p (by omega) p1) (mu_s _ _ _ _) (fun e => by omega) (fun p p0 p1 => hw p (by omega) p1)
  | succ q ih =>
    intro μ hq hE hlo hhi hw
    have hR := h0R.eo hE (by decide) (by decide)
    have r3 := hR.2.2.1
    have e1 : ((q + 1 : Nat) : Int) - 1 = q := by omega
    have t0 := hJ q (by omega) (by omega)
    refine v77_8 (by omega) ?_
    rw [e1, hlo q (by omega) (by omega)]
    refine ⟨inR_of (by omega) (by omega), fun h1 => by omega, fun _ => ⟨by omega, s78 (by omega) hR (by omega) hm t0.1 (by omega) ⟨b2_in _, fun h2 => ⟨by omega, ?_⟩, fun h2 => ⟨by omega, by omega, ?_⟩⟩⟩⟩
    · refine h _ (mu μ 52 ((q + 1 : Nat) : Int) m 52) hE.mu ?_ (fun p _ _ => rfl)
      refine tJ_s (q := ((q + 1 : Nat) : Int)) hJ (by omega) (by omega) (fun p p0 p1 => by rw [mu_i (by omega)]; exact hlo p p0 p1) (fun p p0 p1 => by rw [mu_i (by omega)]; exact hhi p p0 p1) (mu_s _ _ _ _) (fun _ => by rw [e1]; exact b2_0.mp h2) hw
    · rw [show ((q + 1 : Nat) : Int) + -1 = (q : Int) by omega]
      refine ih _ (by omega) hE.mu (fun p p0 p1 => by rw [mu_i (by omega)]; exact hlo p p0 (by omega)) (fun p p0 p1 => ?_) (fun p p0 p1 => ?_)
      · by_cases e : p = ((q + 1 : Nat) : Int)
        · rw [e, mu_s, e1, hlo q (by omega) (by omega)]
        · rw [mu_i e]; exact hhi p (by omega) p1
      · by_cases e : p = (q : Int)
        · rw [e]; exact b2_ne0.mp h2
        · exact hw p (by omega) p1
theorem l77_2 {μ0 : Mm} (hd : 2 ≤ d) (h0R : RW μ0 n f) (h : ∀ μ' T, Eo 52 μ0 μ' → tJ f n T n.toNat → (∀ p : Int, 0 ≤ p → p < n → μ' 52 p = T p) → Φ none μ') : ∀ (r m : Nat) (μ : Mm) (T : Int → Int), (m : Int) + r = n → Eo 52 μ0 μ → tJ f n T m → (∀ p : Int, 0 ≤ p → p < m → μ 52 p = T p) →
    G E d 77 Φ 2 [some (.inr 50), some (.inl (m : Int)), none] [] μ := by
  have r3 := h0R.2.2.1
  intro r
  induction r with
  | zero =>
    intro m μ T hm hE hJ hT
    have hR := h0R.eo hE (by decide) (by decide)
    refine v77_2 (by omega) ?_
    rw [hR.1]
    exact ⟨inR_of (by omega) (by omega), inR_of (by omega) (by omega), fun _ => h μ T hE (by rw [show n.toNat = m by omega]; exact hJ) (fun p p0 p1 => hT p p0 (by omega)), fun h1 => by omega⟩
  | succ r ih =>
    intro m μ T hm hE hJ hT
    have hR := h0R.eo hE (by decide) (by decide)
    refine v77_2 (by omega) ?_
    rw [hR.1]
    refine ⟨inR_of (by omega) (by omega), inR_of (by omega) (by omega), fun h1 => by omega, fun _ => ?_⟩
    refine l77_8 hd h0R (by omega) hJ (fun μ' T' e' j' t' => ?_) m μ (Nat.le_refl _) hE hT (fun p p0 p1 => by omega) (fun p p0 p1 => by omega)
    exact ih (m + 1) μ' T' (by omega) e' j' t'
theorem s77 (hd : 2 ≤ d) (hR : RW μ n f) (h : ∀ μ' T, Eo 52 μ μ' → tJ f n T n.toNat → (∀ p : Int, 0 ≤ p → p < n → μ' 52 p = T p) → Φ none μ') : Ct E d 77 [.inr 50] μ Φ := by
  have r2 := hR.2.1
  exact v77 (by omega) (l77_2 hd hR h n.toNat 0 μ (fun _ => 0) (by omega) Eo.rf (fun p p0 p1 => by omega) (fun p p0 p1 => by omega))
theorem s79 {a : Int} (hd : 3 ≤ d) (ha : inR a) (hne : a ≠ -1) (hR : RW μ n f) (h : ∀ z μ', tuZ f n a z → Eo 52 μ μ' → Φ (some (.inl z)) μ') : Ct E d 79 [.inr 50, .inl a] μ Φ := by
  have r1 := hR.1
  have r2 := hR.2.1
  have r3 := hR.2.2.1
  refine v79 (by omega) ?_
  rw [r1]
  refine ⟨ha, fun h1 => h _ _ (Or.inr (Or.inr ⟨hne, by omega, rfl⟩)) Eo.rf, fun h1 => ⟨ha, inR_of (by omega) (by omega), fun h2 => s77 (by omega) hR (fun μ' T e' j' t' => ?_), fun h2 => h _ _ (Or.inr (Or.inr ⟨hne, by omega, rfl⟩)) Eo.rf⟩⟩
  have hR' := hR.eo e' (by decide) (by decide)
  have t0 := j' a h1 (by omega)
  obtain ⟨p1, p2, p3⟩ := rmN (n := n) (x := T a + n - 1) (by omega) (by omega) (by omega) r3
  show _ ∧ _
  rw [hR'.1, t' a h1 h2, p1, hR'.2.2.2.1 _ p2 p3]
  exact ⟨by omega, w32_ne0 (inR_of (by omega) (by omega)) (by omega), by omega, h _ _ (Or.inr (Or.inl ⟨hne, h1, h2, T a, t0.1, by omega, t0.2.2, rfl⟩)) e'⟩
theorem s80 (hd : 3 ≤ d) (hR : RW μ n f) (h : ∀ z μ', tuZ f n (-1) z → Eo 52 μ μ' → Φ (some (.inl z)) μ') : Ct E d 80 [.inr 50] μ Φ := by
  have r2 := hR.2.1
  have r3 := hR.2.2.1
  refine v80 (by omega) (s77 (by omega) hR (fun μ' T e' j' t' => ?_))
  have hR' := hR.eo e' (by decide) (by decide)
  have key : ∀ (m : Nat) (k : Int), 0 ≤ k → k + m = n → (0 < n → k ≤ rk f n 0 n.toNat) → G E d 80 Φ 4 [some (.inr 50), some (.inl k)] [] μ' := by
    intro m
    induction m with
    | zero =>
      intro k k0 hm hk
      refine v80_4 (by omega) ?_
      rw [hR'.1]
      refine ⟨inR_of (by omega) (by omega), inR_of (by omega) (by omega), fun _ => h _ _ (Or.inl ⟨rfl, ?_⟩) e', fun h1 => by omega⟩
      by_cases e : n = 0
      · rw [if_pos e]
      · have := rk_lt (f := f) (n := n) (x := 0) (m := n.toNat) (by omega) (by omega)
        have := hk (by omega)
        omega
    | succ m ih =>
      intro k k0 hm hk
      have t0 := j' k k0 (by omega)
      refine v80_4 (by omega) ?_
      rw [hR'.1, t' k k0 (by omega)]
      refine ⟨inR_of (by omega) (by omega), inR_of (by omega) (by omega), fun h1 => by omega, fun _ => ⟨by omega, inR_of (by omega) (by omega), fun h2 => ih (k + 1) (by omega) (by omega) (fun hn => ?_), fun h2 => h _ _ (Or.inl ⟨rfl, ?_⟩) e'⟩⟩
      · have hb := hk hn
        have hne : k ≠ rk f n 0 n.toNat := fun e => h2 (rk_inj (f := f) (n := n) (m := n.toNat) t0.1 (by omega) (by omega) (by omega) (by rw [t0.2.2]; exact e))
        omega
      · have := t0.2.2
        rw [h2] at this
        rw [if_neg (by omega), this]
  exact key n.toNat 0 (by omega) (by omega) (fun _ => (rk_in _).1)
theorem s133 {a : Int} (hd : 4 ≤ d) (ha : inR a) (hR : RW μ n f) (h : ∀ z μ', tuZ f n a z → Eo 52 μ μ' → Φ (some (.inl z)) μ') : Ct E d 133 [.inr 0, .inl a] μ Φ :=
  v133 (by omega) ⟨ha, fun h1 => s79 (by omega) ha h1 hR (fun z μ' hz e => h z μ' hz e), fun h1 => s80 (by omega) hR (fun z μ' hz e => h z μ' (by rw [h1]; exact hz) e)⟩
/-! the reference -/
theorem l250 {a b : Int} (hd : 1 ≤ d) (hR : RM μ n f) (a0 : 0 ≤ a) (a1 : a < n) (b0 : 0 ≤ b) (b1 : b < n) (h : ∀ v, inR v → (v < 0 ↔ tl f n a b) → (v = 0 ↔ te f n a b) → Φ (some (.inl v)) μ) : ∀ (m : Nat) (k : Int), 0 ≤ k → k + m = n → (∀ j, 0 ≤ j → j < k → tF f n a j = tF f n b j) →
    G E d 250 Φ 2 [some (.inr 123), some (.inl a), some (.inl b), some (.inl k), none] [] μ := by
  obtain ⟨r1, r2, r3, r4, r5⟩ := hR
  intro m
  induction m with
  | zero =>
    intro k k0 hm hall
    have hte : te f n a b := fun j j0 j1 => hall j j0 (by omega)
    refine v250_2 hd ?_
    rw [r1]
    exact ⟨inR_of (by omega) (by omega), inR_of (by omega) (by omega), fun _ => h 0 (inR_of (by omega) (by omega)) ⟨fun e => by omega, fun e => absurd e (tl_ir hte)⟩ ⟨fun _ => hte, fun _ => rfl⟩, fun h1 => by omega⟩
  | succ m ih =>
    intro k k0 hm hall
    obtain ⟨p1, p2, p3⟩ := rmN (n := n) (x := a + k) (by omega) (by omega) (by omega) r3
    obtain ⟨q1, q2, q3⟩ := rmN (n := n) (x := b + k) (by omega) (by omega) (by omega) r3
    have g1 := r5 _ p2 p3
    have g2 := r5 _ q2 q3
    refine v250_2 hd ?_
    rw [r1, p1, q1, r4 _ p2 p3, r4 _ q2 q3]
    refine ⟨inR_of (by omega) (by omega), inR_of (by omega) (by omega), fun h1 => by omega, fun _ => ⟨w32_ne0 (inR_of (by omega) (by omega)) (by omega), by omega, w32_ne0 (inR_of (by omega) (by omega)) (by omega), by omega, inR_of (by omega) (by omega), fun h2 => ?_, fun h2 => h _ (inR_of (by omega) (by omega)) ⟨fun e => ⟨k, k0, by omega, hall, by unfold tF; omega⟩, fun e => ?_⟩ ⟨fun e => absurd e h2, fun e => ?_⟩⟩⟩
    · refine ih (k + 1) (by omega) (by omega) fun j j0 j1 => ?_
      by_cases e : j = k
      · rw [e]; unfold tF; omega
      · exact hall j j0 (by omega)
    · apply Classical.byContradiction
      intro hc
      have hs : tl f n b a := ⟨k, k0, by omega, fun j j0 j1 => (hall j j0 j1).symm, by unfold tF; omega⟩
      exact tl_ir (fun j _ _ => rfl) (tl_tr e hs)
    · have := e k k0 (by omega)
      unfold tF at this
      omega
theorem s250 {a b : Int} (hd : 1 ≤ d) (hR : RM μ n f) (a0 : 0 ≤ a) (a1 : a < n) (b0 : 0 ≤ b) (b1 : b < n) (h : ∀ v, inR v → (v < 0 ↔ tl f n a b) → (v = 0 ↔ te f n a b) → Φ (some (.inl v)) μ) : Ct E d 250 [.inr 123, .inl a, .inl b] μ Φ := by
  have r2 := hR.2.1
  exact v250 hd (l250 hd hR a0 a1 b0 b1 h n.toNat 0 (by omega) (by omega) (fun j j0 j1 => by omega))
theorem l251 {b : Int} (hd : 2 ≤ d) (hR : RM μ n f) (b0 : 0 ≤ b) (b1 : b < n) (h : Φ (some (.inl (rk f n b n.toNat))) μ) : ∀ (m i : Nat), (i : Int) + m = n →
    G E d 251 Φ 4 [some (.inr 123), some (.inl b), some (.inl (rk f n b i)), some (.inl (i : Int))] [] μ := by
  have r1 := hR.1
  have r2 := hR.2.1
  have r3 := hR.2.2.1
  intro m
  induction m with
  | zero =>
    intro i hm
    refine v251_4 (by omega) ?_
    rw [r1]
    exact ⟨inR_of (by omega) (by omega), inR_of (by omega) (by omega), fun _ => fe h (by rw [show n.toNat = i by omega]), fun h1 => by omega⟩
  | succ m ih =>
    intro i hm
    have hx := ih (i + 1) (by omega)
    rw [rk_s, show ((i + 1 : Nat) : Int) = (i : Int) + 1 by omega] at hx
    have yes : lt f n i b → G E d 251 Φ 4 [some (.inr 123), some (.inl b), some (.inl (rk f n b i + 1)), some (.inl ((i : Int) + 1))] [] μ := fun e => by rw [b2_t e] at hx; exact hx
    have no : ¬ lt f n i b → G E d 251 Φ 4 [some (.inr 123), some (.inl b), some (.inl (rk f n b i)), some (.inl ((i : Int) + 1))] [] μ := fun e => by rw [b2_f e, Int.add_zero] at hx; exact hx
    refine v251_4 (by omega) ?_
    rw [r1]
    refine ⟨inR_of (by omega) (by omega), inR_of (by omega) (by omega), fun h1 => by omega, fun _ => s250 (by omega) hR (by omega) (by omega) b0 b1 (fun v hv v1 v2 => ⟨hv, fun h2 => yes (Or.inl (v1.mp h2)), fun h2 => ?_⟩)⟩
    have hnt : ¬ tl f n i b := fun e => by have := v1.mpr e; omega
    refine s250 (by omega) hR (by omega) (by omega) b0 b1 (fun w hw w1 w2 => ⟨hw, fun h3 => no ?_, fun h3 => ⟨inR_of (by omega) (by omega), inR_of (by omega) (by omega), fun h4 => no ?_, fun h4 => yes (Or.inr ⟨w2.mp h3, h4⟩)⟩⟩)
    · rintro (e | ⟨e, _⟩)
      · exact hnt e
      · exact h3 (w2.mpr e)
    · rintro (e | ⟨_, e⟩)
      · exact hnt e
      · omega
theorem s251 {b : Int} (hd : 2 ≤ d) (hR : RM μ n f) (b0 : 0 ≤ b) (b1 : b < n) (h : Φ (some (.inl (rk f n b n.toNat))) μ) : Ct E d 251 [.inr 123, .inl b] μ Φ := by
  have r2 := hR.2.1
  exact v251 (by omega) (l251 hd hR b0 b1 h n.toNat 0 (by omega))
theorem l252 {a : Int} (hd : 3 ≤ d) (ha : inR a) (hne : a ≠ -1) (hR : RM μ n f) (h : ∀ z, tuZ f n a z → Φ (some (.inl z)) μ) (hex : 0 ≤ a → a < n → ∃ x, 0 ≤ x ∧ x < n ∧ rk f n x n.toNat = a) : ∀ (m : Nat) (k : Int), 0 ≤ k → k + m = n → (∀ x, 0 ≤ x → x < k → rk f n x n.toNat ≠ a) →
    G E d 252 Φ 17 [some (.inr 123), some (.inl a), some (.inl k)] [] μ := by
  have r1 := hR.1
  have r2 := hR.2.1
  have r3 := hR.2.2.1
  intro m
  induction m with
  | zero =>
    intro k k0 hm hall
    refine v252_17 (by omega) ?_
    rw [r1]
    refine ⟨inR_of (by omega) (by omega), inR_of (by omega) (by omega), fun _ => h _ (Or.inr (Or.inr ⟨hne, fun hc => ?_, rfl⟩)), fun h1 => by omega⟩
    obtain ⟨x, x0, x1, x2⟩ := hex hc.1 hc.2
    exact hall x x0 (by omega) x2
  | succ m ih =>
    intro k k0 hm hall
    have hb := rk_lt (f := f) (n := n) (x := k) (m := n.toNat) k0 (by omega)
    have hb0 := (rk_in (f := f) (n := n) (x := k) n.toNat).1
    obtain ⟨p1, p2, p3⟩ := rmN (n := n) (x := k + n - 1) (by omega) (by omega) (by omega) r3
    refine v252_17 (by omega) ?_
    rw [r1]
    refine ⟨inR_of (by omega) (by omega), inR_of (by omega) (by omega), fun h1 => by omega, fun _ => s251 (by omega) hR k0 (by omega) ⟨inR_of (by omega) (by omega), ha, fun h2 => ih (k + 1) (by omega) (by omega) fun x x0 x1 => ?_, fun h2 => ?_⟩⟩
    · by_cases e : x = k
      · rw [e]; exact h2
      · exact hall x x0 (by omega)
    · rw [r1, p1, hR.2.2.2.1 _ p2 p3]
      exact ⟨w32_ne0 (inR_of (by omega) (by omega)) (by omega), by omega, h _ (Or.inr (Or.inl ⟨hne, by omega, by omega, k, k0, by omega, h2, rfl⟩))⟩
theorem tJ_ex : ∀ m : Nat, (m : Int) ≤ n → ∃ T, tJ f n T m := by
  intro m
  induction m with
  | zero => intro _; exact ⟨fun _ => 0, fun p p0 p1 => by omega⟩
  | succ m ih =>
    intro hm
    obtain ⟨T, hT⟩ := ih (by omega)
    have hq : ∀ r : Nat, r ≤ m → ∃ q : Nat, q ≤ m - r ∧ True ∧ ((∀ p : Int, (q : Int) ≤ p → p < ((m - r : Nat) : Int) → tl f n m (T p)) ∧ (0 < q → ¬ tl f n m (T ((q : Int) - 1)))) := by
      intro r hr
      have : ∀ s : Nat, ∃ q : Nat, q ≤ s ∧ (∀ p : Int, (q : Int) ≤ p → p < (s : Int) → tl f n m (T p)) ∧ (0 < q → ¬ tl f n m (T ((q : Int) - 1))) := by
        intro s; induction s with
        | zero => exact ⟨0, Nat.le_refl _, fun p a b => by omega, fun e => by omega⟩
        | succ s ih2 =>
          by_cases e : tl f n m (T s)
          · obtain ⟨q, q1, q2, q3⟩ := ih2
            refine ⟨q, by omega, fun p a b => ?_, q3⟩
            by_cases g : p = s
            · rw [g]; exact e
            · exact q2 p a (by omega)
          · exact ⟨s + 1, Nat.le_refl _, fun p a b => by omega, fun _ => by rw [show ((s + 1 : Nat) : Int) - 1 = s by omega]; exact e⟩
      obtain ⟨q, q1, q2, q3⟩ := this (m - r)
      exact ⟨q, q1, trivial, q2, q3⟩
    obtain ⟨q, q1, _, q2, q3⟩ := hq 0 (Nat.zero_le _)
    refine ⟨fun p => if p < q then T p else if p = q then m else T (p - 1), tJ_s (q := (q : Int)) hT (by omega) (by omega) (fun p p0 p1 => if_pos p1) (fun p p0 p1 => by show (if p < q then T p else if p = q then (m : Int) else T (p - 1)) = _; rw [if_neg (by omega), if_neg (by omega)]) (by simp) (fun e => q3 (by omega)) (fun p p0 p1 => q2 p p0 (by omega))⟩
theorem s252 {a : Int} (hd : 4 ≤ d) (ha : inR a) (hR : RM μ n f) (h : ∀ z, tuZ f n a z → Φ (some (.inl z)) (mu μ 123 0 0)) : Ct E d 252 [.inr 123, .inl a] μ Φ := by
  have r2 := hR.2.1
  have r3 := hR.2.2.1
  have hR' : RM (mu μ 123 0 0) n f := hR.mu0 (by decide)
  refine v252 (by omega) ⟨ha, fun h1 => ?_, fun h1 => ?_⟩
  · refine l252 (E := E) (by omega) ha h1 hR' h (fun a0 a1 => ?_) n.toNat 0 (by omega) (by omega) (fun x x0 x1 => by omega)
    obtain ⟨T, hT⟩ := tJ_ex (f := f) (n := n) n.toNat (by omega)
    have := hT a a0 (by omega)
    exact ⟨T a, this.1, by omega, this.2.2⟩
  · rw [hR.1]
    refine ⟨inR_of (by omega) (by omega), fun h2 => s251 (by omega) hR' (by omega) (by omega) (h _ (Or.inl ⟨h1, by rw [if_neg h2]⟩)), fun h2 => h _ (Or.inl ⟨h1, by rw [if_pos h2]⟩)⟩
end S18
