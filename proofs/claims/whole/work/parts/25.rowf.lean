theorem VW.eo {o : Nat} {μ μ' : Mm} {v : Int → Int} (h : VW μ v) (e : Eo o μ μ') (ho : o ≠ 57) : VW μ' v := ⟨fun i a b => by rw [← h.1 i a b]; exact e 57 i (Ne.symm ho), h.2⟩
theorem VM.eo {o : Nat} {μ μ' : Mm} {v : Int → Int} (h : VM μ v) (e : Eo o μ μ') (ho : o ≠ 155) : VM μ' v := ⟨fun i a b => by rw [← h.1 i a b]; exact e 155 i (Ne.symm ho), h.2⟩
theorem VM.mu0 {μ : Mm} {v : Int → Int} {k x : Int} (h : VM μ v) : VM (mu μ 123 k x) v := ⟨fun i a b => by rw [mu_o (by decide)]; exact h.1 i a b, h.2⟩
/-- the greatest of the windows that the reference looks at -/
def gm (f v : Int → Int) (n k : Int) : Nat → Int
  | 0 => 0
  | m + 1 => max (gm f v n k m) (wo f v m (min n (m + k) - m).toNat)
/-- the answer to values -/
def vlA (f v : Int → Int) (n a : Int) : Int := if a = 0 then wo f v 0 n.toNat else if a = 1 then 1 + uw f v n.toNat else if 100 ≤ a ∧ a ≤ 112 then gs f v (min (a - 100) n).toNat (n - min (a - 100) n + 1).toNat else -1
section S8
variable {E : En} {d : Nat} {Φ : Option AV → Mm → Prop} {n : Int} {f v : Int → Int} {μ : Mm}
theorem wo_sh : ∀ (m : Nat) (a : Int), wo f v a (m + 1) = v (f a) + wo f v (a + 1) m := by
  intro m
  induction m with
  | zero => intro a; rw [wo, wo, wo]; simp
  | succ m ih => intro a; rw [wo, ih a, wo]; have : a + ((m + 1 : Nat) : Int) = a + 1 + m := by omega
                 rw [this]; omega
theorem wo_le (hR : ∀ i, 0 ≤ i → i < n → 0 ≤ f i ∧ f i ≤ 9) (hV : ∀ i, 0 ≤ i → i < 10 → 0 ≤ v i ∧ v i ≤ 20) : ∀ (j m : Nat) (a : Int), 0 ≤ a → a + m + j ≤ n → wo f v (a + j) m ≤ wo f v a (m + j) := by
  intro j
  induction j with
  | zero => intro m a _ _; simp
  | succ j ih =>
    intro m a h0 h1
    have e : m + (j + 1) = (m + j) + 1 := by omega
    rw [e, wo_sh]
    have g := hR a h0 (by omega)
    have g2 := hV (f a) (by omega) (by omega)
    have := ih m (a + 1) (by omega) (by omega)
    have e2 : a + ((j + 1 : Nat) : Int) = a + 1 + j := by omega
    rw [e2]; omega
theorem gs_le (k : Nat) : ∀ (m i : Nat), i < m → wo f v i k ≤ gs f v k m := by
  intro m
  induction m with
  | zero => intro i h; omega
  | succ m ih =>
    intro i h
    rw [gs]
    by_cases e : i = m
    · rw [e]; omega
    · have := ih i (by omega); omega
theorem gs0 : ∀ m, gs f v 0 m = 0 := by
  intro m; induction m with
  | zero => rw [gs]
  | succ m ih => rw [gs, ih, wo]; omega
theorem gm_eq {k : Int} (hR : ∀ i, 0 ≤ i → i < n → 0 ≤ f i ∧ f i ≤ 9) (hV : ∀ i, 0 ≤ i → i < 10 → 0 ≤ v i ∧ v i ≤ 20) (n0 : 0 ≤ n) (k0 : 0 ≤ k) : gm f v n k n.toNat = gs f v (min k n).toNat (n - min k n + 1).toNat := by
  by_cases hz : min k n = 0
  · rw [hz]
    rw [show (0 : Int).toNat = 0 by rfl, gs0]
    have : ∀ m : Nat, (m : Int) ≤ n → gm f v n k m = 0 := by
      intro m; induction m with
      | zero => intro _; rw [gm]
      | succ m ih => intro hm; rw [gm, ih (by omega), show (min n (m + k) - m).toNat = 0 by omega, wo]; omega
    exact this _ (by omega)
  · have h1 : ∀ m : Nat, (m : Int) ≤ n - min k n + 1 → gm f v n k m = gs f v (min k n).toNat m := by
      intro m; induction m with
      | zero => intro _; rw [gm, gs]
      | succ m ih => intro hm; rw [gm, gs, ih (by omega), show (min n (m + k) - m).toNat = (min k n).toNat by omega]
    have h2 : ∀ j m : Nat, (m : Int) = n - min k n + 1 + j → (m : Int) ≤ n → gm f v n k m = gs f v (min k n).toNat (n - min k n + 1).toNat := by
      intro j; induction j with
      | zero => intro m hm hn; rw [h1 m (by omega), show m = (n - min k n + 1).toNat by omega]
      | succ j ih =>
        intro m hm hn
        obtain ⟨p, rfl⟩ : ∃ p, m = p + 1 := ⟨m - 1, by omega⟩
        rw [gm, ih p (by omega) (by omega)]
        have hle := wo_le hR hV (j + 1) (min n (p + k) - p).toNat ((n - min k n).toNat : Int) (by omega) (by omega)
        rw [show (((n - min k n).toNat : Int)) + ((j + 1 : Nat) : Int) = p by omega, show (min n (p + k) - p).toNat + (j + 1) = (min k n).toNat by omega] at hle
        have := gs_le (f := f) (v := v) (min k n).toNat (n - min k n + 1).toNat (n - min k n).toNat (by omega)
        omega
    exact h2 (min k n - 1).toNat n.toNat (by omega) (by omega)
theorem s147 {a : Int} (hd : 4 ≤ d) (ha : inR a) (hR : RW μ n f) (hV : VW μ v) (h : Φ (some (.inl (vlA f v n a))) μ) : Ct E d 147 [.inr 0, .inl a] μ Φ := by
  have r2 := hR.2.1
  have r3 := hR.2.2.1
  refine v147 (by omega) ⟨ha, fun h1 => ⟨ha, fun h2 => ⟨ha, fun h3 => ?_, fun h3 => ⟨ha, fun h4 => ?_, fun h4 => ?_⟩⟩, fun h2 => ?_⟩, fun h1 => ?_⟩
  · exact fe h (by rw [vlA, if_neg h1, if_neg h2, if_neg (by omega)])
  · exact fe h (by rw [vlA, if_neg h1, if_neg h2, if_neg (by omega)])
  · refine s66 (by omega) hR hV (by omega) (by omega) ?_
    exact fe h (by rw [vlA, if_neg h1, if_neg h2, if_pos (by omega)])
  · refine s68 (by omega) hR hV ?_
    exact fe h (by rw [vlA, if_neg h1, if_pos h2])
  · refine s66 (by omega) hR hV (by omega) (by omega) ?_
    refine fe h ?_
    rw [vlA, if_pos h1, show (n - min 12 n + 1).toNat = 0 + 1 by omega, gs, gs, show (min 12 n).toNat = n.toNat by omega]
    have := (wo_in (v := v) (f := f) (a := 0) hR.2.2.2.2 hV.2 (by omega) n.toNat (by omega)).1
    simp only [Int.ofNat_zero] at this ⊢
    exact (Int.max_eq_right this).symm
theorem l276_52 {a : Int} (hd : 3 ≤ d) (a0 : 100 ≤ a) (a1 : a ≤ 112) (hR : RM μ n f) (hV : VM μ v) (h : Φ (some (.inl (gm f v n (a - 100) n.toNat))) μ) : ∀ (m i : Nat), i + m = n.toNat →
    G E d 276 Φ 52 [some (.inr 123), some (.inl a), some (.inl (gm f v n (a - 100) i)), some (.inl (i : Int))] [] μ := by
  obtain ⟨r1, r2, r3, r4, r5⟩ := hR
  have bd : ∀ i : Nat, (i : Int) ≤ n → 0 ≤ gm f v n (a - 100) i ∧ gm f v n (a - 100) i ≤ 240 := by
    intro i
    induction i with
    | zero => intro _; rw [gm]; omega
    | succ i ih =>
      intro hi
      have g1 := ih (by omega)
      have g2 := wo_in (v := v) (f := f) (a := (i : Int)) r5 hV.2 (by omega) (min n (i + (a - 100)) - i).toNat (by omega)
      rw [gm]; omega
  intro m
  induction m with
  | zero =>
    intro i hm
    refine v276_52 (by omega) ?_
    rw [r1]
    exact ⟨inR_of (by omega) (by omega), inR_of (by omega) (by omega), fun h1 => fe h (by rw [show n.toNat = i by omega]), fun h1 => by omega⟩
  | succ m ih =>
    intro i hm
    refine v276_52 (by omega) ?_
    rw [r1]
    refine ⟨inR_of (by omega) (by omega), inR_of (by omega) (by omega), fun h1 => by omega, fun h1 => s156 (by omega) (inR_of (by omega) (by omega)) (inR_of (by omega) (by omega)) ?_⟩
    refine s275 (by omega) ⟨r1, r2, r3, r4, r5⟩ hV (by omega) (by omega) (by omega) (by omega) ?_
    have b1 := bd i (by omega)
    have g2 := wo_in (v := v) (f := f) (a := (i : Int)) r5 hV.2 (by omega) (min n (i + (a - 100)) - i).toNat (by omega)
    rw [show (i : Int) + a - 100 = i + (a - 100) by omega]
    refine s155 (by omega) (inR_of (by omega) (by omega)) (inR_of (by omega) (by omega)) ?_
    have := ih (i + 1) (by omega)
    rw [gm, show (((i + 1 : Nat)) : Int) = (i : Int) + 1 by omega] at this
    exact this
theorem l276_18 {w : Option AV} (hw : w = none) (hd : 1 ≤ d) (hR : RM μ n f) (hV : VM μ v) (h : Φ (some (.inl (1 + uw f v n.toNat))) μ) : ∀ (m i : Nat), i + m = n.toNat →
    G E d 276 Φ 18 [some (.inr 123), w, some (.inl (1 + uw f v i)), some (.inl ((i : Int) + 1))] [] μ := by
  obtain ⟨r1, r2, r3, r4, r5⟩ := hR
  subst hw
  intro m
  induction m with
  | zero =>
    intro i hm
    refine v276_18 (by omega) ?_
    rw [r1]
    exact ⟨inR_of (by omega) (by omega), inR_of (by omega) (by omega), fun h1 => fe h (by rw [show n.toNat = i by omega]), fun h1 => by omega⟩
  | succ m ih =>
    intro i hm
    have g0 := r5 i (by omega) (by omega)
    have g1 := hV.2 (f i) (by omega) (by omega)
    have ei : (i : Int) + 1 - 1 = i := by omega
    refine v276_18 (by omega) ?_
    rw [r1, ei, r4 i (by omega) (by omega), hV.1 _ (by omega) (by omega)]
    have := ih (i + 1) (by omega)
    rw [uw] at this
    refine ⟨inR_of (by omega) (by omega), inR_of (by omega) (by omega), fun h1 => by omega, fun h1 => ⟨inR_of (by omega) (by omega), fun h2 => by omega, fun h2 => ⟨by omega, by omega, inR_of (by omega) (by omega), fun h3 => ?_, fun h3 => ?_⟩⟩⟩
    · rw [if_neg (by omega)] at this
      simpa using this
    · rw [if_pos (by omega)] at this
      rw [show (1 : Int) + uw f v i + 1 = 1 + (uw f v i + 1) by omega]
      simpa using this
theorem s276 {a : Int} (hd : 4 ≤ d) (ha : inR a) (hR : RM μ n f) (hV : VM μ v) (h : Φ (some (.inl (vlA f v n a))) (mu μ 123 0 0)) : Ct E d 276 [.inr 123, .inl a] μ Φ := by
  have r1 := hR.1
  have r2 := hR.2.1
  have r3 := hR.2.2.1
  have hR' : RM (mu μ 123 0 0) n f := hR.mu0 (by decide)
  have hV' : VM (mu μ 123 0 0) v := hV.mu0
  refine v276 (by omega) ⟨ha, fun h1 => ⟨ha, fun h2 => ?_, fun h2 => ?_⟩, fun h1 => ?_⟩
  · refine s153 (by omega) ha (inR_of (by omega) (by omega)) (inR_of (by omega) (by omega)) ⟨b2_in _, fun h3 => ?_, fun h3 => ?_⟩
    · have h4 := b2_ne0.mp h3
      have := l276_52 (E := E) (d := d) (Φ := Φ) (by omega) h4.1 h4.2 hR' hV' (fe h (by rw [vlA, if_neg h1, if_neg h2, if_pos h4, gm_eq hR.2.2.2.2 hV.2 r2 (by omega)])) n.toNat 0 (by omega)
      rw [gm] at this
      simpa using this
    · have h4 := b2_0.mp h3
      exact fe h (by rw [vlA, if_neg h1, if_neg h2, if_neg h4])
  · refine v276_18 (by omega) ?_
    rw [mu_i (by decide), r1]
    refine ⟨inR_of (by omega) (by omega), inR_of (by omega) (by omega), fun h3 => by omega, fun _ => ⟨inR_of (by omega) (by omega), fun _ => ?_, fun h3 => absurd rfl h3⟩⟩
    have := l276_18 (E := E) (d := d) (Φ := Φ) rfl (by omega) hR' hV' (fe h (by rw [vlA, if_neg h1, if_pos h2])) n.toNat 0 (by omega)
    rw [uw] at this
    simpa using this
  · rw [r1]
    refine s275 (by omega) hR' hV' (by omega) (by omega) (by omega) (by omega) ?_
    exact fe h (by rw [vlA, if_pos h1]; simp)
end S8
