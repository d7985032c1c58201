/-! the shelf -/
def pF (g : Int → Int) (v : Int) : Nat → Int → Int
  | 0, j => j
  | m + 1, j => if g j = v then j else pF g v m (j + 1)
def pos (g : Int → Int) (v : Int) : Int := pF g v 9 0
def mtf (g : Int → Int) (v : Int) : Int → Int := fun i => if i ≤ 0 then v else if i ≤ pos g v then g (i - 1) else g i
def frG (f : Int → Int) : Nat → Int → Int
  | 0 => fun i => i
  | m + 1 => mtf (frG f m) (f m)
def frA (f : Int → Int) (n a : Int) : Int := if 0 ≤ a ∧ a < n then pos (frG f a.toNat) (f a) else -1
def SJ (g : Int → Int) : Prop := (∀ v, 0 ≤ v → v < 10 → ∃ i, 0 ≤ i ∧ i < 10 ∧ g i = v) ∧ ∀ i, 0 ≤ i → i < 10 → 0 ≤ g i ∧ g i < 10
def SH (μ : Mm) (o : Nat) (g : Int → Int) : Prop := ∀ i, 0 ≤ i → i < 10 → μ o i = g i
theorem pF_b {g : Int → Int} {v : Int} : ∀ (m : Nat) (j : Int), j ≤ pF g v m j ∧ pF g v m j ≤ j + m ∧ (∀ i, j ≤ i → i < pF g v m j → g i ≠ v) ∧ (pF g v m j < j + m → g (pF g v m j) = v) := by
  intro m; induction m with
  | zero => intro j; rw [pF]; exact ⟨by omega, by omega, fun i a b => by omega, fun a => by omega⟩
  | succ m ih =>
    intro j
    rw [pF]
    split
    · next h => exact ⟨by omega, by omega, fun i a b => by omega, fun _ => h⟩
    · next h =>
      obtain ⟨a, b, c, e⟩ := ih (j + 1)
      refine ⟨by omega, by omega, fun i i0 i1 => ?_, fun q => e (by omega)⟩
      by_cases q : i = j
      · rw [q]; exact h
      · exact c i (by omega) i1
theorem pos_ok {g : Int → Int} {v : Int} (hS : SJ g) (v0 : 0 ≤ v) (v1 : v < 10) : 0 ≤ pos g v ∧ pos g v < 10 ∧ g (pos g v) = v ∧ ∀ i, 0 ≤ i → i < pos g v → g i ≠ v := by
  obtain ⟨a, b, c, e⟩ := pF_b (g := g) (v := v) 9 0
  refine ⟨a, by unfold pos; omega, ?_, c⟩
  obtain ⟨i, i0, i1, i2⟩ := hS.1 v v0 v1
  unfold pos
  by_cases q : pF g v 9 0 < 9
  · exact e (by omega)
  · have : ¬ i < pF g v 9 0 := fun h => c i i0 h i2
    rw [show pF g v 9 0 = i by omega]; exact i2
theorem SJ_mtf {g : Int → Int} {v : Int} (hS : SJ g) (v0 : 0 ≤ v) (v1 : v < 10) : SJ (mtf g v) := by
  obtain ⟨p0, p1, p2, p3⟩ := pos_ok hS v0 v1
  refine ⟨fun u u0 u1 => ?_, fun i i0 i1 => ?_⟩
  · by_cases e : u = v
    · exact ⟨0, by omega, by omega, by rw [e]; simp [mtf]⟩
    · obtain ⟨i, i0, i1, i2⟩ := hS.1 u u0 u1
      have hne : i ≠ pos g v := fun q => e (by rw [← i2, q, p2])
      by_cases q : i < pos g v
      · refine ⟨i + 1, by omega, by omega, ?_⟩
        unfold mtf
        rw [if_neg (by omega), if_pos (by omega), Int.add_sub_cancel]; exact i2
      · refine ⟨i, i0, i1, ?_⟩
        unfold mtf
        rw [if_neg (by omega), if_neg (by omega)]; exact i2
  · unfold mtf
    split
    · exact ⟨v0, v1⟩
    · split
      · exact hS.2 _ (by omega) (by omega)
      · exact hS.2 _ i0 i1
theorem SJ_fr {f : Int → Int} {n : Int} (hf : ∀ i, 0 ≤ i → i < n → 0 ≤ f i ∧ f i ≤ 9) : ∀ m : Nat, (m : Int) ≤ n → SJ (frG f m) := by
  intro m; induction m with
  | zero => intro _; exact ⟨fun v a b => ⟨v, a, b, rfl⟩, fun i a b => ⟨a, b⟩⟩
  | succ m ih => intro h; have := hf m (by omega) (by omega); exact SJ_mtf (ih (by omega)) (by omega) (by omega)
section S16
variable {E : En} {d : Nat} {Φ : Option AV → Mm → Prop} {μ : Mm} {n : Int} {f g : Int → Int}
theorem RW.e53 {μ' : Mm} (h : RW μ n f) (e : Eo 53 μ μ') : RW μ' n f := h.eo e (by decide) (by decide)
theorem l82_15 {μ0 : Mm} {v p : Int} (hd : 1 ≤ d) (hp : p = pos g v) (p1 : p < 10) (h : ∀ μ', Eo 53 μ0 μ' → SH μ' 53 (mtf g v) → Φ (some (.inl p)) μ') : ∀ (m : Nat) (μ : Mm), (m : Int) ≤ p → Eo 53 μ0 μ → (∀ i, 0 ≤ i → i < 10 → μ 53 i = if m < i ∧ i ≤ p then g (i - 1) else g i) →
    G E d 82 Φ 15 [some (.inr 50), some (.inl v), some (.inl p), some (.inl (m : Int))] [] μ := by
  intro m
  induction m with
  | zero =>
    intro μ hm hE hall
    refine v82_15 hd ⟨inR_of (by omega) (by omega), fun _ => h _ hE.mu fun i i0 i1 => ?_, fun h1 => by omega⟩
    unfold mtf
    rw [← hp]
    by_cases q : i = 0
    · rw [q, mu_s]; rfl
    · rw [mu_i q, hall i i0 i1, if_neg (show ¬ i ≤ 0 by omega)]
      by_cases q2 : i ≤ p
      · rw [if_pos (by omega), if_pos q2]
      · rw [if_neg (by omega), if_neg q2]
  | succ m ih =>
    intro μ hm hE hall
    have e1 : ((m + 1 : Nat) : Int) - 1 = m := by omega
    refine v82_15 hd ?_
    rw [e1]
    refine ⟨inR_of (by omega) (by omega), fun h1 => by omega, fun _ => ⟨by omega, by omega, ?_⟩⟩
    rw [show ((m + 1 : Nat) : Int) + -1 = (m : Int) by omega]
    refine ih _ (by omega) hE.mu fun i i0 i1 => ?_
    by_cases q : i = ((m + 1 : Nat) : Int)
    · rw [q, mu_s, hall m (by omega) (by omega), if_neg (by omega), if_pos (by omega), e1]
    · rw [mu_i q, hall i i0 i1]
      by_cases q2 : ((m + 1 : Nat) : Int) < i ∧ i ≤ p
      · rw [if_pos q2, if_pos (by omega)]
      · rw [if_neg q2, if_neg (by omega)]
theorem l82_2 {v : Int} (hd : 1 ≤ d) (hv : inR v) (hg : SJ g) (hS : SH μ 53 g) (h : ∀ μ', Eo 53 μ μ' → SH μ' 53 (mtf g v) → Φ (some (.inl (pos g v))) μ') : ∀ (m : Nat) (j : Int), 0 ≤ j → j + m = 9 → pos g v = pF g v m j →
    G E d 82 Φ 2 [some (.inr 50), some (.inl v), some (.inl j), none] [] μ := by
  have go : ∀ j, 0 ≤ j → j < 10 → pos g v = j → G E d 82 Φ 15 [some (.inr 50), some (.inl v), some (.inl j), some (.inl j)] [] μ := by
    intro j j0 j1 e
    have := l82_15 (E := E) (Φ := Φ) (μ0 := μ) (g := g) (v := v) (p := j) hd e.symm j1 (by rw [← e]; exact h) j.toNat μ (by omega) Eo.rf (fun i i0 i1 => by rw [if_neg (by omega)]; exact hS i i0 i1)
    rw [show ((j.toNat : Nat) : Int) = j by omega] at this
    exact this
  intro m
  induction m with
  | zero =>
    intro j j0 hm e
    rw [pF] at e
    exact v82_2 hd ⟨inR_of (by omega) (by omega), fun _ => go j j0 (by omega) e, fun h1 => by omega⟩
  | succ m ih =>
    intro j j0 hm e
    rw [pF] at e
    have g1 := hg.2 j j0 (by omega)
    refine v82_2 hd ?_
    refine ⟨inR_of (by omega) (by omega), fun h1 => by omega, fun _ => ⟨by omega, ?_⟩⟩
    rw [hS j j0 (by omega)]
    refine ⟨inR_of (by omega) (by omega), hv, fun h1 => go j j0 (by omega) (by rw [e, if_pos h1]), fun h1 => ih (j + 1) (by omega) (by omega) (by rw [e, if_neg h1])⟩
theorem s82 {v : Int} (hd : 1 ≤ d) (hv : inR v) (hg : SJ g) (hS : SH μ 53 g) (h : ∀ μ', Eo 53 μ μ' → SH μ' 53 (mtf g v) → Φ (some (.inl (pos g v))) μ') : Ct E d 82 [.inr 50, .inl v] μ Φ :=
  v82 hd (l82_2 hd hv hg hS h 9 0 (by omega) (by omega) rfl)
theorem Eo.tr {o : Nat} {a b c : Mm} (h : Eo o a b) (k : Eo o b c) : Eo o a c := fun x i hx => by rw [k x i hx]; exact h x i hx
theorem l81_24 {a : Int} {μ0 : Mm} (hd : 2 ≤ d) (h0R : RW μ0 n f) (a0 : 0 ≤ a) (a1 : a < n) (h : ∀ μ', Eo 53 μ0 μ' → Φ (some (.inl (frA f n a))) μ') : ∀ (m k : Nat) (x : Int) (μ : Mm), (k : Int) + m = a + 1 → Eo 53 μ0 μ → SH μ 53 (frG f k) → (m = 0 → x = frA f n a) →
    G E d 81 Φ 24 [some (.inr 50), some (.inl a), some (.inl x), some (.inl (k : Int))] [] μ := by
  intro m
  induction m with
  | zero =>
    intro k x μ hk hE hS hx
    have r3 := h0R.2.2.1
    rw [hx rfl]
    exact v81_24 (by omega) ⟨inR_of (by omega) (by omega), inR_of (by omega) (by omega), fun _ => h μ hE, fun h1 => by omega⟩
  | succ m ih =>
    intro k x μ hk hE hS hx
    have hR := h0R.eo hE (by decide) (by decide)
    have r3 := h0R.2.2.1
    have g0 := hR.2.2.2.2 k (by omega) (by omega)
    refine v81_24 (by omega) ⟨inR_of (by omega) (by omega), inR_of (by omega) (by omega), fun h1 => by omega, fun _ => ⟨by omega, ?_⟩⟩
    rw [hR.2.2.2.1 k (by omega) (by omega)]
    refine s82 (by omega) (inR_of (by omega) (by omega)) (SJ_fr hR.2.2.2.2 k (by omega)) hS (fun μ' e' s' => ?_)
    refine ih (k + 1) _ μ' (by omega) (hE.tr e') s' (fun e => ?_)
    have : (k : Int) = a := by omega
    rw [frA, if_pos ⟨a0, a1⟩, ← this, Int.toNat_natCast]
theorem l81_10 {a : Int} {μ0 : Mm} (hd : 1 ≤ d) (h : ∀ μ', Eo 53 μ0 μ' → SH μ' 53 (fun i => i) → G E d 81 Φ 24 [some (.inr 50), some (.inl a), some (.inl 0), some (.inl 0)] [] μ') : ∀ (m : Nat) (j : Int) (μ : Mm), 0 ≤ j → j + m = 10 → Eo 53 μ0 μ → (∀ i, 0 ≤ i → i < j → μ 53 i = i) →
    G E d 81 Φ 10 [some (.inr 50), some (.inl a), some (.inl j), none] [] μ := by
  intro m
  induction m with
  | zero =>
    intro j μ j0 hm hE hall
    exact v81_10 hd ⟨inR_of (by omega) (by omega), fun _ => h μ hE fun i i0 i1 => hall i i0 (by omega), fun h1 => by omega⟩
  | succ m ih =>
    intro j μ j0 hm hE hall
    refine v81_10 hd ⟨inR_of (by omega) (by omega), fun h1 => by omega, fun _ => ⟨by omega, ih (j + 1) _ (by omega) (by omega) hE.mu fun i i0 i1 => ?_⟩⟩
    by_cases q : i = j
    · rw [q, mu_s]
    · rw [mu_i q]; exact hall i i0 (by omega)
theorem s81 {a : Int} (hd : 2 ≤ d) (ha : inR a) (hR : RW μ n f) (h : ∀ μ', Eo 53 μ μ' → Φ (some (.inl (frA f n a))) μ') : Ct E d 81 [.inr 50, .inl a] μ Φ := by
  have r1 := hR.1
  have r2 := hR.2.1
  have r3 := hR.2.2.1
  refine v81 (by omega) ?_
  rw [r1]
  refine ⟨ha, fun h1 => fe (h μ Eo.rf) (by rw [frA, if_neg (by omega)]), fun h1 => ⟨ha, inR_of (by omega) (by omega), fun h2 => ?_, fun h2 => fe (h μ Eo.rf) (by rw [frA, if_neg (by omega)])⟩⟩
  refine l81_10 (E := E) (μ0 := μ) (by omega) (fun μ' e' s' => ?_) 10 0 μ (by omega) (by omega) Eo.rf (fun i i0 i1 => by omega)
  exact l81_24 (E := E) hd hR h1 h2 h (a + 1).toNat 0 0 μ' (by omega) e' s' (fun e => by omega)
theorem s134 {a : Int} (hd : 3 ≤ d) (ha : inR a) (hR : RW μ n f) (h : ∀ μ', Eo 53 μ μ' → Φ (some (.inl (frA f n a))) μ') : Ct E d 134 [.inr 0, .inl a] μ Φ :=
  v134 (by omega) (s81 (by omega) ha hR h)
/-! the reference's shelf -/
theorem l253_51 {μ0 : Mm} {a p : Int} {k : Nat} (hd : 1 ≤ d) (h0R : RM μ0 n f) (hk : (k : Int) < n) (hp : p = pos g (f k)) (p1 : p < 10) (h : ∀ μ', Eo 151 μ0 μ' → SH μ' 151 (mtf g (f k)) → G E d 253 Φ 30 [some (.inr 123), some (.inl a), some (.inl p), some (.inl ((k : Int) + 1)), none] [] μ') : ∀ (m : Nat) (μ : Mm), (m : Int) ≤ p → Eo 151 μ0 μ → (∀ i, 0 ≤ i → i < 10 → μ 151 i = if m < i ∧ i ≤ p then g (i - 1) else g i) →
    G E d 253 Φ 51 [some (.inr 123), some (.inl a), some (.inl p), some (.inl (k : Int)), some (.inl (m : Int))] [] μ := by
  intro m
  induction m with
  | zero =>
    intro μ hm hE hall
    have hR := h0R.eo hE (by decide) (by decide)
    have r3 := hR.2.2.1
    refine v253_51 hd ⟨inR_of (by omega) (by omega), fun _ => ⟨by omega, ?_⟩, fun h1 => by omega⟩
    rw [hR.2.2.2.1 k (by omega) hk]
    refine h _ hE.mu fun i i0 i1 => ?_
    unfold mtf
    rw [← hp]
    by_cases q : i = 0
    · rw [q, mu_s]; rfl
    · rw [mu_i q, hall i i0 i1, if_neg (show ¬ i ≤ 0 by omega)]
      by_cases q2 : i ≤ p
      · rw [if_pos (by omega), if_pos q2]
      · rw [if_neg (by omega), if_neg q2]
  | succ m ih =>
    intro μ hm hE hall
    have e1 : ((m + 1 : Nat) : Int) - 1 = m := by omega
    refine v253_51 hd ?_
    rw [e1]
    refine ⟨inR_of (by omega) (by omega), fun h1 => by omega, fun _ => ⟨by omega, by omega, ?_⟩⟩
    rw [show ((m + 1 : Nat) : Int) + -1 = (m : Int) by omega]
    refine ih _ (by omega) hE.mu fun i i0 i1 => ?_
    by_cases q : i = ((m + 1 : Nat) : Int)
    · rw [q, mu_s, hall m (by omega) (by omega), if_neg (by omega), if_pos (by omega), e1]
    · rw [mu_i q, hall i i0 i1]
      by_cases q2 : ((m + 1 : Nat) : Int) < i ∧ i ≤ p
      · rw [if_pos q2, if_pos (by omega)]
      · rw [if_neg q2, if_neg (by omega)]
theorem l253_35 {μ0 : Mm} {a : Int} {k : Nat} (hd : 1 ≤ d) (h0R : RM μ0 n f) (hk : (k : Int) < n) (hg : SJ g) (hE : Eo 151 μ0 μ) (hS : SH μ 151 g) (h : ∀ μ', Eo 151 μ0 μ' → SH μ' 151 (mtf g (f k)) → G E d 253 Φ 30 [some (.inr 123), some (.inl a), some (.inl (pos g (f k))), some (.inl ((k : Int) + 1)), none] [] μ') : ∀ (m : Nat) (j : Int), 0 ≤ j → j + m = pos g (f k) →
    G E d 253 Φ 35 [some (.inr 123), some (.inl a), some (.inl j), some (.inl (k : Int)), none] [] μ := by
  have hR := h0R.eo hE (by decide) (by decide)
  have r3 := hR.2.2.1
  have g0 := hR.2.2.2.2 k (by omega) hk
  obtain ⟨p0, p1, p2, p3⟩ := pos_ok hg (v := f k) (by omega) (by omega)
  intro m
  induction m with
  | zero =>
    intro j j0 hm
    have gj := hg.2 j j0 (by omega)
    have ej : j = pos g (f k) := by omega
    refine v253_35 hd ?_
    rw [hS j j0 (by omega), hR.2.2.2.1 k (by omega) hk]
    refine ⟨by omega, by omega, inR_of (by omega) (by omega), inR_of (by omega) (by omega), fun _ => ?_, fun h1 => absurd (by rw [ej]; exact p2) h1⟩
    have := l253_51 (E := E) (Φ := Φ) (μ0 := μ0) (a := a) (g := g) (p := j) hd h0R hk ej (by omega) (by rw [ej]; exact h) j.toNat μ (by omega) hE (fun i i0 i1 => by rw [if_neg (by omega)]; exact hS i i0 i1)
    rw [show ((j.toNat : Nat) : Int) = j by omega] at this
    exact this
  | succ m ih =>
    intro j j0 hm
    have gj := hg.2 j j0 (by omega)
    refine v253_35 hd ?_
    rw [hS j j0 (by omega), hR.2.2.2.1 k (by omega) hk]
    exact ⟨by omega, by omega, inR_of (by omega) (by omega), inR_of (by omega) (by omega), fun h1 => absurd h1 (p3 j j0 (by omega)), fun _ => ih (j + 1) (by omega) (by omega)⟩
theorem l253_30 {a : Int} {μ0 : Mm} (hd : 1 ≤ d) (h0R : RM μ0 n f) (a0 : 0 ≤ a) (a1 : a < n) (h : ∀ μ', Eo 151 μ0 μ' → Φ (some (.inl (frA f n a))) μ') : ∀ (m k : Nat) (x : Int) (μ : Mm), (k : Int) + m = a + 1 → Eo 151 μ0 μ → SH μ 151 (frG f k) → (m = 0 → x = frA f n a) →
    G E d 253 Φ 30 [some (.inr 123), some (.inl a), some (.inl x), some (.inl (k : Int)), none] [] μ := by
  intro m
  induction m with
  | zero =>
    intro k x μ hk hE hS hx
    have r3 := h0R.2.2.1
    rw [hx rfl]
    exact v253_30 hd ⟨inR_of (by omega) (by omega), inR_of (by omega) (by omega), fun _ => h μ hE, fun h1 => by omega⟩
  | succ m ih =>
    intro k x μ hk hE hS hx
    have r3 := h0R.2.2.1
    have g0 := h0R.2.2.2.2 k (by omega) (by omega)
    have hsj := SJ_fr h0R.2.2.2.2 k (by omega)
    obtain ⟨p0, p1, p2, p3⟩ := pos_ok hsj (v := f k) (by omega) (by omega)
    refine v253_30 hd ⟨inR_of (by omega) (by omega), inR_of (by omega) (by omega), fun h1 => by omega, fun _ => ?_⟩
    refine l253_35 hd h0R (by omega) hsj hE hS (fun μ' e' s' => ?_) (pos (frG f k) (f k)).toNat 0 (by omega) (by omega)
    refine ih (k + 1) _ μ' (by omega) e' s' (fun e => ?_)
    have : (k : Int) = a := by omega
    rw [frA, if_pos ⟨a0, a1⟩, ← this, Int.toNat_natCast]
theorem l253_16 {a : Int} {μ0 : Mm} (hd : 1 ≤ d) (h : ∀ μ', Eo 151 μ0 μ' → SH μ' 151 (fun i => i) → G E d 253 Φ 30 [some (.inr 123), some (.inl a), some (.inl 0), some (.inl 0), none] [] μ') : ∀ (m : Nat) (j : Int) (μ : Mm), 0 ≤ j → j + m = 10 → Eo 151 μ0 μ → (∀ i, 0 ≤ i → i < j → μ 151 i = i) →
    G E d 253 Φ 16 [some (.inr 123), some (.inl a), some (.inl j), none, none] [] μ := by
  intro m
  induction m with
  | zero =>
    intro j μ j0 hm hE hall
    exact v253_16 hd ⟨inR_of (by omega) (by omega), fun _ => h μ hE fun i i0 i1 => hall i i0 (by omega), fun h1 => by omega⟩
  | succ m ih =>
    intro j μ j0 hm hE hall
    refine v253_16 hd ⟨inR_of (by omega) (by omega), fun h1 => by omega, fun _ => ⟨by omega, ih (j + 1) _ (by omega) (by omega) hE.mu fun i i0 i1 => ?_⟩⟩
    by_cases q : i = j
    · rw [q, mu_s]
    · rw [mu_i q]; exact hall i i0 (by omega)
theorem s253 {a : Int} (hd : 2 ≤ d) (ha : inR a) (hR : RM μ n f) (h : ∀ μ', Eo 151 (mu μ 123 0 0) μ' → Φ (some (.inl (frA f n a))) μ') : Ct E d 253 [.inr 123, .inl a] μ Φ := by
  have r1 := hR.1
  have r2 := hR.2.1
  have r3 := hR.2.2.1
  refine v253 (by omega) ?_
  rw [r1]
  refine s153 (by omega) ha (inR_of (by omega) (by omega)) (inR_of (by omega) (by omega)) ⟨b2_in _, fun h1 => ?_, fun h1 => fe (h _ Eo.rf) (by have := b2_0.mp h1; rw [frA, if_neg (by omega)])⟩
  have h1 := b2_ne0.mp h1
  refine l253_16 (E := E) (μ0 := mu μ 123 0 0) (by omega) (fun μ' e' s' => ?_) 10 0 _ (by omega) (by omega) Eo.rf (fun i i0 i1 => by omega)
  exact l253_30 (E := E) (by omega) (hR.mu0 (by decide)) h1.1 (by omega) h (a + 1).toNat 0 0 μ' (by omega) e' s' (fun e => by omega)
end S16
