/-! what is told: place, letter, sign, value -/
/-- only these places change -/
def Ep (S : Nat → Int → Prop) (μ μ' : Mm) : Prop := ∀ o i, ¬ S o i → μ' o i = μ o i
theorem Ep.rf {S : Nat → Int → Prop} {μ : Mm} : Ep S μ μ := fun _ _ _ => rfl
theorem Ep.mu {S : Nat → Int → Prop} {μ μ' : Mm} {o : Nat} {i v : Int} (h : Ep S μ μ') (hs : S o i) : Ep S μ (mu μ' o i v) := fun a j hn => by
  by_cases e : a = o
  · by_cases g : j = i
    · subst e; subst g; exact absurd hs hn
    · rw [mu_i g]; exact h a j hn
  · rw [mu_o e]; exact h a j hn
def ud (q : Int → Int) (i v : Int) : Int → Int := fun j => if j = i then v else q j
def plO (a b c : Int) : Prop := 0 ≤ a ∧ a < 5 ∧ 0 ≤ b ∧ b < 5 ∧ 0 ≤ c ∧ c < 10
def vaO (a b : Int) : Prop := 0 ≤ a ∧ a < 10 ∧ 0 ≤ b ∧ b ≤ 20
def leO (n a : Int) : Prop := 0 ≤ a ∧ a < 10 ∧ n < 12
def siO (c a : Int) : Prop := 0 ≤ a ∧ a < 12 ∧ c < 8
section S21
variable {E : En} {d : Nat} {Φ : Option AV → Mm → Prop} {μ : Mm} {n : Int} {f q v : Int → Int}
theorem s127 {a b c : Int} (hd : 2 ≤ d) (ha : inR a) (hb : inR b) (hc : inR c) (hP : PW μ q) (hn : ¬ plO a b c → Φ (some (.inl 0)) μ) (hy : plO a b c → ∀ μ', Ep (fun o _ => o = 55) μ μ' → PW μ' (ud q (5 * b + a) c) → Φ (some (.inl 1)) μ') : Ct E d 127 [.inr 0, .inl a, .inl b, .inl c] μ Φ := by
  unfold plO at hn hy
  refine v127 (by omega) ⟨ha, fun h1 => hn (by omega), fun h1 => ⟨ha, fun h2 => hn (by omega), fun h2 => ⟨hb, fun h3 => hn (by omega), fun h3 => ⟨hb, fun h4 => hn (by omega), fun h4 => s152 (by omega) hc ⟨b2_in _, fun h5 => ⟨by omega, ?_⟩, fun h5 => hn (by have := b2_0.mp h5; omega)⟩⟩⟩⟩⟩
  have h5 := b2_ne0.mp h5
  refine hy (by omega) _ (Ep.rf.mu rfl) ⟨fun i i0 i1 => ?_, fun i i0 i1 => ?_⟩
  · unfold ud
    by_cases e : i = 5 * b + a
    · rw [if_pos e, show b * 5 + a = i by omega, mu_s]
    · rw [if_neg e, mu_i (by omega)]; exact hP.1 i i0 i1
  · unfold ud; split
    · exact hc
    · exact hP.2 i i0 i1
theorem s242 {a b c : Int} (hd : 2 ≤ d) (ha : inR a) (hb : inR b) (hc : inR c) (hP : PM μ q) (hn : ¬ plO a b c → Φ (some (.inl 0)) (mu μ 123 0 0)) (hy : plO a b c → ∀ μ', Ep (fun o i => o = 147 ∨ (o = 123 ∧ i = 0)) μ μ' → PM μ' (ud q (5 * b + a) c) → Φ (some (.inl 1)) μ') : Ct E d 242 [.inr 123, .inl a, .inl b, .inl c] μ Φ := by
  unfold plO at hn hy
  have k : ∀ x : Nat, x < 2147483648 → inR (x : Int) := fun x hx => inR_of (by omega) (by omega)
  refine v242 (by omega) (s153 (by omega) ha (k 0 (by omega)) (k 4 (by omega)) ⟨b2_in _, fun h1 => hn (by have := b2_0.mp h1; omega), fun h1 => s153 (by omega) hb (k 0 (by omega)) (k 4 (by omega)) ⟨b2_in _, fun h2 => hn (by have := b2_0.mp h2; omega), fun h2 => s166 (by omega) hc ⟨b2_in _, fun h5 => ?_, fun h5 => hn (by have := b2_0.mp h5; omega)⟩⟩⟩)
  have h1 := b2_ne0.mp h1
  have h2 := b2_ne0.mp h2
  have h5 := b2_ne0.mp h5
  refine ⟨by omega, hy (by omega) _ ((Ep.rf.mu (Or.inr ⟨rfl, rfl⟩)).mu (Or.inl rfl)) ⟨fun i i0 i1 => ?_, fun i i0 i1 => ?_⟩⟩
  · unfold ud
    by_cases e : i = 5 * b + a
    · rw [if_pos e, e, mu_s]
    · rw [if_neg e, mu_i e, mu_o (by decide)]; exact hP.1 i i0 i1
  · unfold ud; split
    · exact hc
    · exact hP.2 i i0 i1
theorem s146 {a b : Int} (hd : 2 ≤ d) (ha : inR a) (hb : inR b) (hV : VW μ v) (hn : ¬ vaO a b → Φ (some (.inl 0)) μ) (hy : vaO a b → ∀ μ', Ep (fun o _ => o = 57) μ μ' → VW μ' (ud v a b) → Φ (some (.inl 1)) μ') : Ct E d 146 [.inr 0, .inl a, .inl b] μ Φ := by
  unfold vaO at hn hy
  refine v146 (by omega) (s152 (by omega) ha ⟨b2_in _, fun h1 => hn (by have := b2_0.mp h1; omega), fun h1 => ⟨hb, fun h2 => hn (by omega), fun h2 => ⟨hb, fun h3 => ?_, fun h3 => hn (by omega)⟩⟩⟩)
  have h1 := b2_ne0.mp h1
  refine ⟨by omega, hy (by omega) _ (Ep.rf.mu rfl) ⟨fun i i0 i1 => ?_, fun i i0 i1 => ?_⟩⟩
  · unfold ud
    by_cases e : i = a
    · rw [if_pos e, e, mu_s]
    · rw [if_neg e, mu_i e]; exact hV.1 i i0 i1
  · unfold ud; split
    · omega
    · exact hV.2 i i0 i1
theorem s274 {a b : Int} (hd : 2 ≤ d) (ha : inR a) (hb : inR b) (hV : VM μ v) (hn : ¬ vaO a b → Φ (some (.inl 0)) (mu μ 123 0 0)) (hy : vaO a b → ∀ μ', Ep (fun o i => o = 155 ∨ (o = 123 ∧ i = 0)) μ μ' → VM μ' (ud v a b) → Φ (some (.inl 1)) μ') : Ct E d 274 [.inr 123, .inl a, .inl b] μ Φ := by
  unfold vaO at hn hy
  refine v274 (by omega) (s166 (by omega) ha ⟨b2_in _, fun h1 => hn (by have := b2_0.mp h1; omega), fun h1 => s153 (by omega) hb (inR_of (by omega) (by omega)) (inR_of (by omega) (by omega)) ⟨b2_in _, fun h2 => ?_, fun h2 => hn (by have := b2_0.mp h2; omega)⟩⟩)
  have h1 := b2_ne0.mp h1
  have h2 := b2_ne0.mp h2
  refine ⟨by omega, hy (by omega) _ ((Ep.rf.mu (Or.inr ⟨rfl, rfl⟩)).mu (Or.inl rfl)) ⟨fun i i0 i1 => ?_, fun i i0 i1 => ?_⟩⟩
  · unfold ud
    by_cases e : i = a
    · rw [if_pos e, e, mu_s]
    · rw [if_neg e, mu_i e, mu_o (by decide)]; exact hV.1 i i0 i1
  · unfold ud; split
    · omega
    · exact hV.2 i i0 i1
theorem s128 {a : Int} (hd : 2 ≤ d) (ha : inR a) (hR : RW μ n f) (hz : a = -1 → ∀ μ', Ep (fun o i => o = 51 ∨ (o = 50 ∧ i = 1)) μ μ' → RW μ' 0 f → Φ (some (.inl 0)) μ') (hn : a ≠ -1 → ¬ leO n a → Φ (some (.inl (-1))) μ) (hy : leO n a → ∀ μ', Ep (fun o i => o = 51 ∨ (o = 50 ∧ i = 1)) μ μ' → RW μ' (n + 1) (ud f n a) → Φ (some (.inl (n + 1))) μ') : Ct E d 128 [.inr 0, .inl a] μ Φ := by
  unfold leO at hn hy
  obtain ⟨r1, r2, r3, r4, r5⟩ := hR
  refine v128 (by omega) ⟨ha, fun h1 => s152 (by omega) ha ⟨b2_in _, fun h2 => hn h1 (by have := b2_0.mp h2; omega), fun h2 => v75 (by omega) ?_⟩, fun h1 => hz h1 _ (Ep.rf.mu (Or.inr ⟨rfl, rfl⟩)) ⟨mu_s _ _ _ _, by omega, by omega, fun i i0 i1 => by omega, fun i i0 i1 => by omega⟩⟩
  have h2 := b2_ne0.mp h2
  rw [r1]
  refine ⟨inR_of (by omega) (by omega), fun h3 => ⟨by omega, inR_of (by decide) (by decide), fun _ => ?_, fun h4 => absurd h4 (by decide)⟩, fun h3 => ⟨inR_of (by decide) (by decide), fun h4 => absurd rfl h4, fun _ => hn h1 (by omega)⟩⟩
  rw [mu_s]
  refine hy (by omega) _ ((Ep.rf.mu (Or.inl rfl)).mu (Or.inr ⟨rfl, rfl⟩)) ⟨mu_s _ _ _ _, by omega, by omega, fun i i0 i1 => ?_, fun i i0 i1 => ?_⟩
  · unfold ud
    rw [mu_o (by decide)]
    by_cases e : i = n
    · rw [if_pos e, e, mu_s]
    · rw [if_neg e, mu_i e]; exact r4 i i0 (by omega)
  · unfold ud
    by_cases e : i = n
    · rw [if_pos e]; omega
    · rw [if_neg e]; exact r5 i i0 (by omega)
theorem s243 {a : Int} (hd : 2 ≤ d) (ha : inR a) (hR : RM μ n f) (hz : a = -1 → ∀ μ', Ep (fun o i => o = 146 ∨ (o = 123 ∧ (i = 0 ∨ i = 42))) μ μ' → RM μ' 0 f → Φ (some (.inl 0)) μ') (hn : a ≠ -1 → ¬ leO n a → Φ (some (.inl (-1))) (mu μ 123 0 0)) (hy : leO n a → ∀ μ', Ep (fun o i => o = 146 ∨ (o = 123 ∧ (i = 0 ∨ i = 42))) μ μ' → RM μ' (n + 1) (ud f n a) → Φ (some (.inl (n + 1))) μ') : Ct E d 243 [.inr 123, .inl a] μ Φ := by
  unfold leO at hn hy
  obtain ⟨r1, r2, r3, r4, r5⟩ := hR
  refine v243 (by omega) ⟨ha, fun h1 => s166 (by omega) ha ⟨b2_in _, fun h2 => hn h1 (by have := b2_0.mp h2; omega), fun h2 => ?_⟩, fun h1 => hz h1 _ ((Ep.rf.mu (Or.inr ⟨rfl, Or.inl rfl⟩)).mu (Or.inr ⟨rfl, Or.inr rfl⟩)) ⟨mu_s _ _ _ _, by omega, by omega, fun i i0 i1 => by omega, fun i i0 i1 => by omega⟩⟩
  have h2 := b2_ne0.mp h2
  have e0 : mu μ 123 0 0 123 42 = n := by rw [mu_i (by decide)]; exact r1
  rw [e0]
  refine ⟨inR_of (by omega) (by omega), fun h3 => ⟨by omega, ?_⟩, fun h3 => hn h1 (by omega)⟩
  refine hy (by omega) _ (((Ep.rf.mu (Or.inr ⟨rfl, Or.inl rfl⟩)).mu (Or.inl rfl)).mu (Or.inr ⟨rfl, Or.inr rfl⟩)) ⟨mu_s _ _ _ _, by omega, by omega, fun i i0 i1 => ?_, fun i i0 i1 => ?_⟩
  · unfold ud
    rw [mu_o (by decide)]
    by_cases e : i = n
    · rw [if_pos e, e, mu_s]
    · rw [if_neg e, mu_i e, mu_o (by decide)]; exact r4 i i0 (by omega)
  · unfold ud
    by_cases e : i = n
    · rw [if_pos e]; omega
    · rw [if_neg e]; exact r5 i i0 (by omega)
theorem s131 {a : Int} (hd : 2 ≤ d) (ha : inR a) (hR : SW μ n f) (hz : a = -1 → ∀ μ', Ep (fun o i => o = 56 ∨ (o = 49 ∧ i = 3)) μ μ' → SW μ' 0 f → Φ (some (.inl 0)) μ') (hn : a ≠ -1 → ¬ siO n a → Φ (some (.inl (-1))) μ) (hy : siO n a → ∀ μ', Ep (fun o i => o = 56 ∨ (o = 49 ∧ i = 3)) μ μ' → SW μ' (n + 1) (ud f n a) → Φ (some (.inl (n + 1))) μ') : Ct E d 131 [.inr 0, .inl a] μ Φ := by
  unfold siO at hn hy
  obtain ⟨r1, r2, r3, r4, r5⟩ := hR
  refine v131 (by omega) ⟨ha, fun h1 => v60 (by omega) ?_, fun h1 => hz h1 _ (Ep.rf.mu (Or.inr ⟨rfl, rfl⟩)) ⟨mu_s _ _ _ _, by omega, by omega, fun i i0 i1 => by omega, fun i i0 i1 => by omega⟩⟩
  have no : ∀ P : Prop, ¬ (0 ≤ a ∧ a < 12 ∧ n < 8) → (inR 0 ∧ ((0 : Int) ≠ 0 → P) ∧ ((0 : Int) = 0 → Φ (some (.inl (-1))) μ)) := fun P e => ⟨inR_of (by decide) (by decide), fun h4 => absurd rfl h4, fun _ => hn h1 e⟩
  rw [r1]
  refine ⟨ha, fun h2 => no _ (by omega), fun h2 => ⟨ha, fun h3 => no _ (by omega), fun h3 => ⟨inR_of (by omega) (by omega), fun h4 => ⟨by omega, inR_of (by decide) (by decide), fun _ => ?_, fun h5 => absurd h5 (by decide)⟩, fun h4 => no _ (by omega)⟩⟩⟩
  rw [mu_s]
  refine hy (by omega) _ ((Ep.rf.mu (Or.inl rfl)).mu (Or.inr ⟨rfl, rfl⟩)) ⟨mu_s _ _ _ _, by omega, by omega, fun i i0 i1 => ?_, fun i i0 i1 => ?_⟩
  · unfold ud
    rw [mu_o (by decide)]
    by_cases e : i = n
    · rw [if_pos e, e, mu_s]
    · rw [if_neg e, mu_i e]; exact r4 i i0 (by omega)
  · unfold ud
    by_cases e : i = n
    · rw [if_pos e]; omega
    · rw [if_neg e]; exact r5 i i0 (by omega)
theorem s247 {a : Int} (hd : 2 ≤ d) (ha : inR a) (hR : SM μ n f) (hz : a = -1 → ∀ μ', Ep (fun o i => o = 149 ∨ (o = 123 ∧ (i = 0 ∨ i = 46))) μ μ' → SM μ' 0 f → Φ (some (.inl 0)) μ') (hn : a ≠ -1 → ¬ siO n a → Φ (some (.inl (-1))) (mu μ 123 0 0)) (hy : siO n a → ∀ μ', Ep (fun o i => o = 149 ∨ (o = 123 ∧ (i = 0 ∨ i = 46))) μ μ' → SM μ' (n + 1) (ud f n a) → Φ (some (.inl (n + 1))) μ') : Ct E d 247 [.inr 123, .inl a] μ Φ := by
  unfold siO at hn hy
  obtain ⟨r1, r2, r3, r4, r5⟩ := hR
  refine v247 (by omega) ⟨ha, fun h1 => s153 (by omega) ha (inR_of (by omega) (by omega)) (inR_of (by omega) (by omega)) ⟨b2_in _, fun h2 => hn h1 (by have := b2_0.mp h2; omega), fun h2 => ?_⟩, fun h1 => hz h1 _ ((Ep.rf.mu (Or.inr ⟨rfl, Or.inl rfl⟩)).mu (Or.inr ⟨rfl, Or.inr rfl⟩)) ⟨mu_s _ _ _ _, by omega, by omega, fun i i0 i1 => by omega, fun i i0 i1 => by omega⟩⟩
  have h2 := b2_ne0.mp h2
  have e0 : mu μ 123 0 0 123 46 = n := by rw [mu_i (by decide)]; exact r1
  rw [e0]
  refine ⟨inR_of (by omega) (by omega), fun h3 => ⟨by omega, ?_⟩, fun h3 => hn h1 (by omega)⟩
  refine hy (by omega) _ (((Ep.rf.mu (Or.inr ⟨rfl, Or.inl rfl⟩)).mu (Or.inl rfl)).mu (Or.inr ⟨rfl, Or.inr rfl⟩)) ⟨mu_s _ _ _ _, by omega, by omega, fun i i0 i1 => ?_, fun i i0 i1 => ?_⟩
  · unfold ud
    rw [mu_o (by decide)]
    by_cases e : i = n
    · rw [if_pos e, e, mu_s]
    · rw [if_neg e, mu_i e, mu_o (by decide)]; exact r4 i i0 (by omega)
  · unfold ud
    by_cases e : i = n
    · rw [if_pos e]; omega
    · rw [if_neg e]; exact r5 i i0 (by omega)
end S21
