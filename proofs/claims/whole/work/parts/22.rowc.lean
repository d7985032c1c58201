/-- other objects stay -/
def Eo (o : Nat) (μ μ' : Mm) : Prop := ∀ a i, a ≠ o → μ' a i = μ a i
theorem Eo.rf {o : Nat} {μ : Mm} : Eo o μ μ := fun _ _ _ => rfl
theorem Eo.mu {o : Nat} {μ μ' : Mm} {i v : Int} (h : Eo o μ μ') : Eo o μ (mu μ' o i v) := fun a j ha => by rw [mu_o ha]; exact h a j ha
theorem RW.eo {o : Nat} {μ μ' : Mm} {n : Int} {f : Int → Int} (h : RW μ n f) (e : Eo o μ μ') (h1 : (50 : Nat) ≠ o) (h2 : (51 : Nat) ≠ o) : RW μ' n f :=
  ⟨by rw [e _ _ h1]; exact h.1, h.2.1, h.2.2.1, fun i g1 g2 => by rw [e _ _ h2]; exact h.2.2.2.1 i g1 g2, h.2.2.2.2⟩
theorem RM.eo {o : Nat} {μ μ' : Mm} {n : Int} {f : Int → Int} (h : RM μ n f) (e : Eo o μ μ') (h1 : (123 : Nat) ≠ o) (h2 : (146 : Nat) ≠ o) : RM μ' n f :=
  ⟨by rw [e _ _ h1]; exact h.1, h.2.1, h.2.2.1, fun i g1 g2 => by rw [e _ _ h2]; exact h.2.2.2.1 i g1 g2, h.2.2.2.2⟩
/-- the least of what the first so many mirrors that end at t give -/
noncomputable def inn (f W : Int → Int) (t : Int) : Nat → Int → Int
  | 0, s => s
  | a + 1, s => @ite Int (mir f a t) (Classical.propDecidable _) (min (inn f W t a s) (W a + 1)) (inn f W t a s)
theorem inn_t {f W : Int → Int} {t : Int} {a : Nat} {s : Int} (h : mir f a t) : inn f W t (a + 1) s = min (inn f W t a s) (W a + 1) := by rw [inn, if_pos h]
theorem inn_f {f W : Int → Int} {t : Int} {a : Nat} {s : Int} (h : ¬ mir f a t) : inn f W t (a + 1) s = inn f W t a s := by rw [inn, if_neg h]
theorem inn_min (f W : Int → Int) (t : Int) (s r : Int) : ∀ a : Nat, inn f W t a (min s r) = min s (inn f W t a r) := by
  intro a
  induction a with
  | zero => rfl
  | succ a ih =>
    by_cases h : mir f a t
    · rw [inn_t h, inn_t h, ih]; omega
    · rw [inn_f h, inn_f h, ih]
theorem inn_ge {f W : Int → Int} {t lo : Int} : ∀ (a : Nat) {s : Int}, lo ≤ s → (∀ j : Nat, j < a → lo ≤ W j + 1) → lo ≤ inn f W t a s := by
  intro a
  induction a with
  | zero => intro s hs _; exact hs
  | succ a ih =>
    intro s hs h
    have h1 := ih hs (fun j hj => h j (by omega))
    have h2 := h a (by omega)
    by_cases hm : mir f a t
    · rw [inn_t hm]; omega
    · rw [inn_f hm]; exact h1
theorem inn_le {f W : Int → Int} {t : Int} : ∀ (a : Nat) {s : Int}, inn f W t a s ≤ s := by
  intro a
  induction a with
  | zero => intro s; exact Int.le_refl _
  | succ a ih =>
    intro s
    by_cases hm : mir f a t
    · rw [inn_t hm]; have := @ih s; omega
    · rw [inn_f hm]; exact ih
/-- a table of how few mirrors -/
def isW (f : Int → Int) (n : Int) (W : Int → Int) : Prop := W 0 = 0 ∧ (∀ t, 1 ≤ t → t ≤ n → W t = inn f W t t.toNat 100000000) ∧ ∀ t, 0 ≤ t → t ≤ n → 0 ≤ W t ∧ W t ≤ t
theorem inn_cg {f W W' : Int → Int} {t s : Int} : ∀ (a : Nat), (∀ j : Nat, j < a → W j = W' j) → inn f W t a s = inn f W' t a s := by
  intro a
  induction a with
  | zero => intro _; rfl
  | succ a ih =>
    intro h
    by_cases hm : mir f a t
    · rw [inn_t hm, inn_t hm, ih (fun j hj => h j (by omega)), h a (by omega)]
    · rw [inn_f hm, inn_f hm, ih (fun j hj => h j (by omega))]
theorem isW_ex (f : Int → Int) : ∀ n : Nat, ∃ W, isW f n W := by
  intro n
  induction n with
  | zero => exact ⟨fun _ => 0, rfl, fun t h1 h2 => by omega, fun t h1 h2 => ⟨Int.le_refl 0, h1⟩⟩
  | succ n ih =>
    obtain ⟨W, h1, h2, h3⟩ := ih
    obtain ⟨V, v1, v2⟩ : ∃ V : Int → Int, V (n + 1) = inn f W (n + 1) (n + 1) 100000000 ∧ ∀ i, i ≠ (n : Int) + 1 → V i = W i := ⟨fun i => if i = n + 1 then inn f W (n + 1) (n + 1) 100000000 else W i, if_pos rfl, fun i hi => if_neg hi⟩
    refine ⟨V, ?_, ?_, ?_⟩
    · rw [v2 0 (by omega)]; exact h1
    · intro t g1 g2
      by_cases ht : t = n + 1
      · rw [ht, v1, show ((n : Int) + 1).toNat = n + 1 by omega]
        exact inn_cg _ (fun j hj => (v2 j (by omega)).symm)
      · rw [v2 t ht, h2 t g1 (by omega)]
        exact inn_cg _ (fun j hj => (v2 j (by omega)).symm)
    · intro t g1 g2
      by_cases ht : t = n + 1
      · rw [ht, v1]
        have hm : mir f (n : Int) ((n : Int) + 1) := fun k k0 k1 => by omega
        have h4 := h3 n (by omega) (by omega)
        refine ⟨inn_ge _ (by omega) (fun j hj => by have := h3 j (by omega) (by omega); omega), ?_⟩
        rw [inn_t hm]
        omega
      · rw [v2 t ht]; exact h3 t g1 (by omega)
section S3
variable {E : En} {d : Nat} {Φ : Option AV → Mm → Prop} {n : Int} {f W : Int → Int} {μ0 : Mm}
theorem l87b (hd : 2 ≤ d) (hW : isW f n W) (t : Int) (h0 : RW μ0 n f) (t1 : 1 ≤ t) (tn : t ≤ n) : ∀ (m : Nat) (a : Int) (μ : Mm), Eo 54 μ0 μ → 0 ≤ a → a + m = t → (∀ i, 0 ≤ i → i < t → μ 54 i = W i) → μ 54 t = inn f W t a.toNat t →
    (∀ μ', Eo 54 μ0 μ' → (∀ i, 0 ≤ i → i < t + 1 → μ' 54 i = W i) → G E d 87 Φ 7 [some (.inr 50), some (.inl (t + 1)), none] [] μ') → G E d 87 Φ 18 [some (.inr 50), some (.inl t), some (.inl a)] [] μ := by
  have r3 := h0.2.2.1
  intro m
  induction m with
  | zero =>
    intro a μ he ha hm hall hc h
    refine v87_18 (by omega) ⟨inR_of (by omega) (by omega), inR_of (by omega) (by omega), fun h1 => h μ he (fun i i0 i1 => ?_), fun h1 => by omega⟩
    by_cases hi : i = t
    · have hmin : (t : Int) = min t 100000000 := by omega
      rw [hi, hc, hW.2.1 t t1 tn, show a.toNat = t.toNat by omega]
      conv => lhs; arg 5; rw [hmin]
      rw [inn_min]
      have := (hW.2.2 t (by omega) tn).2
      rw [hW.2.1 t t1 tn] at this
      omega
    · exact hall i i0 (by omega)
  | succ m ih =>
    intro a μ he ha hm hall hc h
    have hR := h0.eo he (by decide) (by decide)
    refine v87_18 (by omega) ⟨inR_of (by omega) (by omega), inR_of (by omega) (by omega), fun h1 => by omega, fun h1 => ?_⟩
    have ea : (a.toNat : Int) = a := by omega
    refine s88 (by omega) hR ha (by omega) (by omega) tn ⟨b2_in _, fun h2 => ?_, fun h2 => ?_⟩
    · refine ih (a + 1) μ he (by omega) (by omega) hall ?_ h
      rw [hc, show (a + 1).toNat = a.toNat + 1 by omega, inn_f (by rw [ea]; exact b2_0.mp h2)]
    · have hWa := hW.2.2 a ha (by omega)
      have hlo : -100 ≤ inn f W t a.toNat t := inn_ge _ (by omega) (fun j hj => by have := hW.2.2 j (by omega) (by omega); omega)
      have hhi : inn f W t a.toNat t ≤ t := inn_le _
      refine ⟨by omega, by omega, by omega, ?_⟩
      refine ih (a + 1) _ he.mu (by omega) (by omega) (fun i i0 i1 => by rw [mu_i (by omega)]; exact hall i i0 i1) ?_ h
      rw [mu_s, hc, hall a ha h1, iMin_eq (inR_of (by omega) (by omega)) (inR_of (by omega) (by omega)), show (a + 1).toNat = a.toNat + 1 by omega, inn_t (by rw [ea]; exact b2_ne0.mp h2), ea]
theorem l87 (hd : 2 ≤ d) (hW : isW f n W) (h0 : RW μ0 n f) (h : ∀ μ', Eo 54 μ0 μ' → Φ (some (.inl (W n))) μ') : ∀ (m : Nat) (t : Int) (μ : Mm), Eo 54 μ0 μ → 1 ≤ t → t + m = n + 1 → (∀ i, 0 ≤ i → i < t → μ 54 i = W i) →
    G E d 87 Φ 7 [some (.inr 50), some (.inl t), none] [] μ := by
  have r3 := h0.2.2.1
  have r2 := h0.2.1
  intro m
  induction m with
  | zero =>
    intro t μ he ht hm hall
    have hR := h0.eo he (by decide) (by decide)
    refine v87_7 (by omega) ?_
    rw [hR.1]
    refine ⟨inR_of (by omega) (by omega), inR_of (by omega) (by omega), fun h1 => ⟨by omega, ?_⟩, fun h1 => by omega⟩
    rw [hall n (by omega) (by omega)]
    exact h μ he
  | succ m ih =>
    intro t μ he ht hm hall
    have hR := h0.eo he (by decide) (by decide)
    refine v87_7 (by omega) ?_
    rw [hR.1]
    refine ⟨inR_of (by omega) (by omega), inR_of (by omega) (by omega), fun h1 => by omega, fun h1 => ⟨by omega, ?_⟩⟩
    refine l87b hd hW t h0 ht h1 t.toNat 0 _ he.mu (by omega) (by omega) (fun i i0 i1 => by rw [mu_i (by omega)]; exact hall i i0 i1) (by rw [mu_s]; rfl) (fun μ' e1 e2 => ih (t + 1) μ' e1 (by omega) (by omega) e2)
theorem s87 {μ : Mm} (hd : 2 ≤ d) (hW : isW f n W) (hR : RW μ n f) (h : ∀ μ', Eo 54 μ μ' → Φ (some (.inl (W n))) μ') : Ct E d 87 [.inr 50] μ Φ := by
  have r2 := hR.2.1
  refine v87 (by omega) (l87 hd hW hR h n.toNat 1 _ Eo.rf.mu (by omega) (by omega) (fun i i0 i1 => ?_))
  rw [show i = 0 by omega, mu_s, hW.1]
theorem l258b (hd : 2 ≤ d) (hW : isW f n W) (t : Int) (h0 : RM μ0 n f) (t1 : 0 ≤ t) (tn : t ≤ n) : ∀ (m : Nat) (a : Int) (μ : Mm), Eo 148 μ0 μ → 0 ≤ a → a + m = t → (∀ i, 0 ≤ i → i < t → μ 148 i = W i) → μ 148 t = inn f W t a.toNat (if t = 0 then 0 else 100000000) →
    (∀ μ', Eo 148 μ0 μ' → (∀ i, 0 ≤ i → i < t + 1 → μ' 148 i = W i) → G E d 258 Φ 2 [some (.inr 123), some (.inl (t + 1)), none] [] μ') → G E d 258 Φ 17 [some (.inr 123), some (.inl t), some (.inl a)] [] μ := by
  have r3 := h0.2.2.1
  intro m
  induction m with
  | zero =>
    intro a μ he ha hm hall hc h
    refine v258_17 (by omega) ⟨inR_of (by omega) (by omega), inR_of (by omega) (by omega), fun h1 => h μ he (fun i i0 i1 => ?_), fun h1 => by omega⟩
    by_cases hi : i = t
    · by_cases ht : t = 0
      · rw [hi, hc, show a.toNat = 0 by omega, if_pos ht, ht, hW.1]; rfl
      · rw [hi, hc, hW.2.1 t (by omega) tn, show a.toNat = t.toNat by omega, if_neg ht]
    · exact hall i i0 (by omega)
  | succ m ih =>
    intro a μ he ha hm hall hc h
    have hR := h0.eo he (by decide) (by decide)
    refine v258_17 (by omega) ⟨inR_of (by omega) (by omega), inR_of (by omega) (by omega), fun h1 => by omega, fun h1 => ?_⟩
    have ea : (a.toNat : Int) = a := by omega
    rw [if_neg (show ¬ t = 0 by omega)] at hc
    refine s257 (by omega) hR ha (by omega) (by omega) tn ⟨b2_in _, fun h2 => ?_, fun h2 => ?_⟩
    · refine ih (a + 1) μ he (by omega) (by omega) hall ?_ h
      rw [if_neg (show ¬ t = 0 by omega), hc, show (a + 1).toNat = a.toNat + 1 by omega, inn_f (by rw [ea]; exact b2_0.mp h2)]
    · have hWa := hW.2.2 a ha (by omega)
      have hlo : -100 ≤ inn f W t a.toNat 100000000 := inn_ge _ (by omega) (fun j hj => by have := hW.2.2 j (by omega) (by omega); omega)
      have hhi : inn f W t a.toNat 100000000 ≤ 100000000 := inn_le _
      refine ⟨by omega, by omega, ?_⟩
      rw [hall a ha h1, hc]
      refine s156 (by omega) (inR_of (by omega) (by omega)) (inR_of (by omega) (by omega)) ⟨by omega, ?_⟩
      refine ih (a + 1) _ he.mu (by omega) (by omega) (fun i i0 i1 => by rw [mu_i (by omega)]; exact hall i i0 i1) ?_ h
      rw [mu_s, if_neg (show ¬ t = 0 by omega), show (a + 1).toNat = a.toNat + 1 by omega, inn_t (by rw [ea]; exact b2_ne0.mp h2), ea]
theorem l258 (hd : 2 ≤ d) (hW : isW f n W) (h0 : RM μ0 n f) (h : ∀ μ', Eo 148 μ0 μ' → Φ (some (.inl (W n))) μ') : ∀ (m : Nat) (t : Int) (μ : Mm), Eo 148 μ0 μ → 0 ≤ t → t + m = n + 1 → (∀ i, 0 ≤ i → i < t → μ 148 i = W i) →
    G E d 258 Φ 2 [some (.inr 123), some (.inl t), none] [] μ := by
  have r3 := h0.2.2.1
  have r2 := h0.2.1
  intro m
  induction m with
  | zero =>
    intro t μ he ht hm hall
    have hR := h0.eo he (by decide) (by decide)
    refine v258_2 (by omega) ?_
    rw [hR.1]
    refine ⟨inR_of (by omega) (by omega), inR_of (by omega) (by omega), fun h1 => ⟨by omega, ?_⟩, fun h1 => by omega⟩
    rw [hall n (by omega) (by omega)]
    exact h μ he
  | succ m ih =>
    intro t μ he ht hm hall
    have hR := h0.eo he (by decide) (by decide)
    refine v258_2 (by omega) ?_
    rw [hR.1]
    refine ⟨inR_of (by omega) (by omega), inR_of (by omega) (by omega), fun h1 => by omega, fun h1 => ⟨inR_of (by omega) (by omega), fun h2 => ⟨by omega, ?_⟩, fun h2 => ⟨by omega, ?_⟩⟩⟩
    · exact l258b hd hW t h0 ht h1 t.toNat 0 _ he.mu (by omega) (by omega) (fun i i0 i1 => by rw [mu_i (by omega)]; exact hall i i0 i1) (by rw [mu_s, if_neg h2]; rfl) (fun μ' e1 e2 => ih (t + 1) μ' e1 (by omega) (by omega) e2)
    · exact l258b hd hW t h0 ht h1 t.toNat 0 _ he.mu (by omega) (by omega) (fun i i0 i1 => by rw [mu_i (by omega)]; exact hall i i0 i1) (by rw [mu_s, if_pos h2]; rfl) (fun μ' e1 e2 => ih (t + 1) μ' e1 (by omega) (by omega) e2)
theorem s258 {μ : Mm} (hd : 2 ≤ d) (hW : isW f n W) (hR : RM μ n f) (h : ∀ μ', Eo 148 μ μ' → Φ (some (.inl (W n))) μ') : Ct E d 258 [.inr 123] μ Φ := by
  have r2 := hR.2.1
  exact v258 (by omega) (l258 hd hW hR h (n + 1).toNat 0 _ Eo.rf (by omega) (by omega) (fun i i0 i1 => by omega))
end S3
