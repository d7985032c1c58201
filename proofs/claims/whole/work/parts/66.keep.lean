/-! the image of the reference -/
section S50
variable {E : En} {d : Nat} {Φ : Option AV → Mm → Prop} {μ μ0 μ' κ κ' ν ν' : Mm} {K : Kt}
theorem cod_c {m m' : Int → Int} : ∀ (l : Cd) (i : Int), (∀ j, i ≤ j → j < i + l.length → m' j = m j) → cod m i l → cod m' i l
  | [], _, _, _ => trivial
  | c :: l, i, e, h => by
    rw [List.length_cons] at e
    exact ⟨by rw [e i (by omega) (by omega)]; exact h.1, cod_c l (i + 1) (fun j j0 j1 => e j (by omega) (by omega)) h.2⟩
theorem KW.cgB (ok : KOK K) (h : KW κ K) (e : ∀ o i, supB o i → κ' o i = κ o i) : KW κ' K := by
  obtain ⟨h1, h2, h3, h4, h5, h6⟩ := h
  obtain ⟨⟨o1, o2, o3, o4⟩, o5, -, o7, o8, o9, -⟩ := ok
  have p5 := o5.2.1
  have p7 := o7.2.1
  refine ⟨⟨by rw [e 28 0 (by unfold supB; omega)]; exact h1.1, by rw [e 28 6 (by unfold supB; omega)]; exact h1.2.1, fun i i0 i1 => ?_, cod_c _ _ (fun j j0 j1 => e _ _ (by unfold supB; omega)) h1.2.2.2⟩, ⟨by rw [e 36 0 (by unfold supB; omega)]; exact h2.1, h2.2.1, h2.2.2.1, fun i i0 i1 => ?_, fun i k i0 i1 k0 k1 => ?_⟩, fun i i0 i1 => ?_, ⟨by rw [e 40 0 (by unfold supB; omega)]; exact h4.1, h4.2.1, h4.2.2.1, fun i i0 i1 => ?_, fun i k i0 i1 k0 k1 => ?_⟩, by rw [e 44 0 (by unfold supB; omega)]; exact h5, fun i i0 i1 => ?_⟩
  · rw [e 29 _ (by unfold supB; omega), e 30 _ (by unfold supB; omega), e 31 _ (by unfold supB; omega), e 32 _ (by unfold supB; omega)]; exact h1.2.2.1 i i0 i1
  · rw [e 38 _ (by unfold supB; omega)]; exact h2.2.2.2.1 i i0 i1
  · have := (h2.2.2.2.1 i i0 i1).2
    rw [e 39 _ (by unfold supB; omega)]; exact h2.2.2.2.2 i k i0 i1 k0 k1
  · rw [e 37 _ (by unfold supB; omega)]; exact h3 i i0 i1
  · rw [e 42 _ (by unfold supB; omega)]; exact h4.2.2.2.1 i i0 i1
  · have := (h4.2.2.2.1 i i0 i1).2
    rw [e 43 _ (by unfold supB; omega)]; exact h4.2.2.2.2 i k i0 i1 k0 k1
  · rw [e 45 _ (by unfold supB; omega), e 46 _ (by unfold supB; omega), e 47 _ (by unfold supB; omega), e 48 _ (by unfold supB; omega)]; exact h6 i i0 i1
theorem Sh.cgB (h : Sh κ ν) (e : ∀ o i, supB o i → κ' o i = κ o i) (e' : ∀ o i, supM o i → ν' o i = ν o i) : Sh κ' ν' := by
  obtain ⟨⟨K, k1, k2, k3⟩, ⟨s, s1, s2, s3, s4⟩, h3, ⟨n, f, r1, r2⟩, ⟨q, q1, q2⟩, ⟨c, g, g1, g2⟩, v, v1, v2⟩ := h
  refine ⟨⟨K, k1, k2.cgB k1 e, k3.cg k1 (fun o i hs => e' o i (Or.inl hs))⟩, ⟨s, s1, by rw [e 36 0 (by unfold supB; omega)]; exact s2, ?_, s4.cg (fun i i0 i1 => e' _ _ (by unfold supM; omega))⟩, fun i i0 i1 => ?_, ⟨n, f, ⟨by rw [e 50 1 (by unfold supB; omega)]; exact r1.1, r1.2.1, r1.2.2.1, fun i i0 i1 => by have := r1.2.2.1; rw [e 51 _ (by unfold supB; omega)]; exact r1.2.2.2.1 i i0 i1, r1.2.2.2.2⟩, r2.cg (fun i i0 i1 => e' _ _ (by unfold supM; omega)) (e' _ _ (by unfold supM; omega))⟩, ⟨q, ⟨fun i i0 i1 => by rw [e 55 _ (by unfold supB; omega)]; exact q1.1 i i0 i1, q1.2⟩, q2.cg (fun i i0 i1 => e' _ _ (by unfold supM; omega))⟩, ⟨c, g, ⟨by rw [e 49 3 (by unfold supB; omega)]; exact g1.1, g1.2.1, g1.2.2.1, fun i i0 i1 => by have := g1.2.2.1; rw [e 56 _ (by unfold supB; omega)]; exact g1.2.2.2.1 i i0 i1, g1.2.2.2.2⟩, g2.cg (fun i i0 i1 => e' _ _ (by unfold supM; omega)) (e' _ _ (by unfold supM; omega))⟩, v, ⟨fun i i0 i1 => by rw [e 57 _ (by unfold supB; omega)]; exact v1.1 i i0 i1, v1.2⟩, v2.cg (fun i i0 i1 => e' _ _ (by unfold supM; omega))⟩
  · have g25 : ∀ i, 2 ≤ i → i ≤ 9 → κ' 25 i = κ 25 i := fun i i0 i1 => e _ _ (by unfold supB; omega)
    obtain ⟨t1, t2, t3, t4, t5, t6, t7, t8, t9, t10⟩ := s3
    exact ⟨by rw [g25 _ (by decide) (by decide)]; exact t1, by rw [g25 _ (by decide) (by decide)]; exact t2, by rw [g25 _ (by decide) (by decide)]; exact t3, by rw [g25 _ (by decide) (by decide)]; exact t4, by rw [g25 _ (by decide) (by decide)]; exact t5, by rw [g25 _ (by decide) (by decide)]; exact t6, by rw [g25 _ (by decide) (by decide)]; exact t7, by rw [g25 _ (by decide) (by decide)]; exact t8, fun i i0 i1 => by rw [e (25 + 1) _ (by unfold supB; omega)]; exact t9 i i0 i1, fun i i0 i1 => by rw [e (25 + 2) _ (by unfold supB; omega)]; exact t10 i i0 i1⟩
  · rw [e 58 i (by unfold supB; omega), e' 127 i (by unfold supM; omega)]
    exact h3 i i0 i1
/-- which cell lies at a place of the image -/
def ivC (q : Int) : Nat × Int := if q < 65 then (if q < 28 then (124, q) else if q = 28 then (123, 31) else if q = 29 then (123, 32) else if q = 30 then (123, 36) else if q = 31 then (123, 42) else if q = 32 then (123, 46) else (138, q - 33)) else if q < 401 then (if q < 321 then (139, q - 65) else if q < 337 then (140, q - 321) else (141, q - 337)) else if q < 456 then (if q < 426 then (147, q - 401) else if q < 438 then (146, q - 426) else if q < 446 then (149, q - 438) else (155, q - 446)) else if q < 1056 then (127, q - 456) else if q = 1056 then (130, 0) else if q < 1121 then (if (q - 1057) % 4 = 0 then (131, (q - 1057) / 4) else if (q - 1057) % 4 = 1 then (132, (q - 1057) / 4) else if (q - 1057) % 4 = 2 then (133, (q - 1057) / 4) else (134, (q - 1057) / 4)) else if (q - 1121) % 2 = 0 then (135, (q - 1121) / 2) else (136, (q - 1121) / 2)
theorem ivC_s {o : Nat} {i : Int} (h : supM o i) : ivC (slt o i) = (o, i) ∧ 0 ≤ slt o i ∧ slt o i < 1921 := by
  rcases h with (⟨rfl, h⟩ | ⟨rfl, rfl⟩ | ⟨h1, h2, h3, h4⟩ | ⟨h1, h2, h3, h4⟩ | ⟨rfl, h1, h2⟩ | ⟨rfl, h1, h2⟩ | ⟨rfl, h1, h2⟩ | ⟨rfl, h1, h2⟩) | ⟨rfl, h⟩ | ⟨rfl, h1, h2⟩ | ⟨rfl, h1, h2⟩ | ⟨rfl, h1, h2⟩ | ⟨rfl, h1, h2⟩ | ⟨rfl, h1, h2⟩ | ⟨rfl, h1, h2⟩
  · rcases h with rfl | rfl | rfl <;> decide
  · decide
  · rcases (by omega : o = 131 ∨ o = 132 ∨ o = 133 ∨ o = 134) with rfl | rfl | rfl | rfl
    · rw [show slt 131 i = 1057 + 4 * i from rfl]
      refine ⟨?_, by omega, by omega⟩
      unfold ivC
      rw [if_neg (by omega), if_neg (by omega), if_neg (by omega), if_neg (by omega), if_neg (by omega), if_pos (by omega), if_pos (by omega), show (1057 + 4 * i - 1057) / 4 = i by omega]
    · rw [show slt 132 i = 1058 + 4 * i from rfl]
      refine ⟨?_, by omega, by omega⟩
      unfold ivC
      rw [if_neg (by omega), if_neg (by omega), if_neg (by omega), if_neg (by omega), if_neg (by omega), if_pos (by omega), if_neg (by omega), if_pos (by omega), show (1058 + 4 * i - 1057) / 4 = i by omega]
    · rw [show slt 133 i = 1059 + 4 * i from rfl]
      refine ⟨?_, by omega, by omega⟩
      unfold ivC
      rw [if_neg (by omega), if_neg (by omega), if_neg (by omega), if_neg (by omega), if_neg (by omega), if_pos (by omega), if_neg (by omega), if_neg (by omega), if_pos (by omega), show (1059 + 4 * i - 1057) / 4 = i by omega]
    · rw [show slt 134 i = 1060 + 4 * i from rfl]
      refine ⟨?_, by omega, by omega⟩
      unfold ivC
      rw [if_neg (by omega), if_neg (by omega), if_neg (by omega), if_neg (by omega), if_neg (by omega), if_pos (by omega), if_neg (by omega), if_neg (by omega), if_neg (by omega), show (1060 + 4 * i - 1057) / 4 = i by omega]
  · rcases (by omega : o = 135 ∨ o = 136) with rfl | rfl
    · rw [show slt 135 i = 1121 + 2 * i from rfl]
      refine ⟨?_, by omega, by omega⟩
      unfold ivC
      rw [if_neg (by omega), if_neg (by omega), if_neg (by omega), if_neg (by omega), if_neg (by omega), if_neg (by omega), if_pos (by omega), show (1121 + 2 * i - 1121) / 2 = i by omega]
    · rw [show slt 136 i = 1122 + 2 * i from rfl]
      refine ⟨?_, by omega, by omega⟩
      unfold ivC
      rw [if_neg (by omega), if_neg (by omega), if_neg (by omega), if_neg (by omega), if_neg (by omega), if_neg (by omega), if_neg (by omega), show (1122 + 2 * i - 1121) / 2 = i by omega]
  · rw [show slt 138 i = 33 + i from rfl]
    refine ⟨?_, by omega, by omega⟩
    unfold ivC
    rw [if_pos (by omega), if_neg (by omega), if_neg (by omega), if_neg (by omega), if_neg (by omega), if_neg (by omega), if_neg (by omega), show 33 + i - 33 = i by omega]
  · rw [show slt 139 i = 65 + i from rfl]
    refine ⟨?_, by omega, by omega⟩
    unfold ivC
    rw [if_neg (by omega), if_pos (by omega), if_pos (by omega), show 65 + i - 65 = i by omega]
  · rw [show slt 140 i = 321 + i from rfl]
    refine ⟨?_, by omega, by omega⟩
    unfold ivC
    rw [if_neg (by omega), if_pos (by omega), if_neg (by omega), if_pos (by omega), show 321 + i - 321 = i by omega]
  · rw [show slt 141 i = 337 + i from rfl]
    refine ⟨?_, by omega, by omega⟩
    unfold ivC
    rw [if_neg (by omega), if_pos (by omega), if_neg (by omega), if_neg (by omega), show 337 + i - 337 = i by omega]
  · rcases h with rfl | rfl <;> decide
  · rw [show slt 124 i = i from rfl]
    refine ⟨?_, by omega, by omega⟩
    unfold ivC
    rw [if_pos (by omega), if_pos (by omega)]
  · rw [show slt 127 i = 456 + i from rfl]
    refine ⟨?_, by omega, by omega⟩
    unfold ivC
    rw [if_neg (by omega), if_neg (by omega), if_neg (by omega), if_pos (by omega), show 456 + i - 456 = i by omega]
  · rw [show slt 146 i = 426 + i from rfl]
    refine ⟨?_, by omega, by omega⟩
    unfold ivC
    rw [if_neg (by omega), if_neg (by omega), if_pos (by omega), if_neg (by omega), if_pos (by omega), show 426 + i - 426 = i by omega]
  · rw [show slt 147 i = 401 + i from rfl]
    refine ⟨?_, by omega, by omega⟩
    unfold ivC
    rw [if_neg (by omega), if_neg (by omega), if_pos (by omega), if_pos (by omega), show 401 + i - 401 = i by omega]
  · rw [show slt 149 i = 438 + i from rfl]
    refine ⟨?_, by omega, by omega⟩
    unfold ivC
    rw [if_neg (by omega), if_neg (by omega), if_pos (by omega), if_neg (by omega), if_neg (by omega), if_pos (by omega), show 438 + i - 438 = i by omega]
  · rw [show slt 155 i = 446 + i from rfl]
    refine ⟨?_, by omega, by omega⟩
    unfold ivC
    rw [if_neg (by omega), if_neg (by omega), if_pos (by omega), if_neg (by omega), if_neg (by omega), if_neg (by omega), show 446 + i - 446 = i by omega]
theorem slt_u {o o' : Nat} {i i' : Int} (h : supM o i) (h' : supM o' i') (e : slt o i = slt o' i') : o = o' ∧ i = i' := by
  have h1 := (ivC_s h).1
  rw [e, (ivC_s h').1] at h1
  exact ⟨(congrArg Prod.fst h1).symm, (congrArg Prod.snd h1).symm⟩
/-- so many cells are kept, or laid back -/
def KP (tk : Int) (μ0 : Mm) (q : Int) (μ : Mm) : Prop := μ 123 57 = q ∧ μ 123 55 = tk ∧
  (tk = 1 → (∀ o i, ¬ (o = 157 ∨ (o = 123 ∧ i = 57)) → μ o i = μ0 o i) ∧ ∀ o i, supM o i → slt o i < q → μ 157 (slt o i) = μ0 o i) ∧
  (tk = 0 → (∀ o i, ¬ ((supM o i ∧ slt o i < q) ∨ (o = 123 ∧ i = 57)) → μ o i = μ0 o i) ∧ ∀ o i, supM o i → slt o i < q → μ o i = μ0 157 (slt o i))
theorem sM57 {i : Int} : ¬ supM 157 i := by unfold supM kmS; omega
theorem sM123 : ¬ supM 123 57 ∧ ¬ supM 123 55 := by unfold supM kmS; omega
theorem kp280 {tk q : Int} {o : Nat} {i : Int} {f : Int → Mm → Prop} (hd : 1 ≤ d) (ht : tk = 0 ∨ tk = 1) (hP : KP tk μ0 q μ) (hs : supM o i) (hq : slt o i = q) (h : ∀ z μ1, (∀ a j, a ≠ 157 → ¬ (a = 123 ∧ j = 57) → μ1 a j = μ a j) → KP tk μ0 (q + 1) (mu μ1 o i z) → f z μ1) {x : Int} (hx : x = μ o i) : Ct E d 280 [.inr 123, .inl x] μ (rI f) := by
  obtain ⟨p1, p2, p3, p4⟩ := hP
  have qb := (ivC_s hs).2
  have ne57 : ¬ (o = 157) := fun e => sM57 (e ▸ hs)
  have ne123 : ¬ (o = 123 ∧ i = 57) := fun e => sM123.1 (by rw [← e.1, ← e.2]; exact hs)
  have ne55 : ¬ (o = 123 ∧ i = 55) := fun e => sM123.2 (by rw [← e.1, ← e.2]; exact hs)
  have muN : ∀ {ν : Mm} {a : Nat} {j v : Int}, ¬ (o = a ∧ i = j) → mu ν o i v a j = ν a j := fun {ν a j v} hn => by
    unfold mu; rw [if_neg (fun e => hn ⟨e.1.symm, e.2.symm⟩)]
  refine v280 hd ?_
  rw [p1, p2, hx]
  refine ⟨inR_of (by omega) (by omega), fun k => ⟨⟨by omega, by omega⟩, ?_⟩, fun k => ⟨⟨by omega, by omega⟩, ?_⟩⟩
  · obtain ⟨g1, g2⟩ := p3 (by omega)
    rw [show q + 1 - 1 = q by omega]
    refine h _ _ (fun a j n1 n2 => ?_) ⟨?_, ?_, fun _ => ⟨fun a j hn => ?_, fun a j hsa hl => ?_⟩, fun e => by omega⟩
    · rw [mu_o n1]
      by_cases e : a = 123
      · rw [e, mu_i (fun g => n2 ⟨e, g⟩)]
      · rw [mu_o e]
    · rw [muN ne123, mu_o (by decide), mu_s]
    · rw [muN ne55, mu_o (by decide), mu_i (by decide)]; exact p2
    · by_cases e : o = a ∧ i = j
      · rw [← e.1, ← e.2, mu_s]
        exact g1 o i (fun k => k.elim ne57 ne123)
      · rw [muN e, mu_o (fun g => hn (Or.inl g))]
        by_cases e2 : a = 123
        · rw [e2, mu_i (fun g => hn (Or.inr ⟨e2, g⟩)), ← e2]; exact g1 a j hn
        · rw [mu_o e2]; exact g1 a j hn
    · rw [muN (fun g => ne57 g.1)]
      by_cases e : slt a j = q
      · rw [e, mu_s]
        obtain ⟨e1, e2⟩ := slt_u hsa hs (e.trans hq.symm)
        rw [e1, e2]
        exact g1 o i (fun k => k.elim ne57 ne123)
      · rw [mu_i e, mu_o (by decide)]
        exact g2 a j hsa (by omega)
  · obtain ⟨g1, g2⟩ := p4 k
    rw [show q + 1 - 1 = q by omega]
    have e157 : μ 157 q = μ0 157 q := g1 157 q (fun k => k.elim (fun k => sM57 k.1) (fun k => absurd k.1 (by decide)))
    refine h _ _ (fun a j n1 n2 => ?_) ⟨?_, ?_, fun e => by omega, fun _ => ⟨fun a j hn => ?_, fun a j hsa hl => ?_⟩⟩
    · by_cases e : a = 123
      · rw [e, mu_i (fun g => n2 ⟨e, g⟩)]
      · rw [mu_o e]
    · rw [muN ne123, mu_s]
    · rw [muN ne55, mu_i (by decide)]; exact p2
    · have e : ¬ (o = a ∧ i = j) := fun e => hn (Or.inl ⟨by rw [← e.1, ← e.2]; exact hs, by rw [← e.1, ← e.2]; omega⟩)
      rw [muN e]
      have hn2 : ¬ ((supM a j ∧ slt a j < q) ∨ (a = 123 ∧ j = 57)) := fun k => k.elim (fun k => hn (Or.inl ⟨k.1, by omega⟩)) (fun k => hn (Or.inr k))
      by_cases e2 : a = 123
      · rw [e2, mu_i (fun g => hn (Or.inr ⟨e2, g⟩)), ← e2]; exact g1 a j hn2
      · rw [mu_o e2]; exact g1 a j hn2
    · by_cases e : slt a j = q
      · obtain ⟨e1, e2⟩ := slt_u hsa hs (e.trans hq.symm)
        rw [e1, e2, mu_s, e157, hq]
      · have e0 : ¬ (o = a ∧ i = j) := fun g => e (by rw [← g.1, ← g.2]; exact hq)
        rw [muN e0]
        have na : ¬ (a = 123 ∧ j = 57) := fun g => sM123.1 (by rw [← g.1, ← g.2]; exact hsa)
        have : mu μ 123 57 (q + 1) a j = μ a j := by unfold mu; rw [if_neg na]
        rw [this]
        exact g2 a j hsa (by omega)
end S50
