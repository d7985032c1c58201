/-! letters that lack -/
section S25
variable {E : En} {d : Nat} {Φ : Option AV → Mm → Prop} {μ : Mm} {c : Int} {L : Int → Int} {X : Int → Int → Int}
theorem oc_b (l i : Int) (m : Nat) : 0 ≤ oc X l i m ∧ oc X l i m ≤ m := by
  have := su_b (g := fun k => b2 (X i k = l)) (B := 1) m (fun k _ => by rcases b2_01 (X i k = l) with e | e <;> rw [e] <;> omega)
  unfold oc; omega
/-- how many letters of the word lack -/
noncomputable def lk (X : Int → Int → Int) (i : Int) (m : Nat) (g : Int → Int) : Int := su (fun z => max 0 (oc X z i m - g z)) 10
noncomputable def lkJ (X : Int → Int → Int) (i : Int) (m j : Nat) (g : Int → Int) : Int := su (fun z => max 0 (min (oc X z i j) (oc X z i m - g z))) 10
theorem lkJ_s {i : Int} {m j : Nat} {g : Int → Int} (h0 : 0 ≤ X i j) (h9 : X i j ≤ 9) : lkJ X i m (j + 1) g = lkJ X i m j g + (if oc X (X i j) i j < oc X (X i j) i m - g (X i j) then 1 else 0) := by
  unfold lkJ
  rw [su_upd (g := fun z => max 0 (min (oc X z i j) (oc X z i m - g z))) (r := (X i j).toNat) 10 (fun z _ hz => by
    have : oc X z i (j + 1) = oc X z i j := by rw [oc_s, b2_f (by omega)]; omega
    simp only [this]), if_pos (by omega)]
  have e : (((X i j).toNat : Nat) : Int) = X i j := by omega
  have e1 : oc X (X i j) i (j + 1) = oc X (X i j) i j + 1 := by rw [oc_s, b2_t rfl]
  have b0 := (oc_b (X := X) (X i j) i j).1
  simp only [e, e1]
  split <;> omega
theorem lkJ_e {i : Int} {m : Nat} {g : Int → Int} (hg : ∀ z, 0 ≤ z → z < 10 → 0 ≤ g z) : lkJ X i m m g = lk X i m g := by
  unfold lkJ lk
  exact su_c _ (fun z hz => by
    have := hg z (by omega) (by omega)
    have b0 := (oc_b (X := X) z i m).1
    omega)
theorem lkJ_0 {i : Int} {m : Nat} {g : Int → Int} : lkJ X i m 0 g = 0 := by
  unfold lkJ
  rw [su_c (h := fun _ => 0) 10 (fun z _ => by rw [oc, su]; omega)]; rfl
theorem s31j {i : Int} (hd : 4 ≤ d) (hW : WW μ 36 c L X) (i0 : 0 ≤ i) (i1 : i < c) (hB : ∀ z, 0 ≤ z → z < 10 → 0 ≤ μ 62 z ∧ μ 62 z ≤ 1000) (h : ∀ μ', Eo 62 μ μ' → (∀ z, 0 ≤ z → z < 10 → μ' 62 z = μ 62 z) → Φ (some (.inl (lk X i (L i).toNat (μ 62)))) μ') : Ct E d 31 [.inr 23, .inr 36, .inl i] μ Φ := by
  have w3 := hW.2.2.1
  have wl := hW.2.2.2.1 i i0 i1
  have key : ∀ (m j : Nat) (μ' : Mm), j + m = (L i).toNat → Eo 62 μ μ' → (∀ z, 0 ≤ z → z < 10 → μ' 62 z = μ 62 z - oc X z i (L i).toNat + oc X z i j) → G E d 31 Φ 8 [some (.inr 23), some (.inr 36), some (.inl i), some (.inl (lkJ X i (L i).toNat j (μ 62))), some (.inl (j : Int)), none] [] μ' := by
    intro m
    induction m with
    | zero =>
      intro j μ' hj hE hg
      have e1 : μ' 38 i = L i := by rw [hE _ _ (by decide)]; exact wl.1
      refine v31_36_8 (by omega) ?_
      rw [e1]
      refine ⟨by omega, inR_of (by omega) (by omega), inR_of (by omega) (by omega), fun _ => ?_, fun h1 => by omega⟩
      rw [show j = (L i).toNat by omega, lkJ_e (fun z z0 z1 => (hB z z0 z1).1)]
      refine h μ' hE (fun z z0 z1 => ?_)
      rw [hg z z0 z1, show j = (L i).toNat by omega]; omega
    | succ m ih =>
      intro j μ' hj hE hg
      have e1 : μ' 38 i = L i := by rw [hE _ _ (by decide)]; exact wl.1
      have wx := hW.2.2.2.2 i j i0 i1 (by omega) (by omega)
      have bx := hB (X i j) (by omega) (by omega)
      have o1 := oc_b (X := X) (X i j) i j
      have o2 := oc_b (X := X) (X i j) i (L i).toNat
      have hv := hg (X i j) (by omega) (by omega)
      have nxt : ∀ z, 0 ≤ z → z < 10 → mu μ' 62 (X i j) (μ' 62 (X i j) + 1) 62 z = μ 62 z - oc X z i (L i).toNat + oc X z i (j + 1) := fun z z0 z1 => by
        rw [oc_s]
        by_cases e : X i j = z
        · rw [b2_t e, ← e, mu_s, hv]; omega
        · rw [b2_f e, mu_i (Ne.symm e), hg z z0 z1]; omega
      have nx := ih (j + 1) _ (by omega) hE.mu nxt
      rw [lkJ_s wx.2.1 wx.2.2] at nx
      refine v31_36_8 (by omega) ?_
      rw [e1]
      refine ⟨by omega, inR_of (by omega) (by omega), inR_of (by omega) (by omega), fun h1 => by omega, fun _ => s104j (by omega) (hW.eo hE (by decide) (by decide) (by decide)) i0 i1 (by omega) (by omega) ?_⟩
      refine s152 (by omega) (inR_of (by omega) (by omega)) ⟨b2_in _, fun h2 => absurd (by omega) (b2_0.mp h2), fun _ => ⟨by omega, inR_of (by omega) (by omega), fun h2 => ⟨by omega, by omega, ?_⟩, fun h2 => ⟨by omega, by omega, ?_⟩⟩⟩
      · rw [if_neg (by omega)] at nx; exact nx
      · rw [if_pos (by omega)] at nx; exact nx
  refine v31_36 (by omega) (s30j (by omega) hW i0 i1 (fun μ' hE hg => ?_))
  have := key (L i).toNat 0 μ' (by omega) hE (fun z z0 z1 => by rw [hg z z0 z1, oc, oc, su]; omega)
  rw [lkJ_0] at this
  exact this
theorem s31 {i : Int} (hd : 4 ≤ d) (hW : WW μ 40 c L X) (i0 : 0 ≤ i) (i1 : i < c) (hB : ∀ z, 0 ≤ z → z < 10 → 0 ≤ μ 62 z ∧ μ 62 z ≤ 1000) (h : ∀ μ', Eo 62 μ μ' → (∀ z, 0 ≤ z → z < 10 → μ' 62 z = μ 62 z) → Φ (some (.inl (lk X i (L i).toNat (μ 62)))) μ') : Ct E d 31 [.inr 23, .inr 40, .inl i] μ Φ := by
  have w3 := hW.2.2.1
  have wl := hW.2.2.2.1 i i0 i1
  have key : ∀ (m j : Nat) (μ' : Mm), j + m = (L i).toNat → Eo 62 μ μ' → (∀ z, 0 ≤ z → z < 10 → μ' 62 z = μ 62 z - oc X z i (L i).toNat + oc X z i j) → G E d 31 Φ 8 [some (.inr 23), some (.inr 40), some (.inl i), some (.inl (lkJ X i (L i).toNat j (μ 62))), some (.inl (j : Int)), none] [] μ' := by
    intro m
    induction m with
    | zero =>
      intro j μ' hj hE hg
      have e1 : μ' 42 i = L i := by rw [hE _ _ (by decide)]; exact wl.1
      refine v31_40_8 (by omega) ?_
      rw [e1]
      refine ⟨by omega, inR_of (by omega) (by omega), inR_of (by omega) (by omega), fun _ => ?_, fun h1 => by omega⟩
      rw [show j = (L i).toNat by omega, lkJ_e (fun z z0 z1 => (hB z z0 z1).1)]
      refine h μ' hE (fun z z0 z1 => ?_)
      rw [hg z z0 z1, show j = (L i).toNat by omega]; omega
    | succ m ih =>
      intro j μ' hj hE hg
      have e1 : μ' 42 i = L i := by rw [hE _ _ (by decide)]; exact wl.1
      have wx := hW.2.2.2.2 i j i0 i1 (by omega) (by omega)
      have bx := hB (X i j) (by omega) (by omega)
      have o1 := oc_b (X := X) (X i j) i j
      have o2 := oc_b (X := X) (X i j) i (L i).toNat
      have hv := hg (X i j) (by omega) (by omega)
      have nxt : ∀ z, 0 ≤ z → z < 10 → mu μ' 62 (X i j) (μ' 62 (X i j) + 1) 62 z = μ 62 z - oc X z i (L i).toNat + oc X z i (j + 1) := fun z z0 z1 => by
        rw [oc_s]
        by_cases e : X i j = z
        · rw [b2_t e, ← e, mu_s, hv]; omega
        · rw [b2_f e, mu_i (Ne.symm e), hg z z0 z1]; omega
      have nx := ih (j + 1) _ (by omega) hE.mu nxt
      rw [lkJ_s wx.2.1 wx.2.2] at nx
      refine v31_40_8 (by omega) ?_
      rw [e1]
      refine ⟨by omega, inR_of (by omega) (by omega), inR_of (by omega) (by omega), fun h1 => by omega, fun _ => s104 (by omega) (hW.eo hE (by decide) (by decide) (by decide)) i0 i1 (by omega) (by omega) ?_⟩
      refine s152 (by omega) (inR_of (by omega) (by omega)) ⟨b2_in _, fun h2 => absurd (by omega) (b2_0.mp h2), fun _ => ⟨by omega, inR_of (by omega) (by omega), fun h2 => ⟨by omega, by omega, ?_⟩, fun h2 => ⟨by omega, by omega, ?_⟩⟩⟩
      · rw [if_neg (by omega)] at nx; exact nx
      · rw [if_pos (by omega)] at nx; exact nx
  refine v31_40 (by omega) (s30 (by omega) hW i0 i1 (fun μ' hE hg => ?_))
  have := key (L i).toNat 0 μ' (by omega) hE (fun z z0 z1 => by rw [hg z z0 z1, oc, oc, su]; omega)
  rw [lkJ_0] at this
  exact this
theorem s212 {b q : Int} {i : Nat} (hd : 3 ≤ d) (b0 : 0 ≤ b) (b1 : b ≤ 16) (hW : WM μ q b c L X) (i1 : (i : Int) < c) (hB : ∀ z, 0 ≤ z → z < 10 → 0 ≤ μ 144 z ∧ μ 144 z ≤ 1000) (h : Φ (some (.inl (lk X i (L i).toNat (μ 144)))) μ) : Ct E d 212 [.inr 123, .inl (b + i)] μ Φ := by
  have wl := hW.2.2.2.1 i (by omega) i1
  have key : ∀ (m j : Nat), j + m = 10 → G E d 212 Φ 4 [some (.inr 123), some (.inl (b + i)), some (.inl (su (fun z => max 0 (oc X z i (L i).toNat - μ 144 z)) j)), some (.inl (j : Int))] [] μ := by
    intro m
    induction m with
    | zero =>
      intro j hj
      exact v212_4 (by omega) ⟨inR_of (by omega) (by omega), fun _ => fe h (by unfold lk; rw [show 10 = j by omega]), fun h1 => by omega⟩
    | succ m ih =>
      intro j hj
      have nx := ih (j + 1) (by omega)
      have o1 := oc_b (X := X) j i (L i).toNat
      have bz := hB j (by omega) (by omega)
      refine v212_4 (by omega) ⟨inR_of (by omega) (by omega), fun h1 => by omega, fun _ => ?_⟩
      refine s211 (by omega) (inR_of (by omega) (by omega)) b0 b1 hW i1 ⟨by omega, ?_⟩
      exact s155 (by omega) (inR_of (by omega) (by omega)) (inR_of (by omega) (by omega)) nx
  exact v212 (by omega) (key 10 0 (by omega))
end S25
