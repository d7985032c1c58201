/-! letters taken out of the boxes -/
section S24
variable {E : En} {d : Nat} {Φ : Option AV → Mm → Prop} {μ : Mm} {c : Int} {L : Int → Int} {X : Int → Int → Int}
theorem WW.eo {p o : Nat} {μ μ' : Mm} (h : WW μ p c L X) (e : Eo o μ μ') (h1 : p ≠ o) (h2 : p + 2 ≠ o) (h3 : p + 3 ≠ o) : WW μ' p c L X :=
  ⟨by rw [e _ _ h1]; exact h.1, h.2.1, h.2.2.1, fun i i0 i1 => by rw [e _ _ h2]; exact h.2.2.2.1 i i0 i1, fun i k i0 i1 k0 k1 => by rw [e _ _ h3]; exact h.2.2.2.2 i k i0 i1 k0 k1⟩
theorem oc_s (l i : Int) (m : Nat) : oc X l i (m + 1) = oc X l i m + b2 (X i m = l) := rfl
/-- so many of every letter are gone -/
def gone (X : Int → Int → Int) (i : Int) (m : Nat) (g g' : Int → Int) : Prop := ∀ z, 0 ≤ z → z < 10 → g' z = g z - oc X z i m
theorem s30j {i : Int} (hd : 3 ≤ d) (hW : WW μ 36 c L X) (i0 : 0 ≤ i) (i1 : i < c) (h : ∀ μ', Eo 62 μ μ' → gone X i (L i).toNat (μ 62) (μ' 62) → Φ none μ') : Ct E d 30 [.inr 23, .inr 36, .inl i] μ Φ := by
  have w3 := hW.2.2.1
  have wl := hW.2.2.2.1 i i0 i1
  have key : ∀ (m j : Nat) (μ' : Mm), j + m = (L i).toNat → Eo 62 μ μ' → gone X i j (μ 62) (μ' 62) → G E d 30 Φ 2 [some (.inr 23), some (.inr 36), some (.inl i), some (.inl (j : Int)), none] [] μ' := by
    intro m
    induction m with
    | zero =>
      intro j μ' hj hE hg
      have e1 : μ' 38 i = L i := by rw [hE _ _ (by decide)]; exact wl.1
      refine v30_36_2 (by omega) ?_
      rw [e1]
      exact ⟨by omega, inR_of (by omega) (by omega), inR_of (by omega) (by omega), fun _ => h μ' hE (by rw [show (L i).toNat = j by omega]; exact hg), fun h1 => by omega⟩
    | succ m ih =>
      intro j μ' hj hE hg
      have e1 : μ' 38 i = L i := by rw [hE _ _ (by decide)]; exact wl.1
      have wx := hW.2.2.2.2 i j i0 i1 (by omega) (by omega)
      refine v30_36_2 (by omega) ?_
      rw [e1]
      refine ⟨by omega, inR_of (by omega) (by omega), inR_of (by omega) (by omega), fun h1 => by omega, fun _ => s104j (by omega) (hW.eo hE (by decide) (by decide) (by decide)) i0 i1 (by omega) (by omega) ?_⟩
      refine s152 (by omega) (inR_of (by omega) (by omega)) ⟨b2_in _, fun h2 => absurd (by omega) (b2_0.mp h2), fun _ => ⟨by omega, by omega, ?_⟩⟩
      refine ih (j + 1) _ (by omega) hE.mu (fun z z0 z1 => ?_)
      rw [oc_s]
      by_cases e : X i j = z
      · rw [b2_t e, ← e, mu_s, hg _ (by omega) (by omega)]; omega
      · rw [b2_f e, mu_i (Ne.symm e), hg z z0 z1]; omega
  exact v30_36 (by omega) (key (L i).toNat 0 μ (by omega) Eo.rf (fun z _ _ => by rw [oc, su]; omega))
theorem s30 {i : Int} (hd : 3 ≤ d) (hW : WW μ 40 c L X) (i0 : 0 ≤ i) (i1 : i < c) (h : ∀ μ', Eo 62 μ μ' → gone X i (L i).toNat (μ 62) (μ' 62) → Φ none μ') : Ct E d 30 [.inr 23, .inr 40, .inl i] μ Φ := by
  have w3 := hW.2.2.1
  have wl := hW.2.2.2.1 i i0 i1
  have key : ∀ (m j : Nat) (μ' : Mm), j + m = (L i).toNat → Eo 62 μ μ' → gone X i j (μ 62) (μ' 62) → G E d 30 Φ 2 [some (.inr 23), some (.inr 40), some (.inl i), some (.inl (j : Int)), none] [] μ' := by
    intro m
    induction m with
    | zero =>
      intro j μ' hj hE hg
      have e1 : μ' 42 i = L i := by rw [hE _ _ (by decide)]; exact wl.1
      refine v30_40_2 (by omega) ?_
      rw [e1]
      exact ⟨by omega, inR_of (by omega) (by omega), inR_of (by omega) (by omega), fun _ => h μ' hE (by rw [show (L i).toNat = j by omega]; exact hg), fun h1 => by omega⟩
    | succ m ih =>
      intro j μ' hj hE hg
      have e1 : μ' 42 i = L i := by rw [hE _ _ (by decide)]; exact wl.1
      have wx := hW.2.2.2.2 i j i0 i1 (by omega) (by omega)
      refine v30_40_2 (by omega) ?_
      rw [e1]
      refine ⟨by omega, inR_of (by omega) (by omega), inR_of (by omega) (by omega), fun h1 => by omega, fun _ => s104 (by omega) (hW.eo hE (by decide) (by decide) (by decide)) i0 i1 (by omega) (by omega) ?_⟩
      refine s152 (by omega) (inR_of (by omega) (by omega)) ⟨b2_in _, fun h2 => absurd (by omega) (b2_0.mp h2), fun _ => ⟨by omega, by omega, ?_⟩⟩
      refine ih (j + 1) _ (by omega) hE.mu (fun z z0 z1 => ?_)
      rw [oc_s]
      by_cases e : X i j = z
      · rw [b2_t e, ← e, mu_s, hg _ (by omega) (by omega)]; omega
      · rw [b2_f e, mu_i (Ne.symm e), hg z z0 z1]; omega
  exact v30_40 (by omega) (key (L i).toNat 0 μ (by omega) Eo.rf (fun z _ _ => by rw [oc, su]; omega))
theorem s213 {b q : Int} {i : Nat} (hd : 2 ≤ d) (b0 : 0 ≤ b) (b1 : b ≤ 16) (hW : WM μ q b c L X) (i1 : (i : Int) < c) (h : ∀ μ', Eo 144 μ μ' → gone X i (L i).toNat (μ 144) (μ' 144) → Φ none μ') : Ct E d 213 [.inr 123, .inl (b + i)] μ Φ := by
  have w3 := hW.2.2.1
  have wl := hW.2.2.2.1 i (by omega) i1
  have key : ∀ (m j : Nat) (μ' : Mm), j + m = (L i).toNat → Eo 144 μ μ' → gone X i j (μ 144) (μ' 144) → G E d 213 Φ 2 [some (.inr 123), some (.inl (b + i)), some (.inl (j : Int))] [] μ' := by
    intro m
    induction m with
    | zero =>
      intro j μ' hj hE hg
      have e1 : μ' 138 (b + i) = L i := by rw [hE _ _ (by decide)]; exact wl.1
      refine v213_2 (by omega) ?_
      rw [e1]
      exact ⟨by omega, inR_of (by omega) (by omega), inR_of (by omega) (by omega), fun _ => h μ' hE (by rw [show (L i).toNat = j by omega]; exact hg), fun h1 => by omega⟩
    | succ m ih =>
      intro j μ' hj hE hg
      have e1 : μ' 138 (b + i) = L i := by rw [hE _ _ (by decide)]; exact wl.1
      have wx := hW.2.2.2.2 i j (by omega) i1 (by omega) (by omega)
      have e2 : μ' 139 (8 * (b + i) + j) = X i j := by rw [hE _ _ (by decide)]; exact wx.1
      refine v213_2 (by omega) ?_
      rw [e1]
      refine ⟨by omega, inR_of (by omega) (by omega), inR_of (by omega) (by omega), fun h1 => by omega, fun _ => v210 (by omega) ⟨by omega, v210 (by omega) ⟨by omega, ?_⟩⟩⟩
      rw [e2]
      refine ⟨by omega, by omega, ?_⟩
      refine ih (j + 1) _ (by omega) hE.mu (fun z z0 z1 => ?_)
      rw [oc_s]
      by_cases e : X i j = z
      · rw [b2_t e, ← e, mu_s, hg _ (by omega) (by omega)]; omega
      · rw [b2_f e, mu_i (Ne.symm e), hg z z0 z1]; omega
  exact v213 (by omega) (key (L i).toNat 0 μ (by omega) Eo.rf (fun z _ _ => by rw [oc, su]; omega))
end S24
