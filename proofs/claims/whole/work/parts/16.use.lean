theorem inRd {x : Int} (h : (decide (-2147483648 ≤ x) && decide (x < 2147483648)) = true) : inR x := by
  rw [Bool.and_eq_true, decide_eq_true_eq, decide_eq_true_eq] at h
  exact h
theorem ct_mono {E : En} {d j : Nat} {as : List AV} {μ : Mm} {Φ Φ' : Option AV → Mm → Prop} (h : Ct E d j as μ Φ) (hm : ∀ v μ, Φ v μ → Φ' v μ) : Ct E d j as μ Φ' := by
  refine ⟨h.1, ?_⟩
  have := h.2
  unfold Met at this ⊢
  refine MetFree.mono this (fun _ _ h => h) (fun _ _ _ _ _ h => h) ?_
  intro a s o t _ h
  obtain ⟨⟨⟨v, μ', h1, h2, h3⟩, h4⟩, h5⟩ := h
  exact ⟨⟨⟨v, μ', h1, hm _ _ h2, h3⟩, h4⟩, h5⟩
theorem rI_mono {f g : Int → Mm → Prop} (h : ∀ z μ, f z μ → g z μ) : ∀ v μ, rI f v μ → rI g v μ := by
  intro v μ hv
  match v, hv with
  | some (.inl z), hv => exact h z μ hv
theorem rR_mono {f g : Nat → Mm → Prop} (h : ∀ z μ, f z μ → g z μ) : ∀ v μ, rR f v μ → rR g v μ := by
  intro v μ hv
  match v, hv with
  | some (.inr z), hv => exact h z μ hv
theorem rV_mono {f g : Mm → Prop} (h : ∀ μ, f μ → g μ) : ∀ v μ, rV f v μ → rV g v μ := by
  intro v μ hv
  match v, hv with
  | none, hv => exact h μ hv
theorem wp_sound_r {E : En} {d j : Nat} {Φ : Option AV → Mm → Prop} {r : MR} (hr : mget j = r) (hd : 1 ≤ d) (oq : okQ (mget j) = true) {cuts : List (Nat × List Nat)} (n i : Nat) (ls : Ls) (st : List AV) (μ : Mm) (h : wp (e_sc E) (Ct E (d - 1)) Φ (r_t r) (r_c r) cuts (G E d j Φ) n i ls st μ) : G E d j Φ i ls st μ := by
  subst hr
  exact wp_sound hd oq n i ls st μ h
theorem ct_of_r {E : En} {d j : Nat} {as : List AV} {μ : Mm} {Φ : Option AV → Mm → Prop} {r : MR} {ls : Ls} (hr : mget j = r) (ok : okQ (mget j) = true ∧ okC (mget j)) (hn : as.length ≤ r_n r) (hls : ls = as.map some ++ List.replicate (r_n r - as.length) none) (h : G E d j Φ 0 ls [] μ) : Ct E d j as μ Φ := by
  subst hr
  refine ct_of ok hn ?_
  intro p e s m args below meth c C H locs lsA hP hS hl
  refine h p e s m args below meth c C H locs lsA hP hS (lv_mono hl fun q hq => ?_)
  obtain ⟨k, v, h1, rfl⟩ := (lvl_mem _ 0 _).mp hq
  refine (lvl_mem _ 0 _).mpr ⟨k, v, ?_, rfl⟩
  rw [hls] at h1
  by_cases hk : k < (as.map some).length
  · rwa [List.getElem?_append_left hk] at h1
  · rw [List.getElem?_append_right (by omega), List.getElem?_replicate] at h1
    split at h1 <;> cases h1
/-- an answer that is known -/
abbrev cI (Φ : Option AV → Mm → Prop) (z : Int) (μ : Mm) : Prop := Φ (some (.inl z)) μ
