/-! of -/
noncomputable def ofA (so br : Int → Int) (s cj : Int) (Lj : Int → Int) (Xj : Int → Int → Int) (cb : Int) (Lb : Int → Int) (Xb : Int → Int → Int) (a b : Int) : Int :=
  if 0 ≤ a ∧ a < 10 then (if b = 0 then so a else if b = 1 then br a else if b = 2 then max 0 (so a - ot Lj Xj a s cj.toNat) else if b = 3 then ot Lj Xj a s cj.toNat else if b = 4 then ot Lb Xb a 0 cb.toNat else -1) else -1
section S26
variable {E : En} {d : Nat} {Φ : Option AV → Mm → Prop} {μ : Mm} {cj cb : Int} {Lj Lb : Int → Int} {Xj Xb : Int → Int → Int}
theorem ot_b {c : Int} {L : Int → Int} {X : Int → Int → Int} (hL : ∀ i, 0 ≤ i → i < c → 0 ≤ L i ∧ L i ≤ 8) (l s : Int) : ∀ m : Nat, (m : Int) ≤ c → 0 ≤ ot L X l s m ∧ ot L X l s m ≤ 8 * m := by
  intro m
  induction m with
  | zero => intro _; rw [ot, su]; omega
  | succ m ih =>
    intro hm
    have h1 := ih (by omega)
    have h2 := hL m (by omega) (by omega)
    have h3 := oc_b (X := X) l m (L m).toNat
    have es : ot L X l s (m + 1) = ot L X l s m + if iAnd (iShr s m) 1 = 0 then oc X l m (L m).toNat else 0 := rfl
    rw [es]
    split <;> omega
theorem s120 {a b : Int} (hd : 4 ≤ d) (ha : inR a) (hb : inR b) (hJ : WW μ 36 cj Lj Xj) (hK : WW μ 40 cb Lb Xb) (hB : ∀ z, 0 ≤ z → z < 10 → 0 ≤ μ 26 z ∧ μ 26 z ≤ 1000) (h : Φ (some (.inl (ofA (μ 26) (μ 27) (μ 25 2) cj Lj Xj cb Lb Xb a b))) μ) : Ct E d 120 [.inr 0, .inl a, .inl b] μ Φ := by
  have j2 := hJ.2.1
  have j3 := hJ.2.2.1
  refine v120 (by omega) (s152 (by omega) ha ⟨b2_in _, fun h1 => ?_, fun h1 => fe h (by rw [ofA, if_neg (b2_0.mp h1)])⟩)
  have h1 := b2_ne0.mp h1
  have tb := ot_b (fun i i0 i1 => (hJ.2.2.2.1 i i0 i1).2) a (μ 25 2) (X := Xj) cj.toNat (by omega)
  have bz := hB a h1.1 h1.2
  rw [ofA, if_pos h1] at h
  refine ⟨hb, fun h2 => ⟨by omega, ?_⟩, fun h2 => ⟨by omega, ?_⟩, fun h2 => ⟨by omega, s105j (by omega) ha hJ ?_⟩, fun h2 => s105j (by omega) ha hJ ?_, fun h2 => s105 (by omega) ha hK ?_, fun h2 h3 h4 h5 h6 => ?_⟩
  · rwa [if_pos h2] at h
  · rwa [if_neg (by omega), if_pos h2] at h
  · rw [if_neg (by omega), if_neg (by omega), if_pos h2] at h
    show Φ (some (.inl (iMax 0 (μ 26 a - ot Lj Xj a (μ 25 2) cj.toNat)))) μ
    rw [iMax_eq (inR_of (by omega) (by omega)) (inR_of (by omega) (by omega))]
    exact h
  · rwa [if_neg (by omega), if_neg (by omega), if_neg (by omega), if_pos h2] at h
  · rwa [if_neg (by omega), if_neg (by omega), if_neg (by omega), if_neg (by omega), if_pos h2] at h
  · rwa [if_neg h2, if_neg h3, if_neg h4, if_neg h5, if_neg h6] at h
theorem s234 {a b : Int} (hd : 4 ≤ d) (ha : inR a) (hb : inR b) (hJ : WM μ 31 0 cj Lj Xj) (hK : WM μ 32 16 cb Lb Xb) (hB : ∀ z, 0 ≤ z → z < 10 → 0 ≤ μ 124 (8 + z) ∧ μ 124 (8 + z) ≤ 1000) (h : Φ (some (.inl (ofA (fun z => μ 124 (8 + z)) (fun z => μ 124 (18 + z)) (μ 124 7) cj Lj Xj cb Lb Xb a b))) (mu μ 123 0 0)) : Ct E d 234 [.inr 123, .inl a, .inl b] μ Φ := by
  have j2 := hJ.2.1
  have j3 := hJ.2.2.1
  have hJ' : WM (mu μ 123 0 0) 31 0 cj Lj Xj := hJ.mu0 (by decide)
  have hK' : WM (mu μ 123 0 0) 32 16 cb Lb Xb := hK.mu0 (by decide)
  have ms : ∀ i, mu μ 123 0 0 124 i = μ 124 i := fun i => mu_o (by decide)
  refine v234 (by omega) (s166 (by omega) ha ⟨b2_in _, fun h1 => ?_, fun h1 => fe h (by rw [ofA, if_neg (b2_0.mp h1)])⟩)
  have h1 := b2_ne0.mp h1
  have tb := ot_b (fun i i0 i1 => (hJ.2.2.2.1 i i0 i1).2) a (μ 124 7) (X := Xj) cj.toNat (by omega)
  have bz := hB a h1.1 h1.2
  rw [ofA, if_pos h1] at h
  refine ⟨hb, fun h2 => ⟨by omega, ?_⟩, fun h2 => ⟨hb, fun h3 => ⟨hb, fun h4 => ⟨hb, fun h5 => ⟨hb, fun h6 => ?_, fun h6 => ?_⟩, fun h5 => ?_⟩, fun h4 => ⟨by omega, ?_⟩⟩, fun h3 => ⟨by omega, ?_⟩⟩⟩
  · rw [if_pos h2] at h
    rw [h2, ms]; exact h
  · rwa [if_neg h2, if_neg h3, if_neg h4, if_neg h5, if_neg h6] at h
  · rw [if_neg h2, if_neg h3, if_neg h4, if_neg h5, if_pos h6] at h
    exact s233 (by omega) ha hK' h
  · rw [if_neg h2, if_neg h3, if_neg h4, if_pos h5] at h
    refine s232 (by omega) ha hJ' ?_
    rw [ms]; exact h
  · rw [if_neg h2, if_neg h3, if_pos h4] at h
    refine s232 (by omega) ha hJ' ?_
    rw [ms]
    refine s155 (by omega) (inR_of (by omega) (by omega)) ?_ ?_
    · rw [ms]; exact inR_of (by omega) (by omega)
    · rw [ms]; exact h
  · rw [if_neg h2, if_pos h3] at h
    rw [h3, ms]; exact h
end S26
