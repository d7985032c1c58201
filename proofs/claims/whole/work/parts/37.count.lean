/-! how many of a letter -/
noncomputable def oc (X : Int → Int → Int) (l i : Int) (m : Nat) : Int := su (fun k => b2 (X i k = l)) m
noncomputable def ot (L : Int → Int) (X : Int → Int → Int) (l s : Int) (m : Nat) : Int := su (fun i => if iAnd (iShr s i) 1 = 0 then oc X l i (L i).toNat else 0) m
section S22
variable {E : En} {d : Nat} {Φ : Option AV → Mm → Prop} {μ : Mm} {c : Int} {L : Int → Int} {X : Int → Int → Int}
theorem s103j {i : Int} (hd : 1 ≤ d) (hi : inR i) (hW : WW μ 36 c L X) (h : Φ (some (.inl (b2 (0 ≤ i ∧ i < c)))) μ) : Ct E d 103 [.inr 36, .inl i] μ Φ := by
  obtain ⟨w1, w2, w3, _⟩ := hW
  refine v103_36 hd ?_
  rw [w1]
  exact ⟨hi, fun h1 => ff h (by omega), fun h1 => ⟨hi, inR_of (by omega) (by omega), fun h2 => ff h (by omega), fun h2 => ft h (by omega)⟩⟩
theorem s104j {i k : Int} (hd : 2 ≤ d) (hW : WW μ 36 c L X) (i0 : 0 ≤ i) (i1 : i < c) (k0 : 0 ≤ k) (k1 : k < L i) (h : Φ (some (.inl (X i k))) μ) : Ct E d 104 [.inr 36, .inl i, .inl k] μ Φ := by
  have w3 := hW.2.2.1
  have wl := hW.2.2.2.1 i i0 i1
  have wx := hW.2.2.2.2 i k i0 i1 k0 k1
  refine v104_36 (by omega) (s103j (by omega) (inR_of (by omega) (by omega)) hW ⟨b2_in _, fun h1 => absurd ⟨i0, i1⟩ (b2_0.mp h1), fun _ => ⟨inR_of (by omega) (by omega), fun h1 => by omega, fun _ => ⟨by omega, ?_⟩⟩⟩)
  have e1 : μ 38 i = L i := wl.1
  have e2 : μ 39 (i * 8 + k) = X i k := by rw [show i * 8 + k = 8 * i + k by omega]; exact wx.1
  rw [e1, e2]
  exact ⟨inR_of (by omega) (by omega), inR_of (by omega) (by omega), fun h1 => by omega, fun _ => ⟨by omega, h⟩⟩
theorem l105j_10 {l s : Int} {i : Nat} {t : Int} (hd : 3 ≤ d) (hl : inR l) (hW : WW μ 36 c L X) (i1 : (i : Int) < c) (h : G E d 105 Φ 4 [some (.inr 36), some (.inl l), some (.inl s), some (.inl (t + if iAnd (iShr s i) 1 = 0 then oc X l i (L i).toNat else 0)), some (.inl ((i : Int) + 1)), none] [] μ) : ∀ (m j : Nat), j + m = (L i).toNat → (iAnd (iShr s i) 1 ≠ 0 → j = 0) →
    G E d 105 Φ 10 [some (.inr 36), some (.inl l), some (.inl s), some (.inl (t + oc X l i j)), some (.inl (i : Int)), some (.inl (j : Int))] [] μ := by
  have w3 := hW.2.2.1
  have wl := hW.2.2.2.1 i (by omega) i1
  have e1 : μ 38 i = L i := wl.1
  intro m
  induction m with
  | zero =>
    intro j hj hz
    refine v105_36_10 (by omega) ?_
    rw [e1]
    refine ⟨by omega, inR_of (by omega) (by omega), inR_of (by omega) (by omega), fun _ => ?_, fun h1 => by omega⟩
    by_cases e : iAnd (iShr s i) 1 = 0
    · rw [if_pos e] at h
      rw [show j = (L i).toNat by omega]; exact h
    · rw [if_neg e] at h
      rw [hz e, oc, su]; exact h
  | succ m ih =>
    intro j hj hz
    have wx := hW.2.2.2.2 i j (by omega) i1 (by omega) (by omega)
    refine v105_36_10 (by omega) ?_
    rw [e1]
    refine ⟨by omega, inR_of (by omega) (by omega), inR_of (by omega) (by omega), fun h1 => by omega, fun _ => ⟨i32_in _, fun h1 => ?_, fun h1 => ?_⟩⟩
    · rw [if_neg h1] at h
      rw [hz h1, oc, su]; exact h
    · have nx := ih (j + 1) (by omega) (fun e => absurd h1 e)
      rw [oc, su, ← Int.add_assoc] at nx
      refine s104j (by omega) hW (by omega) i1 (by omega) (by omega) ⟨inR_of (by omega) (by omega), hl, fun h2 => ?_, fun h2 => ?_⟩
      · rw [b2_f h2, Int.add_zero] at nx; exact nx
      · rw [b2_t h2] at nx; exact nx
theorem l105j {l s : Int} (hd : 3 ≤ d) (hl : inR l) (hW : WW μ 36 c L X) (h : Φ (some (.inl (ot L X l s c.toNat))) μ) : ∀ (m i : Nat), (i : Int) + m = c →
    G E d 105 Φ 4 [some (.inr 36), some (.inl l), some (.inl s), some (.inl (ot L X l s i)), some (.inl (i : Int)), none] [] μ := by
  have w1 := hW.1
  have w3 := hW.2.2.1
  intro m
  induction m with
  | zero =>
    intro i hm
    refine v105_36_4 (by omega) ?_
    rw [w1]
    exact ⟨inR_of (by omega) (by omega), inR_of (by omega) (by omega), fun _ => fe h (by rw [show c.toNat = i by omega]), fun h1 => by omega⟩
  | succ m ih =>
    intro i hm
    refine v105_36_4 (by omega) ?_
    rw [w1]
    refine ⟨inR_of (by omega) (by omega), inR_of (by omega) (by omega), fun h1 => by omega, fun _ => ?_⟩
    have := l105j_10 (E := E) (t := ot L X l s i) hd hl hW (by omega) (ih (i + 1) (by omega)) (L i).toNat 0 (by omega) (fun _ => rfl)
    rw [oc, su, Int.add_zero] at this
    exact this
theorem s105j {l s : Int} (hd : 3 ≤ d) (hl : inR l) (hW : WW μ 36 c L X) (h : Φ (some (.inl (ot L X l s c.toNat))) μ) : Ct E d 105 [.inr 36, .inl l, .inl s] μ Φ := by
  have w2 := hW.2.1
  exact v105_36 (by omega) (l105j hd hl hW h c.toNat 0 (by omega))
theorem l105_10 {l s : Int} {i : Nat} {t : Int} (hd : 3 ≤ d) (hl : inR l) (hW : WW μ 40 c L X) (i1 : (i : Int) < c) (h : G E d 105 Φ 4 [some (.inr 40), some (.inl l), some (.inl s), some (.inl (t + if iAnd (iShr s i) 1 = 0 then oc X l i (L i).toNat else 0)), some (.inl ((i : Int) + 1)), none] [] μ) : ∀ (m j : Nat), j + m = (L i).toNat → (iAnd (iShr s i) 1 ≠ 0 → j = 0) →
    G E d 105 Φ 10 [some (.inr 40), some (.inl l), some (.inl s), some (.inl (t + oc X l i j)), some (.inl (i : Int)), some (.inl (j : Int))] [] μ := by
  have w3 := hW.2.2.1
  have wl := hW.2.2.2.1 i (by omega) i1
  have e1 : μ 42 i = L i := wl.1
  intro m
  induction m with
  | zero =>
    intro j hj hz
    refine v105_40_10 (by omega) ?_
    rw [e1]
    refine ⟨by omega, inR_of (by omega) (by omega), inR_of (by omega) (by omega), fun _ => ?_, fun h1 => by omega⟩
    by_cases e : iAnd (iShr s i) 1 = 0
    · rw [if_pos e] at h
      rw [show j = (L i).toNat by omega]; exact h
    · rw [if_neg e] at h
      rw [hz e, oc, su]; exact h
  | succ m ih =>
    intro j hj hz
    have wx := hW.2.2.2.2 i j (by omega) i1 (by omega) (by omega)
    refine v105_40_10 (by omega) ?_
    rw [e1]
    refine ⟨by omega, inR_of (by omega) (by omega), inR_of (by omega) (by omega), fun h1 => by omega, fun _ => ⟨i32_in _, fun h1 => ?_, fun h1 => ?_⟩⟩
    · rw [if_neg h1] at h
      rw [hz h1, oc, su]; exact h
    · have nx := ih (j + 1) (by omega) (fun e => absurd h1 e)
      rw [oc, su, ← Int.add_assoc] at nx
      refine s104 (by omega) hW (by omega) i1 (by omega) (by omega) ⟨inR_of (by omega) (by omega), hl, fun h2 => ?_, fun h2 => ?_⟩
      · rw [b2_f h2, Int.add_zero] at nx; exact nx
      · rw [b2_t h2] at nx; exact nx
theorem l105 {l s : Int} (hd : 3 ≤ d) (hl : inR l) (hW : WW μ 40 c L X) (h : Φ (some (.inl (ot L X l s c.toNat))) μ) : ∀ (m i : Nat), (i : Int) + m = c →
    G E d 105 Φ 4 [some (.inr 40), some (.inl l), some (.inl s), some (.inl (ot L X l s i)), some (.inl (i : Int)), none] [] μ := by
  have w1 := hW.1
  have w3 := hW.2.2.1
  intro m
  induction m with
  | zero =>
    intro i hm
    refine v105_40_4 (by omega) ?_
    rw [w1]
    exact ⟨inR_of (by omega) (by omega), inR_of (by omega) (by omega), fun _ => fe h (by rw [show c.toNat = i by omega]), fun h1 => by omega⟩
  | succ m ih =>
    intro i hm
    refine v105_40_4 (by omega) ?_
    rw [w1]
    refine ⟨inR_of (by omega) (by omega), inR_of (by omega) (by omega), fun h1 => by omega, fun _ => ?_⟩
    have := l105_10 (E := E) (t := ot L X l s i) hd hl hW (by omega) (ih (i + 1) (by omega)) (L i).toNat 0 (by omega) (fun _ => rfl)
    rw [oc, su, Int.add_zero] at this
    exact this
theorem s105 {l s : Int} (hd : 3 ≤ d) (hl : inR l) (hW : WW μ 40 c L X) (h : Φ (some (.inl (ot L X l s c.toNat))) μ) : Ct E d 105 [.inr 40, .inl l, .inl s] μ Φ := by
  have w2 := hW.2.1
  exact v105_40 (by omega) (l105 hd hl hW h c.toNat 0 (by omega))
theorem s211 {l b q : Int} {i : Nat} (hd : 2 ≤ d) (hl : inR l) (b0 : 0 ≤ b) (b1 : b ≤ 16) (hW : WM μ q b c L X) (i1 : (i : Int) < c) (h : Φ (some (.inl (oc X l i (L i).toNat))) μ) : Ct E d 211 [.inr 123, .inl (b + i), .inl l] μ Φ := by
  have w3 := hW.2.2.1
  have wl := hW.2.2.2.1 i (by omega) i1
  have key : ∀ (m j : Nat), j + m = (L i).toNat → G E d 211 Φ 4 [some (.inr 123), some (.inl (b + i)), some (.inl l), some (.inl (oc X l i j)), some (.inl (j : Int))] [] μ := by
    intro m
    induction m with
    | zero =>
      intro j hj
      refine v211_4 (by omega) ?_
      rw [wl.1]
      exact ⟨by omega, inR_of (by omega) (by omega), inR_of (by omega) (by omega), fun _ => fe h (by rw [show (L i).toNat = j by omega]), fun h1 => by omega⟩
    | succ m ih =>
      intro j hj
      have wx := hW.2.2.2.2 i j (by omega) i1 (by omega) (by omega)
      have nx := ih (j + 1) (by omega)
      rw [oc, su] at nx
      refine v211_4 (by omega) ?_
      rw [wl.1]
      refine ⟨by omega, inR_of (by omega) (by omega), inR_of (by omega) (by omega), fun h1 => by omega, fun _ => v210 (by omega) ⟨by omega, ?_⟩⟩
      rw [wx.1]
      refine ⟨inR_of (by omega) (by omega), hl, fun h2 => ?_, fun h2 => ?_⟩
      · rw [b2_f h2, Int.add_zero] at nx; exact nx
      · rw [b2_t h2] at nx; exact nx
  exact v211 (by omega) (key (L i).toNat 0 (by omega))
theorem iz {x : Int} {i : Nat} (hi : i < 32) : iAnd (iShr x i) 1 = 0 ∨ iAnd (iShr x i) 1 = 1 := by
  rw [bq_sh x hi]; split
  · exact Or.inr rfl
  · exact Or.inl rfl
theorem s233 {l : Int} (hd : 3 ≤ d) (hl : inR l) (hW : WM μ 32 16 c L X) (h : Φ (some (.inl (ot L X l 0 c.toNat))) μ) : Ct E d 233 [.inr 123, .inl l] μ Φ := by
  have w1 := hW.1
  have w2 := hW.2.1
  have w3 := hW.2.2.1
  have key : ∀ (m i : Nat), (i : Int) + m = c → G E d 233 Φ 4 [some (.inr 123), some (.inl l), some (.inl (ot L X l 0 i)), some (.inl (i : Int))] [] μ := by
    intro m
    induction m with
    | zero =>
      intro i hm
      refine v233_4 (by omega) ?_
      rw [w1]
      exact ⟨inR_of (by omega) (by omega), inR_of (by omega) (by omega), fun _ => fe h (by rw [show c.toNat = i by omega]), fun h1 => by omega⟩
    | succ m ih =>
      intro i hm
      have nx := ih (i + 1) (by omega)
      have e0 : iAnd (iShr 0 (i : Int)) 1 = 0 := by rw [bq_sh 0 (show i < 32 by omega), bq_0]; rfl
      rw [ot, su, if_pos e0] at nx
      refine v233_4 (by omega) ?_
      rw [w1]
      refine ⟨inR_of (by omega) (by omega), inR_of (by omega) (by omega), fun h1 => by omega, fun _ => ?_⟩
      exact s211 (by omega) hl (by omega) (by omega) hW (by omega) nx
  exact v233 (by omega) (key c.toNat 0 (by omega))
end S22
