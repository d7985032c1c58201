/-! what codes of a law come to, on both sides -/
section S28
variable {E : En} {d : Nat} {Φ : Option AV → Mm → Prop} {μ0 : Mm} {t b u : Int}
theorem trC_o {c : Int × Int} (h2 : 2 ≤ c.1) (h3 : c.1 ≤ 11) : trC c = -100 - kdC c.1 ∧ trC c ≤ -132 ∧ -300 ≤ trC c ∧ (trC c = -234 ↔ c.1 = 9) := by
  obtain ⟨o, a⟩ := c
  have h2 : 2 ≤ o := h2
  have h3 : o ≤ 11 := h3
  have e : ∀ a, trC (o, a) = trC (o, 0) := by
    intro a
    unfold trC
    simp only [if_neg (show ¬ o = 0 by omega), if_neg (show ¬ o = 1 by omega)]
  rw [e a]
  show trC (o, 0) = -100 - (-100 - trC (o, 0)) ∧ trC (o, 0) ≤ -132 ∧ -300 ≤ trC (o, 0) ∧ (trC (o, 0) = -234 ↔ o = 9)
  rcases (by omega : o = 2 ∨ o = 3 ∨ o = 4 ∨ o = 5 ∨ o = 6 ∨ o = 7 ∨ o = 8 ∨ o = 9 ∨ o = 10 ∨ o = 11) with rfl | rfl | rfl | rfl | rfl | rfl | rfl | rfl | rfl | rfl <;> decide
theorem tyR_len {c : Int × Int} {t t' : List Int} (h : tyR c t t') (hl : t.length ≤ 60) : t'.length ≤ 60 := by
  rcases h with ⟨_, _, _, h, rfl⟩ | ⟨_, _, _, h, rfl⟩ | ⟨_, r, rfl, rfl⟩ | ⟨a, b, r, rfl, _, _, _, _, _, rfl⟩
  · rw [List.length_cons]; omega
  · rw [List.length_cons]; omega
  · exact hl
  · rw [List.length_cons, List.length_cons] at hl
    rw [List.length_cons]; omega
theorem l16 (hd : 2 ≤ d) (hu : μ0 28 6 = u) (hb : b ≤ u) (hu4 : u ≤ 400) : ∀ (l : Cd) (a : Int) (s τ : List Int) (μ : Mm), 0 ≤ a → a + l.length = b → cod (μ0 33) a l → Eo 35 μ0 μ → stk (μ 35) s → vt τ s → τ.length ≤ 60 → tyS l τ [t] → (∀ μ', Eo 35 μ0 μ' → Φ (some (.inl ((evS (μ0 63) l s).headD 0))) μ') → G E d 16 Φ 4 [some (.inr 28), none, some (.inl b), some (.inr 63), some (.inl (s.length : Int)), some (.inl a), none, none] [] μ := by
  intro l
  induction l with
  | nil =>
    intro a s τ μ a0 hl hc hE hs hv hτ ht h
    have ht : τ = [t] := ht
    subst ht
    obtain ⟨v, q, rfl, _, _, hq⟩ := hv
    have hq : q = [] := hq
    subst hq
    have hl : a = b := by simpa using hl
    rw [show (([v] : List Int).length : Int) = 1 from rfl]
    refine v16_4 (by omega) ⟨inR_of (by omega) (by omega), inR_of (by omega) (by omega), fun _ => ⟨inR_of (by decide) (by decide), fun h1 => absurd h1 (by decide), fun _ => ?_⟩, fun h1 => by omega⟩
    have e1 : μ 35 0 = v := hs.1
    rw [e1]
    exact h μ hE
  | cons c l ih =>
    intro a s τ μ a0 hl hc hE hs hv hτ ht h
    obtain ⟨σ, h1, h2⟩ := ht
    have hv' := ev1_vt (F := μ0 63) h1 hv
    rw [List.length_cons] at hl
    have nx := ih (a + 1) (ev1 (μ0 63) c s) σ
    have eu : μ 28 6 = u := by rw [hE _ _ (by decide)]; exact hu
    have ec : μ 33 a = trC c := by rw [hE _ _ (by decide)]; exact hc.1
    have eF : ∀ i, μ 63 i = μ0 63 i := fun i => hE _ _ (by decide)
    have hsl := vt_len _ _ hv
    refine v16_4 (by omega) ?_
    rw [eu, ec]
    refine ⟨inR_of (by omega) (by omega), ?_⟩
    have h1' := h1
    rcases h1 with ⟨c0, c1, c2, c3, -⟩ | ⟨c0, c1, c2, c3, -⟩ | ⟨c0, r, rfl, -⟩ | ⟨x, y, r, rfl, c0, c1, c2, c3, c4, -⟩
    · have e1 : trC c = c.2 := by unfold trC; rw [if_pos c0]
      have e2 : ev1 (μ0 63) c s = c.2 :: s := by unfold ev1; rw [if_pos c0]
      have nx := nx (mu μ 35 s.length c.2) (by omega) (by omega) hc.2 hE.mu (by rw [e2]; exact ⟨mu_s _ _ _ _, stk_mu s hs (Int.le_refl _)⟩) hv' (tyR_len h1' hτ) h2 h
      rw [e2, List.length_cons] at nx
      rw [e1]
      refine ⟨inR_of (by omega) (by omega), fun k => by omega, fun _ => ⟨inR_of (by omega) (by omega), inR_of (by omega) (by omega), fun k => by omega, fun _ => ⟨⟨by omega, by omega⟩, inR_of (by omega) (by omega), fun _ => ⟨inR_of (by omega) (by omega), fun _ => ⟨inR_of (by omega) (by omega), fun k => by omega, fun _ => ⟨inR_of (by omega) (by omega), fun k => by omega, fun _ => ⟨inR_of (by omega) (by omega), fun _ => ⟨⟨by omega, by omega⟩, nx⟩, fun k => by omega⟩⟩⟩, fun k => by omega⟩, fun k => by omega⟩⟩⟩
    · have e1 : trC c = -1 - c.2 := by unfold trC; rw [if_neg (by omega), if_pos c0]
      have e2 : ev1 (μ0 63) c s = μ0 63 c.2 :: s := by unfold ev1; rw [if_neg (by omega), if_pos c0]
      have e3 : -1 - trC c = c.2 := by omega
      have nx := nx (mu μ 35 s.length (μ 63 c.2)) (by omega) (by omega) hc.2 hE.mu (by rw [e2, eF]; exact ⟨mu_s _ _ _ _, stk_mu s hs (Int.le_refl _)⟩) hv' (tyR_len h1' hτ) h2 h
      rw [e2, List.length_cons] at nx
      rw [e3, e1]
      refine ⟨inR_of (by omega) (by omega), fun k => by omega, fun _ => ⟨inR_of (by omega) (by omega), inR_of (by omega) (by omega), fun k => by omega, fun _ => ⟨⟨by omega, by omega⟩, inR_of (by omega) (by omega), fun _ => ⟨inR_of (by omega) (by omega), fun _ => ⟨inR_of (by omega) (by omega), fun k => by omega, fun _ => ⟨inR_of (by omega) (by omega), fun k => by omega, fun _ => ⟨inR_of (by omega) (by omega), fun k => by omega, fun _ => ⟨inR_of (by omega) (by omega), fun k => by omega, fun _ => ⟨⟨by omega, by omega⟩, ⟨by omega, by omega⟩, nx⟩⟩⟩⟩⟩, fun k => by omega⟩, fun k => by omega⟩⟩⟩
    · obtain ⟨v, q, rfl, g1, g2, g3⟩ := hv
      have e0 := trC_o (c := c) (by omega) (by omega)
      have e2 : ev1 (μ0 63) c (v :: q) = (1 - v) :: q := by unfold ev1; rw [if_neg (by omega), if_neg (by omega)]; exact if_pos c0
      have es : ((v :: q).length : Int) - 1 = (q.length : Int) := by rw [List.length_cons]; omega
      have ev : μ 35 ((v :: q).length - 1 : Int) = v := by rw [es]; exact hs.1
      have nx := nx (mu μ 35 q.length (1 - v)) (by omega) (by omega) hc.2 hE.mu (by rw [e2]; exact ⟨mu_s _ _ _ _, stk_mu q hs.2 (Int.le_refl _)⟩) hv' (tyR_len h1' hτ) h2 h
      rw [e2] at nx
      rw [ev, es]
      have hq : q.length + 1 = r.length + 1 := hsl
      have hr : r.length + 1 ≤ 60 := hτ
      have hl2 : ((v :: q).length : Int) = q.length + 1 := by rw [List.length_cons]; omega
      rw [hl2]
      refine ⟨inR_of (by omega) (by omega), fun k => by omega, fun _ => ⟨inR_of (by omega) (by omega), inR_of (by omega) (by omega), fun k => by omega, fun _ => ⟨⟨by omega, by omega⟩, inR_of (by omega) (by omega), fun k => absurd (e0.2.2.2.mpr c0) k, fun _ => ⟨inR_of (by omega) (by omega), fun k => by omega, fun _ => ⟨⟨by omega, by omega⟩, ⟨by omega, by omega⟩, ?_⟩⟩⟩⟩⟩
      rw [← hl2]
      exact nx
    · obtain ⟨v, q, rfl, g1, g2, w, q, rfl, g3, g4, g5⟩ := hv
      have e0 := trC_o (c := c) c0 c1
      have e2 : ev1 (μ0 63) c (v :: w :: q) = twZ c.1 w v :: q := by unfold ev1; rw [if_neg (by omega), if_neg (by omega)]; exact if_neg c2
      have hl2 : ((v :: w :: q).length : Int) = q.length + 2 := by rw [List.length_cons, List.length_cons]; omega
      have hr : r.length + 2 ≤ 60 := hτ
      have hq : q.length + 2 = r.length + 2 := hsl
      have ev : μ 35 ((q.length : Int) + 2 + -1) = v := by rw [show (q.length : Int) + 2 + -1 = ((w :: q).length : Nat) by rw [List.length_cons]; omega]; exact hs.1
      have ew : μ 35 ((q.length : Int) + 2 + -1 - 1) = w := by rw [show (q.length : Int) + 2 + -1 - 1 = (q.length : Nat) by omega]; exact hs.2.1
      have nx := nx (mu μ 35 q.length (twZ c.1 w v)) (by omega) (by omega) hc.2 hE.mu (by rw [e2]; exact ⟨mu_s _ _ _ _, stk_mu q hs.2.2 (Int.le_refl _)⟩) hv' (tyR_len h1' hτ) h2 h
      rw [e2, List.length_cons] at nx
      rw [hl2, ev, ew, show -100 - trC c = kdC c.1 by omega]
      refine ⟨inR_of (by omega) (by omega), fun k => by omega, fun _ => ⟨inR_of (by omega) (by omega), inR_of (by omega) (by omega), fun k => by omega, fun _ => ⟨⟨by omega, by omega⟩, inR_of (by omega) (by omega), fun _ => ⟨inR_of (by omega) (by omega), fun k => by omega, fun _ => ⟨inR_of (by omega) (by omega), fun k => by omega, fun _ => ⟨⟨by omega, by omega⟩, ⟨by omega, by omega⟩, s17 (by omega) c0 c1 c2 (fun e => g1 (c3 e)) (fun e => ⟨g4 (c4 e).2, g2 (c4 e).1⟩) ⟨⟨by omega, by omega⟩, ?_⟩⟩⟩⟩, fun k => absurd (e0.2.2.2.mp k) c2⟩⟩⟩
      rw [show (q.length : Int) + 2 + -1 - 1 = (q.length : Nat) by omega, show (q.length : Int) + 2 + -1 = ((q.length + 1 : Nat) : Int) by omega]
      exact nx
theorem s16 {a : Int} {l : Cd} (hd : 2 ≤ d) (hu : μ0 28 6 = u) (hb : b ≤ u) (hu4 : u ≤ 400) (a0 : 0 ≤ a) (hl : a + l.length = b) (hc : cod (μ0 33) a l) (ht : tyS l [] [t]) (h : ∀ μ', Eo 35 μ0 μ' → Φ (some (.inl (evV (μ0 63) l))) μ') : Ct E d 16 [.inr 28, .inl a, .inl b, .inr 63] μ0 Φ :=
  v16 (by omega) (l16 hd hu hb hu4 l a [] [] μ0 a0 hl hc Eo.rf trivial rfl (by decide) ht h)
theorem l207 (hb4 : b ≤ 1200) (hd : 2 ≤ d) : ∀ (l : Cd) (a : Int) (s τ : List Int) (μ : Mm), 0 ≤ a → a + l.length = b → coM (μ0 135) (μ0 136) a l → Eo 143 μ0 μ → stk (μ 143) s → vt τ s → τ.length ≤ 60 → tyS l τ [t] → (∀ μ', Eo 143 μ0 μ' → Φ (some (.inl ((evS (μ0 142) l s).headD 0))) μ') → G E d 207 Φ 8 [some (.inr 123), some (.inl 0), none, some (.inl b), some (.inl (s.length : Int)), some (.inl a)] [] μ := by
  intro l
  induction l with
  | nil =>
    intro a s τ μ a0 hl hc hE hs hv hτ ht h
    have ht : τ = [t] := ht
    subst ht
    obtain ⟨v, q, rfl, _, _, hq⟩ := hv
    have hq : q = [] := hq
    subst hq
    have hl : a = b := by simpa using hl
    refine v207_8 (by omega) ⟨inR_of (by omega) (by omega), inR_of (by omega) (by omega), fun _ => ?_, fun h1 => by omega⟩
    have e1 : μ 143 0 = v := hs.1
    rw [e1]
    exact h μ hE
  | cons c l ih =>
    intro a s τ μ a0 hl hc hE hs hv hτ ht h
    obtain ⟨σ, h1, h2⟩ := ht
    have hv' := ev1_vt (F := μ0 142) h1 hv
    rw [List.length_cons] at hl
    have nx := ih (a + 1) (ev1 (μ0 142) c s) σ
    have e3 : μ 135 a = c.1 := by rw [hE _ _ (by decide)]; exact hc.1
    have e4 : μ 136 a = c.2 := by rw [hE _ _ (by decide)]; exact hc.2.1
    have eF : ∀ i, μ 142 i = μ0 142 i := fun i => hE _ _ (by decide)
    have hsl := vt_len _ _ hv
    refine v207_8 (by omega) ?_
    rw [e3, e4]
    refine ⟨inR_of (by omega) (by omega), inR_of (by omega) (by omega), fun k => by omega, fun _ => ⟨⟨by omega, by omega⟩, ?_⟩⟩
    have h1' := h1
    rcases h1 with ⟨c0, c1, c2, c3, -⟩ | ⟨c0, c1, c2, c3, -⟩ | ⟨c0, r, rfl, -⟩ | ⟨x, y, r, rfl, c0, c1, c2, c3, c4, -⟩
    · have e2 : ev1 (μ0 142) c s = c.2 :: s := by unfold ev1; rw [if_pos c0]
      have nx := nx (mu μ 143 s.length c.2) (by omega) (by omega) hc.2.2 hE.mu (by rw [e2]; exact ⟨mu_s _ _ _ _, stk_mu s hs (Int.le_refl _)⟩) hv' (tyR_len h1' hτ) h2 h
      rw [e2, List.length_cons] at nx
      rw [c0]
      exact ⟨inR_of (by omega) (by omega), fun _ => ⟨⟨by omega, by omega⟩, inR_of (by omega) (by omega), fun k => absurd rfl k, fun _ => ⟨⟨by omega, by omega⟩, ⟨by omega, by omega⟩, nx⟩⟩, fun k => absurd rfl k⟩
    · have e2 : ev1 (μ0 142) c s = μ0 142 c.2 :: s := by unfold ev1; rw [if_neg (by omega), if_pos c0]
      have nx := nx (mu μ 143 s.length (μ 142 c.2)) (by omega) (by omega) hc.2.2 hE.mu (by rw [e2, eF]; exact ⟨mu_s _ _ _ _, stk_mu s hs (Int.le_refl _)⟩) hv' (tyR_len h1' hτ) h2 h
      rw [e2, List.length_cons] at nx
      rw [c0]
      exact ⟨inR_of (by omega) (by omega), fun k => by omega, fun _ => ⟨⟨by omega, by omega⟩, inR_of (by omega) (by omega), fun k => absurd rfl k, fun _ => ⟨⟨by omega, by omega⟩, inR_of (by omega) (by omega), fun _ => ⟨⟨by omega, by omega⟩, ⟨by omega, by omega⟩, ⟨by omega, by omega⟩, nx⟩, fun k => by omega⟩⟩⟩
    · obtain ⟨v, q, rfl, g1, g2, g3⟩ := hv
      have e2 : ev1 (μ0 142) c (v :: q) = (1 - v) :: q := by unfold ev1; rw [if_neg (by omega), if_neg (by omega)]; exact if_pos c0
      have es : ((v :: q).length : Int) - 1 = (q.length : Int) := by rw [List.length_cons]; omega
      have ev : μ 143 ((v :: q).length - 1 : Int) = v := by rw [es]; exact hs.1
      have nx := nx (mu μ 143 q.length (1 - v)) (by omega) (by omega) hc.2.2 hE.mu (by rw [e2]; exact ⟨mu_s _ _ _ _, stk_mu q hs.2 (Int.le_refl _)⟩) hv' (tyR_len h1' hτ) h2 h
      rw [e2] at nx
      rw [ev, es, c0]
      have hq : q.length + 1 = r.length + 1 := hsl
      have hr : r.length + 1 ≤ 60 := hτ
      have hl2 : ((v :: q).length : Int) = q.length + 1 := by rw [List.length_cons]; omega
      refine ⟨inR_of (by omega) (by omega), fun k => by omega, fun _ => ⟨⟨by omega, by omega⟩, inR_of (by omega) (by omega), fun _ => ⟨⟨by omega, by omega⟩, inR_of (by omega) (by omega), fun k => absurd rfl k, fun _ => ⟨⟨by omega, by omega⟩, ⟨by omega, by omega⟩, nx⟩⟩, fun k => by omega⟩⟩
    · obtain ⟨v, q, rfl, g1, g2, w, q, rfl, g3, g4, g5⟩ := hv
      have e2 : ev1 (μ0 142) c (v :: w :: q) = twZ c.1 w v :: q := by unfold ev1; rw [if_neg (by omega), if_neg (by omega)]; exact if_neg c2
      have hl2 : ((v :: w :: q).length : Int) = q.length + 2 := by rw [List.length_cons, List.length_cons]; omega
      have hr : r.length + 2 ≤ 60 := hτ
      have hq : q.length + 2 = r.length + 2 := hsl
      have ev : μ 143 ((q.length : Int) + 2 - 1) = v := by rw [show (q.length : Int) + 2 - 1 = ((w :: q).length : Nat) by rw [List.length_cons]; omega]; exact hs.1
      have ew : μ 143 ((q.length : Int) + 2 - 1 - 1) = w := by rw [show (q.length : Int) + 2 - 1 - 1 = (q.length : Nat) by omega]; exact hs.2.1
      have nx := nx (mu μ 143 q.length (twZ c.1 w v)) (by omega) (by omega) hc.2.2 hE.mu (by rw [e2]; exact ⟨mu_s _ _ _ _, stk_mu q hs.2.2 (Int.le_refl _)⟩) hv' (tyR_len h1' hτ) h2 h
      rw [e2, List.length_cons] at nx
      rw [hl2, ev, ew]
      refine ⟨inR_of (by omega) (by omega), fun k => by omega, fun _ => ⟨⟨by omega, by omega⟩, inR_of (by omega) (by omega), fun _ => ⟨⟨by omega, by omega⟩, inR_of (by omega) (by omega), fun _ => ⟨⟨by omega, by omega⟩, ⟨by omega, by omega⟩, ⟨by omega, by omega⟩, s206 (by omega) c0 c1 c2 (fun e => g1 (c3 e)) ⟨⟨by omega, by omega⟩, ?_⟩⟩, fun k => absurd k c2⟩, fun k => by omega⟩⟩
      rw [show (q.length : Int) + 2 - 1 - 1 = (q.length : Nat) by omega, show (q.length : Int) + 2 - 1 = ((q.length + 1 : Nat) : Int) by omega]
      exact nx
theorem s207 {a : Int} {l : Cd} (hd : 2 ≤ d) (hb4 : b ≤ 1200) (a0 : 0 ≤ a) (hl : a + l.length = b) (hc : coM (μ0 135) (μ0 136) a l) (ht : tyS l [] [t]) (h : ∀ μ', Eo 143 μ0 μ' → Φ (some (.inl (evV (μ0 142) l))) μ') : Ct E d 207 [.inr 123, .inl 0, .inl a, .inl b] μ0 Φ := by
  refine v207 (by omega) ?_
  rw [show 400 * 0 + a = a by omega]
  exact l207 hb4 hd l a [] [] μ0 a0 hl hc Eo.rf trivial rfl (by decide) ht h
end S28
