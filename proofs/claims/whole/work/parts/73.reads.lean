/-! the reference reads tokens -/
def Sr : Nat → Int → Prop := fun o i => o = 123 ∧ 9 ≤ i ∧ i ≤ 12
def TKN (k : Nat) (K N t v : Int) : Prop := (K = 0 → t = 0) ∧ (K = 1 → t = 1) ∧ (K = 2 → t = 5) ∧ (K = 3 → t = 3 ∧ v = N) ∧ (128 ≤ K → t = 2 ∧ v = (kb k : Nat) + (K - 128)) ∧ (3 < K → K < 128 → t = 4 ∧ v = K)
def MRd (k : Nat) (n : Int) (T : Int → Int) (μ : Mm) (p : Int) : Prop := TaM μ n T ∧ μ 123 14 = k ∧ μ 123 9 = toE n T p ∧ μ 123 10 = toF n T p ∧ 0 ≤ p ∧ p ≤ n ∧ TKN k (toK k n T p) (toN n T p) (μ 123 11) (μ 123 12)
def WD (μ : Mm) : Prop := ∀ i : Nat, i < 120 → μ 129 i = (wdL.getD i 0 : Nat)
section S58
variable {E : En} {d : Nat} {Φ : Option AV → Mm → Prop} {μ μ' : Mm} {n p q : Int} {T : Int → Int} {k : Nat}
theorem s171 {a : Int} (hd : 1 ≤ d) (hT : TaM μ n T) (hB : TB n T) (a0 : 0 ≤ a) (a1 : a ≤ n) (he : n ≤ a → Φ (some (.inl (-1))) μ) (h : a < n → Φ (some (.inl (T a))) μ) : Ct E d 171 [.inr 123, .inl a] μ Φ := by
  have n4 := hB.2.1
  refine v171 hd ?_
  rw [hT.1]
  refine ⟨inR_of (by omega) (by omega), inR_of (by omega) (by omega), fun g => he g, fun g => ⟨⟨by omega, by omega⟩, ?_⟩⟩
  rw [hT.2 a a0 g]
  exact h g
theorem s176 {a : Int} (hd : 2 ≤ d) (hk : k < 4) (h14 : μ 123 14 = k) (ha : inR a) (h : Φ (some (.inl (b2 ((kb k : Nat) ≤ a ∧ a < (kb k : Nat) + (kc k : Nat))))) μ) : Ct E d 176 [.inr 123, .inl a] μ Φ := by
  refine v176 (by omega) ?_
  rw [h14]
  have z : ∀ x : Nat, x < 100 → inR (x : Int) := fun x hx => inR_of (by omega) (by omega)
  rcases (by omega : k = 0 ∨ k = 1 ∨ k = 2 ∨ k = 3) with rfl | rfl | rfl | rfl
  · have e : ((kb 0 : Nat) : Int) = 0 ∧ ((kb 0 : Nat) : Int) + (kc 0 : Nat) = 16 := by decide
    rw [e.2, e.1] at h
    refine ⟨inR_of (by decide) (by decide), fun g => absurd rfl g, fun _ => s153 (by omega) ha (z 0 (by omega)) (z 15 (by omega)) ⟨b2_01 _, fe h (b2_c (by omega))⟩⟩
  · have e : ((kb 1 : Nat) : Int) = 16 ∧ ((kb 1 : Nat) : Int) + (kc 1 : Nat) = 17 := by decide
    rw [e.2, e.1] at h
    exact ⟨inR_of (by decide) (by decide), fun _ => ⟨inR_of (by decide) (by decide), fun _ => ⟨inR_of (by decide) (by decide), fun g => absurd rfl g, fun _ => ⟨ha, fun g => ff h (by omega), fun g => ft h (by omega)⟩⟩, fun g => absurd g (by decide)⟩, fun g => absurd g (by decide)⟩
  · have e : ((kb 2 : Nat) : Int) = 17 ∧ ((kb 2 : Nat) : Int) + (kc 2 : Nat) = 18 := by decide
    rw [e.2, e.1] at h
    exact ⟨inR_of (by decide) (by decide), fun _ => ⟨inR_of (by decide) (by decide), fun _ => ⟨inR_of (by decide) (by decide), fun _ => ⟨ha, fun g => ff h (by omega), fun g => ft h (by omega)⟩, fun g => absurd g (by decide)⟩, fun g => absurd g (by decide)⟩, fun g => absurd g (by decide)⟩
  · have e : ((kb 3 : Nat) : Int) = 18 ∧ ((kb 3 : Nat) : Int) + (kc 3 : Nat) = 23 := by decide
    rw [e.2, e.1] at h
    refine ⟨inR_of (by decide) (by decide), fun _ => ⟨inR_of (by decide) (by decide), fun g => absurd rfl g, fun _ => s153 (by omega) ha (z 18 (by omega)) (z 22 (by omega)) ⟨b2_01 _, fe h (b2_c (by omega))⟩⟩, fun g => absurd g (by decide)⟩
theorem TaM.ep {S : Nat → Int → Prop} (h : TaM μ n T) (e : Ep S μ μ') (hs : ∀ o i, o = 128 ∨ (o = 123 ∧ i = 8) → ¬ S o i) : TaM μ' n T := ⟨by rw [e 123 8 (hs _ _ (by omega))]; exact h.1, fun i i0 i1 => by rw [e 128 _ (hs _ _ (by omega))]; exact h.2 i i0 i1⟩
theorem MRd.ep {S : Nat → Int → Prop} (h : MRd k n T μ p) (e : Ep S μ μ') (hs : ∀ o i, o = 128 ∨ (o = 123 ∧ (i = 8 ∨ i = 9 ∨ i = 10 ∨ i = 11 ∨ i = 12 ∨ i = 14)) → ¬ S o i) : MRd k n T μ' p := by
  obtain ⟨h1, h2, h3, h4, h5, h6, h7⟩ := h
  refine ⟨h1.ep e (fun o i k => hs o i (by omega)), ?_, ?_, ?_, h5, h6, ?_⟩
  · rw [e _ _ (hs _ _ (by omega))]; exact h2
  · rw [e _ _ (hs _ _ (by omega))]; exact h3
  · rw [e _ _ (hs _ _ (by omega))]; exact h4
  · rw [e 123 11 (hs _ _ (by omega)), e 123 12 (hs _ _ (by omega))]; exact h7
theorem kwM_in {a b : Int} : -1 ≤ kwM T a b ∧ kwM T a b ≤ 23 := fst_b 23 0 (by decide)
/-- the next token -/
theorem s177 (hd : 4 ≤ d) (hk : k < 4) (hT : TaM μ n T) (hB : TB n T) (hW : WD μ) (h14 : μ 123 14 = k) (p0 : 0 ≤ p) (p1 : p ≤ n) (h9 : μ 123 9 = p) (h : ∀ μ', Ep Sr μ μ' → MRd k n T μ' p → Φ none μ') : Ct E d 177 [.inr 123] μ Φ := by
  obtain ⟨n0, n4, hR⟩ := id hB
  have kt : ∀ {μ1 : Mm}, Ep Sr μ μ1 → TaM μ1 n T ∧ WD μ1 ∧ μ1 123 14 = k := fun e => ⟨hT.ep e (fun o i k => by unfold Sr; omega), fun i hi => by rw [e _ _ (by unfold Sr; omega)]; exact hW i hi, by rw [e _ _ (by unfold Sr; omega)]; exact h14⟩
  have s9 : ∀ {i : Int}, 9 ≤ i → i ≤ 12 → Sr 123 i := fun a b => ⟨rfl, a, b⟩
  -- letters
  have wrd : ∀ (m : Nat) (x : Int) (μ1 : Mm), (n - x).toNat = m → Ep Sr μ μ1 → toF n T p < n → alp (T (toF n T p)) → toF n T p < x → x ≤ n → rnE alp T n (toF n T p) = rnE alp T n x → μ1 123 9 = x → μ1 123 10 = toF n T p → G E d 177 Φ 51 [some (.inr 123), none] [] μ1 := by
    intro m
    induction m with
    | zero =>
      intro x μ1 hm e1 q1 ha x0 x1 he g9 g10
      have xn : x = n := by omega
      subst xn
      obtain ⟨kt1, kt2, kt3⟩ := kt e1
      have eE : toE x T p = x := by show tEq x T (toF x T p) = x; rw [tEq_a q1 ha, he, rn_n (Int.le_refl _)]
      have fb := toF_b (T := T) p1
      have hr := rn_b (P := alp) (T := T) (n := x) _ (toF x T p) rfl (by omega)
      refine v177_51 (by omega) ?_
      rw [g9]
      refine s171 (by omega) kt1 hB (by omega) (Int.le_refl _) (fun _ => s172 (by omega) (inR_of (by decide) (by decide)) ⟨b2_in _, fun _ => ?_, fun g => absurd (b2_ne0.mp g) (by unfold alp; omega)⟩) (fun g => by omega)
      rw [g9, g10]
      refine s175 (by omega) kt1 kt2 n4 (by omega) (by omega) (Int.le_refl _) (fun i i0 i1 => hr.2.1 i i0 (by rw [he, rn_n (Int.le_refl _)]; exact i1)) ?_
      have ki := kwM_in (T := T) (a := toF x T p) (b := x)
      simp only [rI]
      refine s176 (by omega) hk (by rw [mu_i (by decide)]; exact kt3) (inR_of (by omega) (by omega)) ⟨b2_in _, fun g => ?_, fun g => ?_⟩
      · have g := b2_0.mp g
        have e2 : Ep Sr μ (mu (mu μ1 123 12 (kwM T (toF x T p) x)) 123 11 5) := (e1.mu (s9 (by decide) (by decide))).mu (s9 (by decide) (by decide))
        refine h _ e2 ⟨(kt e2).1, (kt e2).2.2, by rw [mu_i (by decide), mu_i (by decide), eE]; exact g9, by rw [mu_i (by decide), mu_i (by decide)]; exact g10, p0, p1, ?_⟩
        have hK : toK k x T p = 2 := by
          unfold toK tKq
          rw [if_neg (by omega), if_pos ha, show tEq x T (toF x T p) = x from eE]
          by_cases c : kwC k T (toF x T p) x = -1
          · rw [if_pos c]
          · exact absurd (by have := (kw_eq (T := T) (a := toF x T p) (b := x) hk).1 c; omega) g
        rw [hK, mu_s]
        exact ⟨fun q => absurd q (by decide), fun q => absurd q (by decide), fun _ => rfl, fun q => absurd q (by decide), fun q => absurd q (by decide), fun q => absurd q (by decide)⟩
      · have g := b2_ne0.mp g
        have e2 : Ep Sr μ (mu (mu μ1 123 12 (kwM T (toF x T p) x)) 123 11 2) := (e1.mu (s9 (by decide) (by decide))).mu (s9 (by decide) (by decide))
        refine h _ e2 ⟨(kt e2).1, (kt e2).2.2, by rw [mu_i (by decide), mu_i (by decide), eE]; exact g9, by rw [mu_i (by decide), mu_i (by decide)]; exact g10, p0, p1, ?_⟩
        have c : kwC k T (toF x T p) x ≠ -1 := fun c => (kw_eq (T := T) (a := toF x T p) (b := x) hk).2 c g
        have c2 := (kw_eq (T := T) (a := toF x T p) (b := x) hk).1 c
        have hK : toK k x T p = 128 + kwC k T (toF x T p) x := by
          unfold toK tKq
          rw [if_neg (by omega), if_pos ha, show tEq x T (toF x T p) = x from eE, if_neg c]
        rw [hK, mu_s, mu_i (by decide), mu_s]
        exact ⟨fun q => by omega, fun q => by omega, fun q => by omega, fun q => by omega, fun _ => ⟨rfl, by omega⟩, fun _ q => by omega⟩
    | succ m ih =>
      intro x μ1 hm e1 q1 ha x0 x1 he g9 g10
      obtain ⟨kt1, kt2, kt3⟩ := kt e1
      have fb := toF_b (T := T) p1
      have rx := hR x (by omega) (by omega)
      refine v177_51 (by omega) ?_
      rw [g9]
      refine s171 (by omega) kt1 hB (by omega) (by omega) (fun g => by omega) (fun _ => s172 (by omega) (inR_of (by omega) (by omega)) ⟨b2_in _, fun g => ?_, fun g => ?_⟩)
      · have g := b2_0.mp g
        have eE : toE n T p = x := by show tEq n T (toF n T p) = x; rw [tEq_a q1 ha, he, rn_f (by omega) g]
        have hr := rn_b (P := alp) (T := T) (n := n) _ (toF n T p) rfl (by omega)
        rw [g9, g10]
        refine s175 (by omega) kt1 kt2 n4 (by omega) (by omega) (by omega) (fun i i0 i1 => hr.2.1 i i0 (by rw [he, rn_f (by omega) g]; exact i1)) ?_
        have ki := kwM_in (T := T) (a := toF n T p) (b := x)
        simp only [rI]
        refine s176 (by omega) hk (by rw [mu_i (by decide)]; exact kt3) (inR_of (by omega) (by omega)) ⟨b2_in _, fun g => ?_, fun g => ?_⟩
        · have g := b2_0.mp g
          have e2 : Ep Sr μ (mu (mu μ1 123 12 (kwM T (toF n T p) x)) 123 11 5) := (e1.mu (s9 (by decide) (by decide))).mu (s9 (by decide) (by decide))
          refine h _ e2 ⟨(kt e2).1, (kt e2).2.2, by rw [mu_i (by decide), mu_i (by decide), eE]; exact g9, by rw [mu_i (by decide), mu_i (by decide)]; exact g10, p0, p1, ?_⟩
          have hK : toK k n T p = 2 := by
            unfold toK tKq
            rw [if_neg (by omega), if_pos ha, show tEq n T (toF n T p) = x from eE]
            by_cases c : kwC k T (toF n T p) x = -1
            · rw [if_pos c]
            · exact absurd (by have := (kw_eq (T := T) (a := toF n T p) (b := x) hk).1 c; omega) g
          rw [hK, mu_s]
          exact ⟨fun q => absurd q (by decide), fun q => absurd q (by decide), fun _ => rfl, fun q => absurd q (by decide), fun q => absurd q (by decide), fun q => absurd q (by decide)⟩
        · have g := b2_ne0.mp g
          have e2 : Ep Sr μ (mu (mu μ1 123 12 (kwM T (toF n T p) x)) 123 11 2) := (e1.mu (s9 (by decide) (by decide))).mu (s9 (by decide) (by decide))
          refine h _ e2 ⟨(kt e2).1, (kt e2).2.2, by rw [mu_i (by decide), mu_i (by decide), eE]; exact g9, by rw [mu_i (by decide), mu_i (by decide)]; exact g10, p0, p1, ?_⟩
          have c : kwC k T (toF n T p) x ≠ -1 := fun c => (kw_eq (T := T) (a := toF n T p) (b := x) hk).2 c g
          have c2 := (kw_eq (T := T) (a := toF n T p) (b := x) hk).1 c
          have hK : toK k n T p = 128 + kwC k T (toF n T p) x := by
            unfold toK tKq
            rw [if_neg (by omega), if_pos ha, show tEq n T (toF n T p) = x from eE, if_neg c]
          rw [hK, mu_s, mu_i (by decide), mu_s]
          exact ⟨fun q => by omega, fun q => by omega, fun q => by omega, fun q => by omega, fun _ => ⟨rfl, by omega⟩, fun _ q => by omega⟩
      · have g := b2_ne0.mp g
        rw [g9]
        exact ih (x + 1) _ (by omega) (e1.mu (s9 (by decide) (by decide))) q1 ha (by omega) (by omega) (by rw [he, rn_t (by omega) g]) (mu_s _ _ _ _) (by rw [mu_i (by decide)]; exact g10)
  -- digits
  have num : ∀ (m : Nat) (x : Int) (μ1 : Mm), (n - x).toNat = m → Ep Sr μ μ1 → toF n T p < n → ¬ alp (T (toF n T p)) → dig (T (toF n T p)) → toF n T p < x → x ≤ n → rnE dig T n (toF n T p) = rnE dig T n x → μ1 123 9 = x → μ1 123 10 = toF n T p → μ1 123 11 = 1 → (0 ≤ μ1 123 12 ∧ μ1 123 12 ≤ 99999) → (x - toF n T p ≤ 4 → μ1 123 12 = nv T (toF n T p) (x - toF n T p).toNat ∧ μ1 123 12 ≤ 9999) → G E d 177 Φ 93 [some (.inr 123), none] [] μ1 := by
    intro m
    have fb := toF_b (T := T) p1
    have fin : ∀ (x : Int) (μ1 : Mm), Ep Sr μ μ1 → toF n T p < n → ¬ alp (T (toF n T p)) → dig (T (toF n T p)) → toF n T p < x → x ≤ n → rnE dig T n (toF n T p) = x → μ1 123 9 = x → μ1 123 10 = toF n T p → μ1 123 11 = 1 → (x - toF n T p ≤ 4 → μ1 123 12 = nv T (toF n T p) (x - toF n T p).toNat) → inR (μ1 123 9 - μ1 123 10) ∧ (5 ≤ μ1 123 9 - μ1 123 10 → Φ none μ1) ∧ (μ1 123 9 - μ1 123 10 < 5 → Φ none (mu μ1 123 11 3)) := by
      intro x μ1 e1 q1 ha hd2 x0 x1 he g9 g10 g11 gv
      have eE : toE n T p = x := by show tEq n T (toF n T p) = x; rw [tEq_d q1 hd2, he]
      have hK : toK k n T p = if x - toF n T p ≤ 4 then 3 else 1 := by
        unfold toK tKq
        rw [if_neg (by omega), if_neg ha, if_pos hd2, show tEq n T (toF n T p) = x from eE]
      rw [g9, g10]
      refine ⟨inR_of (by omega) (by omega), fun g => ?_, fun g => ?_⟩
      · rw [if_neg (by omega)] at hK
        refine h _ e1 ⟨(kt e1).1, (kt e1).2.2, by rw [eE]; exact g9, g10, p0, p1, ?_⟩
        rw [hK, g11]
        exact ⟨fun q => absurd q (by decide), fun _ => rfl, fun q => absurd q (by decide), fun q => absurd q (by decide), fun q => absurd q (by decide), fun q => absurd q (by decide)⟩
      · rw [if_pos (by omega)] at hK
        have e2 : Ep Sr μ (mu μ1 123 11 3) := e1.mu (s9 (by decide) (by decide))
        refine h _ e2 ⟨(kt e2).1, (kt e2).2.2, by rw [mu_i (by decide), eE]; exact g9, by rw [mu_i (by decide)]; exact g10, p0, p1, ?_⟩
        rw [hK, mu_s, mu_i (by decide), gv (by omega)]
        exact ⟨fun q => absurd q (by decide), fun q => absurd q (by decide), fun q => absurd q (by decide), fun _ => ⟨rfl, by unfold toN; rw [eE]⟩, fun q => absurd q (by decide), fun q => absurd q (by decide)⟩
    induction m with
    | zero =>
      intro x μ1 hm e1 q1 ha hd2 x0 x1 he g9 g10 g11 gb gv
      refine v177_93 (by omega) ?_
      rw [g9]
      refine s171 (by omega) (kt e1).1 hB (by omega) (by omega) (fun _ => s173 (by omega) (inR_of (by decide) (by decide)) ⟨b2_in _, fun _ => ?_, fun g => absurd (b2_ne0.mp g) (by unfold dig; omega)⟩) (fun g => by omega)
      exact fin x μ1 e1 q1 ha hd2 x0 x1 (by rw [he, rn_n (by omega)]) g9 g10 g11 (fun q => (gv q).1)
    | succ m ih =>
      intro x μ1 hm e1 q1 ha hd2 x0 x1 he g9 g10 g11 gb gv
      have rx := hR x (by omega) (by omega)
      refine v177_93 (by omega) ?_
      rw [g9]
      refine s171 (by omega) (kt e1).1 hB (by omega) (by omega) (fun g => by omega) (fun _ => s173 (by omega) (inR_of (by omega) (by omega)) ⟨b2_in _, fun g => ?_, fun g => ?_⟩)
      · have g := b2_0.mp g
        exact fin x μ1 e1 q1 ha hd2 x0 x1 (by rw [he, rn_f (by omega) g]) g9 g10 g11 (fun q => (gv q).1)
      · have g := b2_ne0.mp g
        have hg := g
        unfold dig at hg
        rw [g9]
        refine ⟨inR_of (by omega) (by omega), fun q => ?_, fun q => s171 (by omega) (kt e1).1 hB (by omega) (by omega) (fun g => by omega) (fun _ => ?_)⟩
        · refine ih (x + 1) _ (by omega) ((e1.mu (s9 (by decide) (by decide))).mu (s9 (by decide) (by decide))) q1 ha hd2 (by omega) (by omega) (by rw [he, rn_t (by omega) g]) (mu_s _ _ _ _) (by rw [mu_i (by decide), mu_i (by decide)]; exact g10) (by rw [mu_i (by decide), mu_i (by decide)]; exact g11) (by rw [mu_i (by decide), mu_s]; exact gb) (fun c => ?_)
          exfalso
          have := (gv (by omega)).2
          omega
        · show G E d 177 Φ 93 [some (.inr 123), none] [] (mu (mu μ1 123 12 (((10 * (μ1 123 12)) + T x) - 48)) 123 9 ((μ1 123 9) + 1))
          rw [g9]
          refine ih (x + 1) _ (by omega) ((e1.mu (s9 (by decide) (by decide))).mu (s9 (by decide) (by decide))) q1 ha hd2 (by omega) (by omega) (by rw [he, rn_t (by omega) g]) (mu_s _ _ _ _) (by rw [mu_i (by decide), mu_i (by decide)]; exact g10) (by rw [mu_i (by decide), mu_i (by decide)]; exact g11) (by rw [mu_i (by decide), mu_s]; omega) (fun c => ?_)
          rw [mu_i (by decide), mu_s]
          have v0 := (gv (by omega)).1
          have hr := rn_b (P := dig) (T := T) (n := n) _ (toF n T p) rfl (by omega)
          have xr : x < rnE dig T n (toF n T p) := by
            rw [he, rn_t (by omega) g]
            have := (rn_b (P := dig) (T := T) (n := n) _ (x + 1) rfl (by omega)).1
            omega
          have e1' : (x + 1 - toF n T p).toNat = (x - toF n T p).toNat + 1 := by omega
          have eq : nv T (toF n T p) (x + 1 - toF n T p).toNat = 10 * μ1 123 12 + T x - 48 := by
            rw [e1']
            show nv T (toF n T p) (x - toF n T p).toNat * 10 + T (toF n T p + ((x - toF n T p).toNat : Nat)) - 48 = _
            rw [← v0, show toF n T p + (((x - toF n T p).toNat : Nat) : Int) = x by omega]
            omega
          refine ⟨eq.symm, ?_⟩
          rw [← eq]
          exact (nv_4 (by omega) (fun i i0 i1 => hr.2.1 i i0 (by omega))).2
  -- blanks, and what comes behind them
  have key : ∀ (m : Nat) (x : Int) (μ1 : Mm), (n - x).toNat = m → Ep Sr μ μ1 → p ≤ x → x ≤ n → toF n T p = toF n T x → μ1 123 9 = x → G E d 177 Φ 0 [some (.inr 123), none] [] μ1 := by
    intro m
    induction m with
    | zero =>
      intro x μ1 hm e1 x0 x1 hx g9
      have xn : x = n := by omega
      have kt1 := (kt e1).1
      have fx : toF n T p = n := by rw [hx, xn]; exact rn_n (Int.le_refl _)
      refine v177_0 (by omega) ?_
      rw [g9]
      refine s171 (by omega) kt1 hB (by omega) (by omega) (fun _ => ⟨inR_of (by decide) (by decide), fun g => absurd g (by decide), fun _ => ?_⟩) (fun g => by omega)
      rw [g9]
      refine s171 (by omega) kt1 hB (by omega) (by omega) (fun _ => ⟨inR_of (by decide) (by decide), fun _ => ?_, fun g => absurd g (by decide)⟩) (fun g => by omega)
      rw [g9]
      have e2 : Ep Sr μ (mu (mu μ1 123 10 x) 123 11 1) := (e1.mu (s9 (by decide) (by decide))).mu (s9 (by decide) (by decide))
      refine s171 (by omega) (kt e2).1 hB (by omega) (by omega) (fun _ => ⟨inR_of (by decide) (by decide), fun g => absurd rfl g, fun _ => ?_⟩) (fun g => by omega)
      have e3 : Ep Sr μ (mu (mu (mu μ1 123 10 x) 123 11 1) 123 11 0) := e2.mu (s9 (by decide) (by decide))
      have eE : toE n T p = n := by show tEq n T (toF n T p) = n; rw [fx]; exact tEq_n (Int.le_refl _)
      refine h _ e3 ⟨(kt e3).1, (kt e3).2.2, by rw [mu_i (by decide), mu_i (by decide), mu_i (by decide), eE, g9, xn], by rw [mu_i (by decide), mu_i (by decide), mu_s, fx, xn], p0, p1, ?_⟩
      rw [(toK_0 p1).mpr fx, mu_s]
      exact ⟨fun _ => rfl, fun q => absurd q (by decide), fun q => absurd q (by decide), fun q => absurd q (by decide), fun q => absurd q (by decide), fun q => absurd q (by decide)⟩
    | succ m ih =>
      intro x μ1 hm e1 x0 x1 hx g9
      have kt1 := (kt e1).1
      have rx := hR x (by omega) (by omega)
      have ix : inR (T x) := inR_of (by omega) (by omega)
      refine v177_0 (by omega) ?_
      rw [g9]
      refine s171 (by omega) kt1 hB (by omega) (by omega) (fun g => by omega) (fun xl => ⟨ix, fun g => ?_, fun g => ?_⟩)
      · rw [g9]
        exact ih (x + 1) _ (by omega) (e1.mu (s9 (by decide) (by decide))) (by omega) (by omega) (by rw [hx]; exact (toF_k xl (Or.inl g)).symm) (mu_s _ _ _ _)
      · rw [g9]
        refine s171 (by omega) kt1 hB (by omega) (by omega) (fun g => by omega) (fun _ => ⟨ix, fun g2 => ?_, fun g2 => ?_⟩)
        · rw [g9]
          have nb : ¬ blk (T x) := by unfold blk; omega
          have fx : toF n T p = x := by rw [hx]; exact toF_q xl nb
          have e2 : Ep Sr μ (mu (mu μ1 123 10 x) 123 11 1) := (e1.mu (s9 (by decide) (by decide))).mu (s9 (by decide) (by decide))
          have c9 : mu (mu μ1 123 10 x) 123 11 1 123 9 = x := by rw [mu_i (by decide), mu_i (by decide)]; exact g9
          refine s171 (by omega) (kt e2).1 hB (by omega) (by omega) (fun g => by omega) (fun _ => ⟨ix, fun _ => ?_, fun g3 => by omega⟩)
          rw [c9]
          have e3 : Ep Sr μ (mu (mu (mu (mu μ1 123 10 x) 123 11 1) 123 9 (x + 1)) 123 12 (T x)) := (e2.mu (s9 (by decide) (by decide))).mu (s9 (by decide) (by decide))
          have d9 : mu (mu (mu (mu μ1 123 10 x) 123 11 1) 123 9 (x + 1)) 123 12 (T x) 123 9 = x + 1 := by rw [mu_i (by decide), mu_s]
          have d10 : mu (mu (mu (mu μ1 123 10 x) 123 11 1) 123 9 (x + 1)) 123 12 (T x) 123 10 = toF n T p := by rw [mu_i (by decide), mu_i (by decide), mu_i (by decide), mu_s, fx]
          have d11 : mu (mu (mu (mu μ1 123 10 x) 123 11 1) 123 9 (x + 1)) 123 12 (T x) 123 11 = 1 := by rw [mu_i (by decide), mu_i (by decide), mu_s]
          have d12 : mu (mu (mu (mu μ1 123 10 x) 123 11 1) 123 9 (x + 1)) 123 12 (T x) 123 12 = T x := mu_s _ _ _ _
          generalize mu (mu (mu (mu μ1 123 10 x) 123 11 1) 123 9 (x + 1)) 123 12 (T x) = μ3 at *
          refine s172 (by omega) ix ⟨b2_in _, fun ga => s173 (by omega) ix ⟨b2_in _, fun gd => s174 (by omega) ix ⟨b2_in _, fun gs => ?_, fun gs => ?_⟩, fun gd => ?_⟩, fun ga => ?_⟩
          · have ga := b2_0.mp ga
            have gd := b2_0.mp gd
            have gs := b2_0.mp gs
            have eE : toE n T p = x + 1 := by show tEq n T (toF n T p) = _; rw [fx]; exact tEq_o xl ga gd
            have hK : toK k n T p = 1 := by unfold toK tKq; rw [fx, if_neg (by omega), if_neg ga, if_neg gd, if_neg gs]
            refine h _ e3 ⟨(kt e3).1, (kt e3).2.2, by rw [eE]; exact d9, d10, p0, p1, ?_⟩
            rw [hK, d11]
            exact ⟨fun q => absurd q (by decide), fun _ => rfl, fun q => absurd q (by decide), fun q => absurd q (by decide), fun q => absurd q (by decide), fun q => absurd q (by decide)⟩
          · have ga := b2_0.mp ga
            have gd := b2_0.mp gd
            have gs := b2_ne0.mp gs
            have eE : toE n T p = x + 1 := by show tEq n T (toF n T p) = _; rw [fx]; exact tEq_o xl ga gd
            have hK : toK k n T p = T x := by unfold toK tKq; rw [fx, if_neg (by omega), if_neg ga, if_neg gd, if_pos gs]
            have e4 : Ep Sr μ (mu μ3 123 11 4) := e3.mu (s9 (by decide) (by decide))
            refine h _ e4 ⟨(kt e4).1, (kt e4).2.2, by rw [mu_i (by decide), eE]; exact d9, by rw [mu_i (by decide)]; exact d10, p0, p1, ?_⟩
            rw [hK, mu_s, mu_i (by decide), d12]
            unfold sgn at gs
            exact ⟨fun q => by omega, fun q => by omega, fun q => by omega, fun q => by omega, fun q => by omega, fun _ _ => ⟨rfl, rfl⟩⟩
          · have ga := b2_0.mp ga
            have gd := b2_ne0.mp gd
            have hg := gd
            unfold dig at hg
            have e4 : Ep Sr μ (mu μ3 123 12 (T x - 48)) := e3.mu (s9 (by decide) (by decide))
            refine num _ (x + 1) _ rfl e4 (by omega) (by rw [fx]; exact ga) (by rw [fx]; exact gd) (by omega) (by omega) (by rw [fx]; exact rn_t xl gd) (by rw [mu_i (by decide)]; exact d9) (by rw [mu_i (by decide)]; exact d10) (by rw [mu_i (by decide)]; exact d11) (by rw [mu_s]; omega) (fun _ => ?_)
            rw [mu_s, fx, show (x + 1 - x).toNat = 1 by omega]
            show T x - 48 = 0 * 10 + T (x + 0) - 48 ∧ _
            rw [Int.add_zero]
            omega
          · have ga := b2_ne0.mp ga
            exact wrd _ (x + 1) _ rfl e3 (by omega) (by rw [fx]; exact ga) (by omega) (by omega) (by rw [fx]; exact rn_t xl ga) d9 d10
        · rw [g9]
          exact ih (x + 1) _ (by omega) (e1.mu (s9 (by decide) (by decide))) (by omega) (by omega) (by rw [hx]; exact (toF_k xl (Or.inr g2)).symm) (mu_s _ _ _ _)
  exact v177 (by omega) (key _ p μ rfl Ep.rf (Int.le_refl _) p1 rfl h9)
end S58
