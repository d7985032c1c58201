/-! a law, in the class -/
section S69
variable {E : En} {d : Nat} {Φ : Option AV → Mm → Prop} {μ μ' : Mm} {n p q : Int} {T : Int → Int} {l : Cd}
theorem lw4.ep {S : Nat → Int → Prop} {i : Int} {x : Int × Int × Int × Int} (h : lw4 μ i x) (e : Ep S μ μ') (h0 : ∀ o, 7 ≤ o → o ≤ 10 → ¬ S o i) : lw4 μ' i x :=
  ⟨by rw [e _ _ (h0 _ (by omega) (by omega))]; exact h.1, by rw [e _ _ (h0 _ (by omega) (by omega))]; exact h.2.1, by rw [e _ _ (h0 _ (by omega) (by omega))]; exact h.2.2.1, by rw [e _ _ (h0 _ (by omega) (by omega))]; exact h.2.2.2⟩
theorem pLw_1 (h : ¬ (128 ≤ toK 0 n T p ∧ toK 0 n T p < 131)) : pLw n T p l = .error (1, toF n T p) := by unfold pLw; rw [if_neg h]
theorem pLw_2 (h : 128 ≤ toK 0 n T p ∧ toK 0 n T p < 131) : pLw n T p l = (pSm n T (toE n T p) l).bind fun x => (pWh n T x).bind fun y => if toK 0 n T y.1 = 59 then .ok ((toK 0 n T p - 128, (l.length : Int), (x.2.length : Int), (y.2.length : Int)), toE n T y.1, y.2) else .error (1, toF n T y.1) := by unfold pLw; rw [if_pos h]
theorem S5_6 {i0 : Int} {o : Nat} {i : Int} (h : S6 o i) : S5 i0 o i := Or.inl h
theorem S5_r {i0 : Int} {o : Nat} {i : Int} (h : Rd o i) : S5 i0 o i := Or.inl (Or.inl h)
theorem s5 {i : Int} (hd : 7 ≤ d) (hB : TB n T) (i0 : 0 ≤ i) (i1 : i < 16) (hR : CR 0 n T μ p) (hL : LC μ l) (hl : (l.length : Int) ≤ p) (hy : ∀ z, pLw n T p l = .ok z → ∀ μ', Ep (S5 i) μ μ' → CR 0 n T μ' z.2.1 → LC μ' z.2.2 → lw4 μ' i z.1 → Φ (some (.inl 1)) μ') (hn : ∀ fl, pLw n T p l = .error fl → ∀ μ', Ef (S5 i) μ μ' → CF fl μ' → Φ (some (.inl 0)) μ') : Ct E d 5 [.inr 6, .inr 1, .inl i] μ Φ := by
  have kk : (0 : Nat) < 4 := by decide
  have n4 := hB.2.1
  have z01 : inR (0 : Int) ∧ inR (1 : Int) := ⟨inR_of (by decide) (by decide), inR_of (by decide) (by decide)⟩
  have hR' := hR
  obtain ⟨-, -, -, -, -, -, -, -, p0, p1⟩ := hR'
  have hi : 0 ≤ i ∧ i < 16 := ⟨i0, i1⟩
  refine v5 (by omega) (t_53 (by omega) kk hB (by decide) hR (fun k0 k1 μ1 e1 c1 v8 => ⟨z01.2, fun _ => ⟨hi, hi, ?_⟩, fun g => absurd g (by decide)⟩) (fun k μ1 e1 b1 b2 => ⟨z01.1, fun g => absurd rfl g, fun _ => hn _ (pLw_1 (by omega)) μ1 (e1.mono (fun o i => S5_r)) ⟨b1, b2⟩⟩))
  have hP := pLw_2 (n := n) (T := T) (p := p) (l := l) ⟨k0, by omega⟩
  have te := toE_1 (T := T) (k := 0) p1 (by omega)
  have e1' : Ep (S5 i) μ μ1 := e1.mono (fun o i k => S5_r (by unfold Rd8 at k; unfold Rd; omega))
  have l1 : LC μ1 l := hL.ep e1 (fun o i k => by unfold Rd8; omega)
  have e2 : Ep (fun o j => (o = 7 ∨ o = 8) ∧ j = i) μ1 (mu (mu μ1 7 i (μ1 1 8)) 8 i (μ1 6 6)) := (Ep.rf.mu (by omega)).mu (by omega)
  have w7 : mu (mu μ1 7 i (μ1 1 8)) 8 i (μ1 6 6) 7 i = toK 0 n T p - 128 := by rw [mu_o (by decide), mu_s]; exact v8
  have w8 : mu (mu μ1 7 i (μ1 1 8)) 8 i (μ1 6 6) 8 i = l.length := by rw [mu_s]; exact l1.1
  generalize mu (mu μ1 7 i (μ1 1 8)) 8 i (μ1 6 6) = μ2 at *
  have e12 : Ep (S5 i) μ μ2 := e1'.trg (e2.mono (fun o i k => Or.inr (by omega)))
  refine s11 (by omega) hB (c1.ep e2 (fun o i k => by omega)) (l1.ep e2 (fun o i k => by omega)) (by omega) (fun x hx μ3 e3 c3 l3 => ⟨z01.2, fun _ => ⟨hi, ?_⟩, fun g => absurd g (by decide)⟩) (fun fl hx μ3 e3 f3 => ⟨z01.1, fun g => absurd rfl g, fun _ => hn fl (by rw [hP, hx]; rfl) μ3 (e12.trg (e3.mono (fun o i k => S5_6 (S6_11 k)))) f3⟩)
  obtain ⟨a0, a1, a2, u, a3, a4, a5⟩ := pSm_o (by omega) te.2 hx
  have hx2 : (x.2.length : Int) ≤ x.1 := by rw [a3, List.length_append]; omega
  have e13 := e12.trg (e3.mono (fun o j k => S5_6 (i0 := i) (S6_11 k)))
  have kr := toK_r (T := T) (k := 0) kk hB (p := x.1) (by omega) a2
  have ki : inR (toK 0 n T x.1) := inR_of (by omega) (by omega)
  have hP2 : pLw n T p l = (pWh n T x).bind fun y => if toK 0 n T y.1 = 59 then .ok ((toK 0 n T p - 128, (l.length : Int), (x.2.length : Int), (y.2.length : Int)), toE n T y.1, y.2) else .error (1, toF n T y.1) := by rw [hP, hx]; rfl
  have y7 : μ3 7 i = toK 0 n T p - 128 := by rw [e3 _ _ (by unfold S11 Rd; omega)]; exact w7
  have y8 : μ3 8 i = l.length := by rw [e3 _ _ (by unfold S11 Rd; omega)]; exact w8
  have h6 := l3.1
  rw [c3.K, h6]
  -- the mark
  have mk : ∀ (y : Int × Cd) (μ5 : Mm), pWh n T x = .ok y → 0 ≤ y.1 → y.1 ≤ n → Ep (S5 i) μ μ5 → CR 0 n T μ5 y.1 → LC μ5 y.2 → lw4 μ5 i (toK 0 n T p - 128, (l.length : Int), (x.2.length : Int), (y.2.length : Int)) → Ct E (d - 1) 52 [.inr 1, .inl 59] μ5 (rI (fun z6 μ5 => (z6 = 0 ∨ z6 = 1) ∧ (Φ (some (.inl z6)) μ5))) := by
    intro y μ5 hw yy0 yy1 e5 c5 l5 w5
    refine t_52 (by omega) kk hB (inR_of (by decide) (by decide)) c5 (fun k μ6 e6 c6 => ⟨Or.inr rfl, hy (_, toE n T y.1, y.2) (by rw [hP2, hw]; show (if _ then _ else _) = _; rw [if_pos k]) μ6 (e5.trg (e6.mono (fun o i k => S5_r (Rd67 k)))) c6 (l5.ep e6 (fun o i k => by unfold Rd6; omega)) (w5.ep e6 (fun o o0 o1 => by unfold Rd6; omega))⟩) (fun k μ6 e6 b1 b2 => ⟨Or.inl rfl, hn _ (by rw [hP2, hw]; show (if _ then _ else _) = _; rw [if_neg k]) μ6 (e5.trg (e6.mono (fun o i => S5_r))) ⟨b1, b2⟩⟩)
  refine ⟨ki, fun k => ⟨hi, ?_⟩, fun k => ?_⟩
  · have e4 : Ep (fun o j => (o = 9 ∨ o = 10) ∧ j = i) μ3 (mu (mu μ3 9 i (x.2.length : Int)) 10 i (x.2.length : Int)) := (Ep.rf.mu (by omega)).mu (by omega)
    refine mk x _ (by unfold pWh; rw [if_neg k]) (by omega) a2 (e13.trg (e4.mono (fun o i k => Or.inr (by omega)))) (c3.ep e4 (fun o i k => by omega)) (l3.ep e4 (fun o i k => by omega)) ⟨?_, ?_, ?_, ?_⟩
    · rw [e4 _ _ (by omega)]; exact y7
    · rw [e4 _ _ (by omega)]; exact y8
    · rw [mu_o (by decide), mu_s]
    · rw [mu_s]
  · have tx := toE_1 (T := T) (k := 0) a2 (by omega)
    have hw : pWh n T x = pCd n T 401 (toE n T x.1) [] x.2 true := by unfold pWh; rw [if_pos k]
    have e4 : Ep (fun o j => o = 9 ∧ j = i) μ3 (mu μ3 9 i (x.2.length : Int)) := Ep.rf.mu ⟨rfl, rfl⟩
    have y9 : mu μ3 9 i (x.2.length : Int) 9 i = x.2.length := mu_s _ _ _ _
    have e14 : Ep (S5 i) μ (mu μ3 9 i (x.2.length : Int)) := e13.trg (e4.mono (fun o i k => Or.inr (by omega)))
    refine t_50 (by omega) hB.1 (c3.ep e4 (fun o i k => by omega)) (fun μ7 e7 c7 => ?_)
    have l7 : LC μ7 x.2 := (l3.ep e4 (fun o i k => by omega)).ep e7 (fun o i k => by omega)
    have e17 := e14.trg (e7.mono (fun o j k => S5_r (i0 := i) (Rd67 k)))
    refine s6 (by omega) hB c7 l7 (by omega) (fun y hyy μ8 e8 c8 l8 => ⟨z01.2, fun _ => ⟨hi, ?_⟩, fun g => absurd g (by decide)⟩) (fun fl hyy μ8 e8 f8 => ⟨z01.1, fun g => absurd rfl g, fun _ => hn fl (by rw [hP2, hw, hyy]; rfl) μ8 (e17.trg (e8.mono (fun o i => S5_6))) f8⟩)
    have e18 := e17.trg (e8.mono (fun o j k => S5_6 (i0 := i) k))
    obtain ⟨b1, b2, -, -⟩ := pWh_o (by omega) a2 hx2 (by rw [hw]; exact hyy)
    rw [l8.1]
    have e9 : Ep (fun o j => o = 10 ∧ j = i) μ8 (mu μ8 10 i (y.2.length : Int)) := Ep.rf.mu ⟨rfl, rfl⟩
    have ns : ∀ o, 7 ≤ o → o ≤ 10 → ¬ S6 o i := fun o h0 h1 => by unfold S6 Rd; omega
    refine mk y _ (by rw [hw]; exact hyy) (by omega) b2 (e18.trg (e9.mono (fun o i k => Or.inr (by omega)))) (c8.ep e9 (fun o i k => by omega)) (l8.ep e9 (fun o i k => by omega)) ⟨?_, ?_, ?_, ?_⟩
    · rw [e9 _ _ (by omega), e8 _ _ (ns _ (by omega) (by omega)), e7 _ _ (by omega), e4 _ _ (by omega)]; exact y7
    · rw [e9 _ _ (by omega), e8 _ _ (ns _ (by omega) (by omega)), e7 _ _ (by omega), e4 _ _ (by omega)]; exact y8
    · rw [e9 _ _ (by omega), e8 _ _ (ns _ (by omega) (by omega)), e7 _ _ (by omega)]; exact y9
    · rw [mu_s]
theorem pLL_0 {i : Int} {D : Int → Int × Int × Int × Int} (m : Nat) (h : toK 0 n T p = 0) : pLL n T m i D p l = .ok (i, D, l) := by
  cases m with
  | zero => exact if_pos h
  | succ m => exact if_pos h
theorem pLL_1 {i : Int} {D : Int → Int × Int × Int × Int} (m : Nat) (h : toK 0 n T p ≠ 0) (h1 : ¬ (128 ≤ toK 0 n T p ∧ toK 0 n T p < 131)) : pLL n T m i D p l = .error (1, toF n T p) := by
  cases m with
  | zero =>
    show (if _ then _ else _) = _
    rw [if_neg h, if_neg h1]
  | succ m =>
    show (if _ then _ else _) = _
    rw [if_neg h, pLw_1 h1]
    rfl
theorem pLL_2 {i : Int} {D : Int → Int × Int × Int × Int} (m : Nat) (h : toK 0 n T p ≠ 0) : pLL n T (m + 1) i D p l = (pLw n T p l).bind fun x => pLL n T m (i + 1) (uf D i x.1) x.2.1 x.2.2 := by
  show (if _ then _ else _) = _
  rw [if_neg h]
theorem pLL_3 {i : Int} {D : Int → Int × Int × Int × Int} (h : 128 ≤ toK 0 n T p ∧ toK 0 n T p < 131) : pLL n T 0 i D p l = .error (3, toF n T p) := by
  show (if _ then _ else _) = _
  rw [if_neg (by omega), if_pos h]
theorem S5_4 {i0 : Int} {o : Nat} {i : Int} (h : S5 i0 o i) : S4 o i := by
  unfold S5 S6 at h
  unfold S4
  rcases h with (h | h | h | h) | h
  · exact Or.inl h
  · exact Or.inr (by omega)
  · exact Or.inr (by omega)
  · exact Or.inr (by omega)
  · exact Or.inr (by omega)
theorem g4 (hd : 8 ≤ d) (hB : TB n T) : ∀ (m : Nat) (i : Int) (D : Int → Int × Int × Int × Int) (p : Int) (l : Cd) (μ : Mm), i + m = 16 → 0 ≤ i → CR 0 n T μ p → LC μ l → (l.length : Int) ≤ p → (∀ j, 0 ≤ j → j < i → lw4 μ j (D j) ∧ lwB l (D j)) → (∀ c D' l', pLL n T m i D p l = .ok (c, D', l') → ∀ μ', Ep S4 μ μ' → 0 ≤ c → c ≤ 16 → μ' 6 0 = c → LC μ' l' → l'.length ≤ 400 → (∀ j, 0 ≤ j → j < c → lw4 μ' j (D' j) ∧ lwB l' (D' j)) → Φ (some (.inl 1)) μ') → (∀ f, pLL n T m i D p l = .error f → ∀ μ', Ef S4 μ μ' → CF f μ' → Φ (some (.inl 0)) μ') → G E d 4 Φ 8 [some (.inr 6), some (.inr 1), some (.inl i)] [] μ := by
  intro m
  have kk : (0 : Nat) < 4 := by decide
  have n4 := hB.2.1
  have z01 : inR (0 : Int) ∧ inR (1 : Int) := ⟨inR_of (by decide) (by decide), inR_of (by decide) (by decide)⟩
  have r4 : ∀ {o i}, Rd o i → S4 o i := fun h => Or.inl h
  induction m with
  | zero =>
    intro i D p l μ hi i0 hR hL hl hD hy hn
    have hR' := hR
    obtain ⟨-, -, -, -, -, -, -, -, p0, p1⟩ := hR'
    have i16 : i = 16 := by omega
    subst i16
    refine v4_8 (by omega) ⟨inR_of (by decide) (by decide), fun _ => ?_, fun g => absurd g (by decide)⟩
    have e0 : Ep (fun o i => o = 6 ∧ i = 0) μ (mu μ 6 0 16) := Ep.rf.mu ⟨rfl, rfl⟩
    have e4 : Ep S4 μ (mu μ 6 0 16) := e0.mono (fun o i k => Or.inr (by omega))
    refine t_55 (by omega) kk hB (by decide) (hR.ep e0 (fun o i k => by omega)) (fun g => ⟨Or.inr rfl, hy 16 D l (pLL_0 _ g) _ e4 (by decide) (by decide) (mu_s _ _ _ _) (hL.ep e0 (fun o i k => by omega)) (by omega) (fun j j0 j1 => ⟨(hD j j0 j1).1.ep e0 (fun _ _ _ => by omega), (hD j j0 j1).2⟩)⟩) (fun g μ' e1 a1 a2 => ⟨Or.inl rfl, hn _ (pLL_3 (by omega)) μ' (e4.trg (e1.mono (fun o i => r4))) ⟨a1, a2⟩⟩) (fun g g2 μ' e1 a1 a2 => ⟨Or.inl rfl, hn _ (pLL_1 _ g (by omega)) μ' (e4.trg (e1.mono (fun o i => r4))) ⟨a1, a2⟩⟩)
  | succ m ih =>
    intro i D p l μ hi i0 hR hL hl hD hy hn
    have hR' := hR
    obtain ⟨-, -, -, -, -, -, h5, -, p0, p1⟩ := hR'
    have kr := toK_r (T := T) kk hB p0 p1
    refine v4_8 (by omega) ⟨inR_of (by omega) (by omega), fun g => by omega, fun _ => ?_⟩
    rw [h5]
    have e0 : Ep (fun o i => o = 6 ∧ i = 0) μ (mu μ 6 0 i) := Ep.rf.mu ⟨rfl, rfl⟩
    refine ⟨inR_of (by omega) (by omega), fun g => ?_, fun g => hy i D l (pLL_0 _ g) _ (e0.mono (fun o i k => Or.inr (by omega))) i0 (by omega) (mu_s _ _ _ _) (hL.ep e0 (fun o i k => by omega)) (by omega) (fun j j0 j1 => ⟨(hD j j0 j1).1.ep e0 (fun _ _ _ => by omega), (hD j j0 j1).2⟩)⟩
    have hu := pLL_2 (n := n) (T := T) (l := l) (i := i) (D := D) m g
    refine s5 (by omega) hB i0 (by omega) hR hL hl (fun z hz μ1 e1 c1 l1 w1 => ⟨z01.2, fun _ => ?_, fun g => absurd g (by decide)⟩) (fun f hz μ1 e1 f1 => ⟨z01.1, fun g => absurd rfl g, fun _ => hn f (by rw [hu, hz]; rfl) μ1 (e1.mono (fun o i => S5_4)) f1⟩)
    have hu2 : pLL n T (m + 1) i D p l = pLL n T m (i + 1) (uf D i z.1) z.2.1 z.2.2 := by rw [hu, hz]; rfl
    obtain ⟨b1, b2, b3, b4, u, b5⟩ := pLw_o p0 p1 hl hz
    have x1 := e1.mono (fun o i => S5_4)
    refine ih (i + 1) (uf D i z.1) z.2.1 z.2.2 μ1 (by omega) (by omega) c1 l1 b3 (fun j j0 j1 => ?_) (fun c D' l' e2 μ2 ep2 c0 c16 v0 hL2 hl2 h2 => hy c D' l' (by rw [hu2]; exact e2) μ2 (x1.trg ep2) c0 c16 v0 hL2 hl2 h2) (fun f e2 μ2 ep2 c2 => hn f (by rw [hu2]; exact e2) μ2 (x1.trg ep2) c2)
    unfold uf
    by_cases gi : j = i
    · rw [if_pos gi, gi]
      exact ⟨w1, b4⟩
    · rw [if_neg gi, b5]
      have := hD j j0 (by omega)
      exact ⟨this.1.ep e1 (fun o h0 h1 => by unfold S5 S6 Rd; omega), this.2.ap u⟩
theorem s4 (hd : 12 ≤ d) (hT : TaW μ n T) (hB : TB n T) (hy : ∀ c D l, pLL n T 16 0 (fun _ => (0, 0, 0, 0)) 0 [] = .ok (c, D, l) → ∀ μ', Ep RW0 μ μ' → 0 ≤ c → c ≤ 16 → μ' 6 0 = c → LC μ' l → l.length ≤ 400 → (∀ j, 0 ≤ j → j < c → lw4 μ' j (D j) ∧ lwB l (D j)) → Φ (some (.inl 1)) μ') (hn : ∀ f, pLL n T 16 0 (fun _ => (0, 0, 0, 0)) 0 [] = .error f → ∀ μ', Ef RW0 μ μ' → CF f μ' → Φ (some (.inl 0)) μ') : Ct E d 4 [.inr 6, .inr 1] μ Φ := by
  have a1 : ∀ {μ1 : Mm}, Ep (fun o i => (3 ≤ o ∧ o ≤ 5) ∨ (o = 1 ∧ 5 ≤ i ∧ i ≤ 7)) μ μ1 → Ep RW0 μ μ1 := fun e => e.mono (fun o i k => by unfold RW0; omega)
  have a2 : ∀ {μ1 μ2 : Mm}, Ep S4 μ1 μ2 → Ep RW0 μ1 μ2 := fun e => e.mono (fun o i k => by unfold S4 Rd at k; unfold RW0; omega)
  have a2f : ∀ {μ1 μ2 : Mm}, Ef S4 μ1 μ2 → Ef RW0 μ1 μ2 := fun e => e.mono (fun o i k => by unfold S4 Rd at k; unfold RW0; omega)
  refine v4 (by omega) (s41 (k := 0) (by omega) (by decide) hT hB (fun μ1 e1 c1 => ?_))
  have e2 : Ep (fun o i => o = 6 ∧ i = 6) μ1 (mu μ1 6 6 0) := Ep.rf.mu ⟨rfl, rfl⟩
  have e12 : Ep RW0 μ (mu μ1 6 6 0) := (a1 e1).trg (e2.mono (fun o i k => by unfold RW0; omega))
  exact g4 (by omega) hB 16 0 _ 0 [] _ rfl (Int.le_refl _) (c1.ep e2 (fun o i k => by omega)) ⟨mu_s _ _ _ _, trivial⟩ (Int.le_refl _) (fun j j0 j1 => by omega) (fun c D l e3 μ2 ep2 c0 c16 v0 hL2 hl2 h2 => hy c D l e3 μ2 (e12.trg (a2 ep2)) c0 c16 v0 hL2 hl2 h2) (fun f e3 μ2 ep2 c2 => hn f e3 μ2 (e12.trg (a2f ep2)) c2)
end S69
