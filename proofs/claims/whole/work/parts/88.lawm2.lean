/-! a law is read, in the reference -/
def Sm7 : Nat → Int → Prop := fun o i => Sm9 o i ∨ (131 ≤ o ∧ o ≤ 134 ∧ 32 ≤ i)
def lm4 (μ : Mm) (i : Int) (x : Int × Int × Int × Int) : Prop := μ 131 (32 + i) = x.1 ∧ μ 132 (32 + i) = x.2.1 ∧ μ 133 (32 + i) = x.2.2.1 ∧ μ 134 (32 + i) = x.2.2.2
section S73
variable {E : En} {d : Nat} {Φ : Option AV → Mm → Prop} {μ μ' : Mm} {n p q : Int} {T : Int → Int} {l : Cd}
theorem lm4.ep {S : Nat → Int → Prop} {i : Int} {x : Int × Int × Int × Int} (h : lm4 μ i x) (e : Ep S μ μ') (h0 : ∀ o, 131 ≤ o → o ≤ 134 → ¬ S o (32 + i)) : lm4 μ' i x :=
  ⟨by rw [e _ _ (h0 _ (by omega) (by omega))]; exact h.1, by rw [e _ _ (h0 _ (by omega) (by omega))]; exact h.2.1, by rw [e _ _ (h0 _ (by omega) (by omega))]; exact h.2.2.1, by rw [e _ _ (h0 _ (by omega) (by omega))]; exact h.2.2.2⟩
theorem Sm9_7 {o : Nat} {i : Int} (h : Sm9 o i) : Sm7 o i := Or.inl h
theorem Sm8_7 {o : Nat} {i : Int} (h : Sm8 o i) : Sm7 o i := Or.inl (Sm8_9 h)
theorem Sq_7 {o : Nat} {i : Int} (h : Sq o i) : Sm7 o i := Or.inl (Or.inl h)
theorem Sr_7 {o : Nat} {i : Int} (h : Sr o i) : Sm7 o i := Or.inl (Or.inl (Sr_q h))
theorem ns9 {o : Nat} {i : Int} (h : 131 ≤ o) (h1 : o ≤ 134) : ¬ Sm9 o i := by unfold Sm9 Sq; omega
theorem s190 (hd : 2 ≤ d) (hB : TB n T) (hM : MX 0 n T μ p) (h : Φ (some (.inl (b2 (128 ≤ toK 0 n T p ∧ toK 0 n T p < 131)))) μ) : Ct E d 190 [.inr 123] μ Φ := by
  have kk : (0 : Nat) < 4 := by decide
  have p0 := hM.1.2.2.2.2.1
  have p1 := hM.1.2.2.2.2.2.1
  have t := hM.tk kk hB
  have kr := toK_r (T := T) kk hB p0 p1
  have k0 : ((kb 0 : Nat) : Int) = 0 := by decide
  refine v190 (by omega) ⟨t.1, fun g => ?_, fun g => ?_⟩
  · rw [b2_f (by have := t.2.2.1; omega)] at h; exact h
  · have k8 := t.2.2.1.mp g
    have v := t.2.2.2.2.2.2.2.2 k8
    rw [k0] at v
    rw [v]
    refine s153 (by omega) (inR_of (by omega) (by omega)) (inR_of (by decide) (by decide)) (inR_of (by decide) (by decide)) ⟨b2_in _, fun z => ?_, fun z => ?_⟩
    · have z := b2_0.mp z
      rw [b2_f (by omega)] at h; exact h
    · have z := b2_ne0.mp z
      rw [b2_t (by omega)] at h; exact h
theorem lm4_i {i a b c e : Int} {μ1 : Mm} (h1 : μ1 131 (32 + i) = a) (h2 : μ1 132 (32 + i) = b) (h3 : μ1 133 (32 + i) = c) (h4 : μ1 134 (32 + i) = e) : lm4 μ1 i (a, b, c, e) := ⟨h1, h2, h3, h4⟩
theorem g191 (hd : 14 ≤ d) (hB : TB n T) : ∀ (m : Nat) (i : Int) (D : Int → Int × Int × Int × Int) (p : Int) (l : Cd) (μ : Mm), i + m = 16 → 0 ≤ i → MX 0 n T μ p → LL μ l → μ 123 24 = 0 → (l.length : Int) ≤ p → (∀ j, 0 ≤ j → j < i → lm4 μ j (D j) ∧ lwB l (D j)) → (∀ c D' l', pLL n T m i D p l = .ok (c, D', l') → ∀ μ', Ep Sm7 μ μ' → 0 ≤ c → c ≤ 16 → LL μ' l' → l'.length ≤ 400 → (∀ j, 0 ≤ j → j < c → lm4 μ' j (D' j) ∧ lwB l' (D' j)) → Φ (some (.inl c)) μ') → (∀ f, pLL n T m i D p l = .error f → ∀ μ', Ep Sm7 μ μ' → MF f μ' → Φ (some (.inl (-1))) μ') → G E d 191 Φ 2 [some (.inr 123), some (.inl i), none] [] μ := by
  intro m
  have kk : (0 : Nat) < 4 := by decide
  have n4 := hB.2.1
  have k0 : ((kb 0 : Nat) : Int) = 0 := by decide
  induction m with
  | zero =>
    intro i D p l μ hi i0 hM hL h24 hl hD hy hn
    have p0 := hM.1.2.2.2.2.1
    have p1 := hM.1.2.2.2.2.2.1
    have t := hM.tk kk hB
    have i16 : i = 16 := by omega
    subst i16
    refine v191_2 (by omega) (s190 (by omega) hB hM ⟨b2_in _, fun z => ⟨t.1, fun g => ?_, fun g => ?_⟩, fun z => ⟨inR_of (by decide) (by decide), fun g => absurd rfl g, fun _ => ?_⟩⟩)
    · have z := b2_0.mp z
      exact s178 (by omega) hM (fun μ1 e1 f1 => hn _ (pLL_1 0 (fun e => g (t.2.1.mpr e)) z) μ1 (e1.mono (fun o i => Sq_7)) f1)
    · exact hy 16 D l (pLL_0 0 (t.2.1.mp g)) μ Ep.rf (by decide) (by decide) hL (by omega) hD
    · have z := b2_ne0.mp z
      exact s178 (by omega) hM (fun μ1 e1 f1 => hn _ (pLL_3 z) μ1 (e1.mono (fun o i => Sq_7)) f1)
  | succ m ih =>
    intro i D p l μ hi i0 hM hL h24 hl hD hy hn
    have p0 := hM.1.2.2.2.2.1
    have p1 := hM.1.2.2.2.2.2.1
    have t := hM.tk kk hB
    have kr := toK_r (T := T) kk hB p0 p1
    refine v191_2 (by omega) (s190 (by omega) hB hM ⟨b2_in _, fun z => ⟨t.1, fun g => ?_, fun g => ?_⟩, fun z => ⟨inR_of (by omega) (by omega), fun _ => ?_, fun g => by omega⟩⟩)
    · have z := b2_0.mp z
      exact s178 (by omega) hM (fun μ1 e1 f1 => hn _ (pLL_1 _ (fun e => g (t.2.1.mpr e)) z) μ1 (e1.mono (fun o i => Sq_7)) f1)
    · exact hy i D l (pLL_0 _ (t.2.1.mp g)) μ Ep.rf i0 (by omega) hL (by omega) hD
    have k := b2_ne0.mp z
    have te := toE_1 (T := T) (k := 0) p1 (by omega)
    have v := t.2.2.2.2.2.2.2.2 k.1
    rw [k0, Int.zero_add] at v
    have hu := pLL_2 (n := n) (T := T) (l := l) (i := i) (D := D) (p := p) m (by omega)
    rw [pLw_2 k] at hu
    have hi2 : 0 ≤ 32 + i ∧ 32 + i < 48 := by omega
    rw [v]
    -- the word that it begins with
    have e1 : Ep (fun o j => o = 131 ∧ j = 32 + i) μ (mu μ 131 (32 + i) (toK 0 n T p - 128)) := Ep.rf.mu ⟨rfl, rfl⟩
    have w1 : mu μ 131 (32 + i) (toK 0 n T p - 128) 131 (32 + i) = toK 0 n T p - 128 := mu_s _ _ _ _
    generalize mu μ 131 (32 + i) (toK 0 n T p - 128) = μ1 at *
    have m1 := hM.ep e1 (fun o i k => by omega)
    have l1 := hL.ep e1 (by omega) (fun o i k => by omega)
    refine ⟨hi2, u_177 (by omega) kk hB m1 (fun μ2 e2 m2 => ⟨hi2, ?_⟩)⟩
    have l2 := l1.r e2
    rw [l2.1]
    have e3 : Ep (fun o j => o = 132 ∧ j = 32 + i) μ2 (mu μ2 132 (32 + i) (l.length : Int)) := Ep.rf.mu ⟨rfl, rfl⟩
    have w3 : mu μ2 132 (32 + i) (l.length : Int) 132 (32 + i) = l.length := mu_s _ _ _ _
    have w31 : mu μ2 132 (32 + i) (l.length : Int) 131 (32 + i) = toK 0 n T p - 128 := by rw [e3 _ _ (by omega), e2 _ _ (by unfold Sr; omega)]; exact w1
    generalize mu μ2 132 (32 + i) (l.length : Int) = μ3 at *
    have m3 := m2.ep e3 (fun o i k => by omega)
    have l3 := l2.ep e3 (by omega) (fun o i k => by omega)
    have z3 : μ3 123 24 = 0 := by rw [e3 _ _ (by omega), e2 _ _ (by unfold Sr; omega), e1 _ _ (by omega)]; exact h24
    have e13 : Ep Sm7 μ μ3 := ((e1.mono (fun o j k => Or.inr (by omega))).tr (e2.mono (fun o i => Sr_7))).tr (e3.mono (fun o j k => Or.inr (by omega)))
    have fr3 : ∀ o j, 131 ≤ o → o ≤ 134 → j ≠ 32 + i → μ3 o j = μ o j := fun o j h0 h1 h2 => by rw [e3 _ _ (by omega), e2 _ _ (by unfold Sr; omega), e1 _ _ (by omega)]
    refine s185 (by omega) hB m3 l3 (by omega) (fun x hx μ4 e4 m4 l4 => ⟨inR_of (by decide) (by decide), fun _ => ⟨hi2, ?_⟩, fun g => absurd g (by decide)⟩) (fun fl hx μ4 e4 f4 => ⟨inR_of (by decide) (by decide), fun g => absurd rfl g, fun _ => hn fl (by rw [hu, hx]; rfl) μ4 (e13.tr (e4.mono (fun o i => Sm8_7))) f4⟩)
    obtain ⟨a0, a1, a2, u, a3, a4, a5⟩ := pSm_o (by omega) te.2 hx
    have hx2 : (x.2.length : Int) ≤ x.1 := by rw [a3, List.length_append]; omega
    have hu2 : pLL n T (m + 1) i D p l = ((pWh n T x).bind fun y => if toK 0 n T y.1 = 59 then (.ok ((toK 0 n T p - 128, (l.length : Int), (x.2.length : Int), (y.2.length : Int)), toE n T y.1, y.2) : Except Flt _) else .error (1, toF n T y.1)).bind fun x => pLL n T m (i + 1) (uf D i x.1) x.2.1 x.2.2 := by rw [hu, hx]; rfl
    have n8 : ∀ {o : Nat} {j : Int}, 131 ≤ o → o ≤ 134 → ¬ Sm8 o j := fun h0 h1 h2 => ns9 h0 h1 (Sm8_9 h2)
    rw [l4.1]
    have e5 : Ep (fun o j => o = 133 ∧ j = 32 + i) μ4 (mu μ4 133 (32 + i) (x.2.length : Int)) := Ep.rf.mu ⟨rfl, rfl⟩
    have w5 : mu μ4 133 (32 + i) (x.2.length : Int) 133 (32 + i) = x.2.length := mu_s _ _ _ _
    have w51 : mu μ4 133 (32 + i) (x.2.length : Int) 131 (32 + i) = toK 0 n T p - 128 := by rw [e5 _ _ (by omega), e4 _ _ (n8 (by decide) (by decide))]; exact w31
    have w52 : mu μ4 133 (32 + i) (x.2.length : Int) 132 (32 + i) = l.length := by rw [e5 _ _ (by omega), e4 _ _ (n8 (by decide) (by decide))]; exact w3
    generalize mu μ4 133 (32 + i) (x.2.length : Int) = μ5 at *
    have m5 := m4.ep e5 (fun o i k => by omega)
    have l5 := l4.ep e5 (by omega) (fun o i k => by omega)
    have z5 : μ5 123 24 = 0 := by rw [e5 _ _ (by omega), e4 _ _ (by unfold Sm8 Sq; omega)]; exact z3
    have e15 : Ep Sm7 μ μ5 := (e13.tr (e4.mono (fun o i => Sm8_7))).tr (e5.mono (fun o j k => Or.inr (by omega)))
    have fr5 : ∀ o j, 131 ≤ o → o ≤ 134 → j ≠ 32 + i → μ5 o j = μ o j := fun o j h0 h1 h2 => by rw [e5 _ _ (by omega), e4 _ _ (n8 h0 h1)]; exact fr3 o j h0 h1 h2
    have t5 := m5.tk kk hB
    have kr5 := toK_r (T := T) (k := 0) kk hB (p := x.1) (by omega) a2
    -- the mark, and the next line
    have fin : ∀ (y : Int × Cd) (μ6 : Mm), pWh n T x = .ok y → 0 ≤ y.1 → y.1 ≤ n → (y.2.length : Int) ≤ y.1 → p ≤ y.1 → Ep Sm7 μ μ6 → MX 0 n T μ6 y.1 → LL μ6 y.2 → μ6 123 24 = 0 → μ6 131 (32 + i) = toK 0 n T p - 128 → μ6 132 (32 + i) = l.length → μ6 133 (32 + i) = x.2.length → (∀ o j, 131 ≤ o → o ≤ 134 → j ≠ 32 + i → μ6 o j = μ o j) → ((0 ≤ 32 + i ∧ 32 + i < 48) ∧ (Ct E (d - 1) 180 [.inr 123, .inl 59] (mu μ6 134 (32 + i) (μ6 123 23)) (rI (fun z11 μ10 => inR z11 ∧ (z11 ≠ 0 → (Ct E (d - 1) 177 [.inr 123] μ10 (rV (fun μ12 => G E d 191 Φ 2 [some (.inr 123), some (.inl (i + 1)), none] [] μ12)))) ∧ (z11 = 0 → (Ct E (d - 1) 178 [.inr 123, .inl 1] μ10 (rI (fun z14 μ13 => Φ (some (.inl z14)) μ13))))))))  := by
      intro y μ6 hw yy0 yy1 yl yp e6 m6 l6 z6 b1 b2' b3 fr6
      refine ⟨hi2, ?_⟩
      rw [l6.1]
      have e7 : Ep (fun o j => o = 134 ∧ j = 32 + i) μ6 (mu μ6 134 (32 + i) (y.2.length : Int)) := Ep.rf.mu ⟨rfl, rfl⟩
      have w7 : mu μ6 134 (32 + i) (y.2.length : Int) 134 (32 + i) = y.2.length := mu_s _ _ _ _
      generalize mu μ6 134 (32 + i) (y.2.length : Int) = μ7 at *
      have m7 := m6.ep e7 (fun o i k => by omega)
      have l7 := l6.ep e7 (by omega) (fun o i k => by omega)
      have e17 : Ep Sm7 μ μ7 := e6.tr (e7.mono (fun o j k => Or.inr (by omega)))
      refine s180 (k := 0) (by omega) kk hB m7 (by decide) (by decide) ⟨b2_in _, fun g => ?_, fun g => ?_⟩
      · have k59 := b2_ne0.mp g
        have ty := toE_1 (T := T) (k := 0) yy1 (by omega)
        have hz : pLw n T p l = .ok ((toK 0 n T p - 128, (l.length : Int), (x.2.length : Int), (y.2.length : Int)), toE n T y.1, y.2) := by
          rw [pLw_2 k, hx]
          show ((pWh n T x).bind _) = _
          rw [hw]
          show (if _ then _ else _) = _
          rw [if_pos k59]
        obtain ⟨c1, c2, c3, c4, w, c5⟩ := pLw_o p0 p1 hl hz
        have hu3 : pLL n T (m + 1) i D p l = pLL n T m (i + 1) (uf D i (toK 0 n T p - 128, (l.length : Int), (x.2.length : Int), (y.2.length : Int))) (toE n T y.1) y.2 := by
          rw [hu2, hw]
          show (Except.bind (if _ then _ else _) _) = _
          rw [if_pos k59]
          rfl
        refine u_177 (by omega) kk hB m7 (fun μ8 e8 m8 => ?_)
        have n34 : ∀ {o : Nat} {j : Int}, 131 ≤ o → o ≤ 134 → ¬ Sr o j := fun h0 h1 h2 => by unfold Sr at h2; omega
        refine ih (i + 1) _ _ _ μ8 (by omega) (by omega) m8 (l7.r e8) (by rw [e8 _ _ (by unfold Sr; omega), e7 _ _ (by omega)]; exact z6) (by omega) (fun j j0 j1 => ?_) (fun c D' l' e2 μ2 ep2 c0 c16 hL2 hl2 h2 => hy c D' l' (by rw [hu3]; exact e2) μ2 ((e17.tr (e8.mono (fun o i => Sr_7))).tr ep2) c0 c16 hL2 hl2 h2) (fun f e2 μ2 ep2 c2 => hn f (by rw [hu3]; exact e2) μ2 ((e17.tr (e8.mono (fun o i => Sr_7))).tr ep2) c2)
        unfold uf
        by_cases gi : j = i
        · rw [if_pos gi, gi]
          refine ⟨lm4_i ?_ ?_ ?_ ?_, c4⟩
          · rw [e8 _ _ (n34 (by decide) (by decide)), e7 _ _ (by omega)]; exact b1
          · rw [e8 _ _ (n34 (by decide) (by decide)), e7 _ _ (by omega)]; exact b2'
          · rw [e8 _ _ (n34 (by decide) (by decide)), e7 _ _ (by omega)]; exact b3
          · rw [e8 _ _ (n34 (by decide) (by decide))]; exact w7
        · rw [if_neg gi]
          have hj := hD j j0 (by omega)
          have fr : ∀ o, 131 ≤ o → o ≤ 134 → μ8 o (32 + j) = μ o (32 + j) := fun o h0 h1 => by rw [e8 _ _ (n34 h0 h1), e7 _ _ (by omega)]; exact fr6 o _ h0 h1 (by omega)
          refine ⟨⟨by rw [fr _ (by decide) (by decide)]; exact hj.1.1, by rw [fr _ (by decide) (by decide)]; exact hj.1.2.1, by rw [fr _ (by decide) (by decide)]; exact hj.1.2.2.1, by rw [fr _ (by decide) (by decide)]; exact hj.1.2.2.2⟩, ?_⟩
          have c5 : y.2 = l ++ w := c5
          rw [c5]
          exact hj.2.ap w
      · have k59 := b2_0.mp g
        refine s178 (by omega) m7 (fun μ8 e8 f8 => hn _ ?_ μ8 (e17.tr (e8.mono (fun o i => Sq_7))) f8)
        rw [hu2, hw]
        show (Except.bind (if _ then _ else _) _) = _
        rw [if_neg k59]
        rfl
    refine s179 (k := 0) (c := 3) (by omega) kk hB m5 (by decide) (by decide) ⟨b2_in _, fun g => ?_, fun g => ?_⟩
    · have g := b2_0.mp g
      exact fin x μ5 (by unfold pWh; rw [if_neg (by omega)]) (by omega) a2 hx2 (by omega) e15 m5 l5 z5 w51 w52 w5 fr5
    · have g := b2_ne0.mp g
      have tx := toE_1 (T := T) (k := 0) a2 (by omega)
      have hw : pWh n T x = pCd n T 401 (toE n T x.1) [] x.2 true := by unfold pWh; rw [if_pos (by omega)]
      refine u_177 (by omega) kk hB m5 (fun μ6 e6 m6 => ?_)
      have l6 := l5.r e6
      refine s189 (by omega) hB m6 l6 (by rw [e6 _ _ (by unfold Sr; omega)]; exact z5) (by omega) (fun y hyy μ7 e7 m7 l7 z7 => ⟨inR_of (by decide) (by decide), fun _ => ?_, fun g => absurd g (by decide)⟩) (fun fl hyy μ7 e7 f7 => ⟨inR_of (by decide) (by decide), fun g => absurd rfl g, fun _ => hn fl (by rw [hu2, hw, hyy]; rfl) μ7 ((e15.tr (e6.mono (fun o i => Sr_7))).tr (e7.mono (fun o i => Sm9_7))) f7⟩)
      obtain ⟨b1, b2', b3, -⟩ := pWh_o (by omega) a2 hx2 (by rw [hw]; exact hyy)
      have n34 : ∀ {o : Nat} {j : Int}, 131 ≤ o → o ≤ 134 → ¬ Sr o j := fun h0 h1 h2 => by unfold Sr at h2; omega
      exact fin y μ7 (by rw [hw]; exact hyy) (by omega) b2' b3 (by omega) ((e15.tr (e6.mono (fun o i => Sr_7))).tr (e7.mono (fun o i => Sm9_7))) m7 l7 z7 (by rw [e7 _ _ (ns9 (by decide) (by decide)), e6 _ _ (n34 (by decide) (by decide))]; exact w51) (by rw [e7 _ _ (ns9 (by decide) (by decide)), e6 _ _ (n34 (by decide) (by decide))]; exact w52) (by rw [e7 _ _ (ns9 (by decide) (by decide)), e6 _ _ (n34 (by decide) (by decide))]; exact w5) (fun o j h0 h1 h2 => by rw [e7 _ _ (ns9 h0 h1), e6 _ _ (n34 h0 h1)]; exact fr5 o j h0 h1 h2)
end S73
