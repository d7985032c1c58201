/-! call by call: a text -/
def GT (o : Nat) (i : Int) : Prop := (1 ≤ o ∧ o ≤ 22) ∨ (25 ≤ o ∧ o ≤ 48) ∨ (o = 100 ∧ i = 2) ∨ (o = 123 ∧ i ≠ 42 ∧ i ≠ 46 ∧ i ≠ 5 ∧ i ≠ 56) ∨ o = 124 ∨ (130 ≤ o ∧ o ≤ 141)
section S77
variable {E : En} {d : Nat} {μ μ' μ1 : Mm} {F : Nat → Int → Prop} {K : Kt} {n c : Int} {T : Int → Int} {D : Int → Int → Int} {L : Int → Int} {X : Int → Int → Int} {l : Cd} {s : Int → Int}
theorem Sh.nk (h : Sh μ μ) (e : Ep F μ μ') (hF : ∀ o i, F o i → GT o i) (hK : ∃ K, KOK K ∧ KW μ' K ∧ KM μ' K) (hs : ∃ s, StB s ∧ DP (μ' 36 0) s ∧ StW μ' 25 s ∧ StM μ' 124 0 s) : Sh μ' μ' := by
  obtain ⟨-, -, h3, ⟨n, f, r1, r2⟩, ⟨q, q1, q2⟩, ⟨c, g, g1, g2⟩, v, v1, v2⟩ := h
  have ng : ∀ o i, ¬ GT o i → μ' o i = μ o i := fun o i hn => e o i (fun k => hn (hF o i k))
  refine ⟨hK, hs, fun i i0 i1 => ?_, ⟨n, f, r1.cg (fun i => ng _ _ (by unfold GT; omega)) (ng _ _ (by unfold GT; omega)), r2.cg (fun i i0 i1 => ng _ _ (by unfold GT; omega)) (ng _ _ (by unfold GT; omega))⟩, ⟨q, q1.cg (fun i => ng _ _ (by unfold GT; omega)), q2.cg (fun i i0 i1 => ng _ _ (by unfold GT; omega))⟩, ⟨c, g, g1.cg (fun i => ng _ _ (by unfold GT; omega)) (ng _ _ (by unfold GT; omega)), g2.cg (fun i i0 i1 => ng _ _ (by unfold GT; omega)) (ng _ _ (by unfold GT; omega))⟩, v, v1.cg (fun i => ng _ _ (by unfold GT; omega)), v2.cg (fun i i0 i1 => ng _ _ (by unfold GT; omega))⟩
  rw [ng 58 i (by unfold GT; omega), ng 127 i (by unfold GT; omega)]
  exact h3 i i0 i1
theorem Inv.nt (hI : Inv μ) (e : Ep F μ μ') (hF : ∀ o i, F o i → GT o i) (hS : Sh μ' μ') (hP : Pt μ') (h1 : μ' 1 1 = 0) (h8 : μ' 123 8 = 0) (hL : Fl μ') : Inv μ' := by
  have ng : ∀ o i, ¬ GT o i → μ' o i = μ o i := fun o i hn => e o i (fun k => hn (hF o i k))
  exact ⟨hS, hP, hI.2.2.1.cg (fun o i h0 h1 => ng _ _ (by unfold GT; omega)), ⟨0, fun _ => 0, h1, h8, Int.le_refl _, by decide, fun i i0 i1 => by omega⟩, hL, hI.2.2.2.2.2.1.cg (fun o i h => ng _ _ (by unfold GT; omega)), hI.2.2.2.2.2.2.cg (fun o i h => ng _ _ (by unfold GT; omega))⟩
theorem LM.lo (h : LM μ n D l) (n1 : n ≤ 16) (l1 : l.length ≤ 400) (e : ∀ o i, (o = 130 ∧ i = 0) ∨ (131 ≤ o ∧ o ≤ 134 ∧ 0 ≤ i ∧ i < 16) ∨ ((o = 135 ∨ o = 136) ∧ 0 ≤ i ∧ i < 400) → μ' o i = μ o i) : LM μ' n D l :=
  ⟨by rw [e 130 0 (by omega)]; exact h.1, fun i i0 i1 => by rw [e 131 _ (by omega), e 132 _ (by omega), e 133 _ (by omega), e 134 _ (by omega)]; exact h.2.1 i i0 i1, coM_c _ _ (fun j j0 j1 => ⟨e 135 _ (by omega), e 136 _ (by omega)⟩) h.2.2⟩
theorem WM.lo {q b : Int} (h : WM μ q b c L X) (e : ∀ o i, (o = 123 ∧ i = q) ∨ (o = 138 ∧ b ≤ i ∧ i < b + 16) ∨ (o = 139 ∧ 8 * b ≤ i ∧ i < 8 * b + 128) → μ' o i = μ o i) : WM μ' q b c L X := by
  have c16 := h.2.2.1
  refine ⟨by rw [e 123 q (by omega)]; exact h.1, h.2.1, h.2.2.1, fun i i0 i1 => ?_, fun i k i0 i1 k0 k1 => ?_⟩
  · rw [e 138 _ (by omega)]; exact h.2.2.2.1 i i0 i1
  · have := (h.2.2.2.1 i i0 i1).2
    rw [e 139 _ (by omega)]; exact h.2.2.2.2 i k i0 i1 k0 k1
/-- what was wrong, on both sides: nothing is taken -/
theorem nt_n {f : Flt} (hI : Inv μ) (h1 : NW f μ μ1) (h2 : NM f μ1 μ') : Inv μ' := by
  obtain ⟨a1, a2, a3, a4⟩ := h1
  obtain ⟨b1, b2, b3, b4⟩ := h2
  have e : Ep (fun o i => W0 o i ∨ R0 o i) μ μ' := (a1.mono (fun o i => Or.inl)).tr (b1.mono (fun o i => Or.inr))
  have kp : ∀ {i : Int}, μ' 1 i = μ1 1 i := b1 _ _ (by unfold R0; omega)
  refine hI.nt e (fun o i h => by unfold W0 R0 at h; unfold GT; omega) (hI.1.cg (fun o i h => e _ _ (by unfold supW at h; unfold W0 R0; omega)) (fun o i h => e _ _ (by unfold supM kmS at h; unfold W0 R0; omega))) (hI.2.1.cg (fun o i h => e _ _ (by unfold W0 R0; omega)) (e _ _ (by unfold W0 R0; omega))) (by rw [kp]; exact a2) b2 ⟨by rw [kp, a3, b3], by rw [kp, a4, b4]⟩
theorem Fl_i {S R : Nat → Int → Prop} (h1 : YW S μ μ1) (h2 : YM R μ1 μ') (hR : ∀ i, ¬ R 1 i) : μ' 1 1 = 0 ∧ μ' 123 8 = 0 ∧ Fl μ' := by
  have kp : ∀ {i : Int}, μ' 1 i = μ1 1 i := h2.1 _ _ (fun k => k.elim (fun k => by unfold R0 at k; omega) (hR _))
  exact ⟨by rw [kp]; exact h1.2.1, h2.2.1, by rw [kp, h1.2.2.1, h2.2.2.1], by rw [kp, h1.2.2.2, h2.2.2.2]⟩
theorem YE {S R : Nat → Int → Prop} (h1 : YW S μ μ1) (h2 : YM R μ1 μ') : Ep (fun o i => W0 o i ∨ S o i ∨ R0 o i ∨ R o i) μ μ' :=
  (h1.1.mono (fun o i h => h.elim Or.inl (fun h => Or.inr (Or.inl h)))).tr (h2.1.mono (fun o i h => Or.inr (Or.inr h)))
theorem Pt.none (hI : Inv μ) (e : ∀ o i, (o = 100 ∧ i = 1) ∨ (102 ≤ o ∧ o < 120) ∨ o = 125 → μ' o i = μ o i) (h2 : μ' 100 2 = 0) (h3 : μ' 123 3 = 0) : Pt μ' := by
  obtain ⟨u, nx, R, ⟨a1, a2, a3, a4, a5⟩, h4, h5⟩ := hI.2.1
  exact ⟨0, nx, R, ⟨h2, by rw [e _ _ (by omega)]; exact a2, by omega, a4, fun j hj => absurd hj (Nat.not_lt_zero _)⟩, ⟨h3, fun j hj => absurd hj (Nat.not_lt_zero _)⟩, fun j hj => absurd hj (Nat.not_lt_zero _)⟩
theorem o6 {a : Int} (hd : 20 ≤ d) (ha : inR a) (hI : Inv μ) : OP E d 118 204 [.inl a] μ := by
  obtain ⟨n, T, h1, h2, h3, h4, h5⟩ := hI.2.2.2.1
  have hT : TaW μ n T := ⟨h1, fun i i0 i1 => (h5 i i0 i1).1⟩
  have hB : TB n T := ⟨h3, h4, fun i i0 i1 => (h5 i i0 i1).2.2⟩
  have tm : ∀ {μ1 : Mm} {S : Nat → Int → Prop}, Ep S μ μ1 → (∀ o i, 123 ≤ o → ¬ S o i) → TaM μ1 n T ∧ WD μ1 := fun e hs => ⟨⟨by rw [e _ _ (hs _ _ (by decide))]; exact h2, fun i i0 i1 => by rw [e _ _ (hs _ _ (by decide))]; exact (h5 i i0 i1).2.1⟩, fun i hi => by rw [e _ _ (hs _ _ (by decide))]; exact hI.2.2.2.2.2.2.2 i hi⟩
  obtain ⟨K, ok, k2, k3⟩ := hI.1.1
  obtain ⟨s, s1, s2, s3, s4⟩ := hI.1.2.1
  have e36 : μ 36 0 = jc K := k2.2.1.1
  obtain ⟨m1, m2, m3, m4, m5, m6⟩ := k3
  obtain ⟨w1, w2, w3, w4, w5, w6⟩ := k2
  obtain ⟨o1, o2, o3, o4, o5, o6, o7⟩ := ok
  by_cases g0 : a = 0
  · subst g0
    refine c0_118 (by omega) hT hB (fun c D l hO μ1 y1 L1 ok1 => ?_) (fun f hO μ1 n1 => ?_)
    · obtain ⟨t1, t2⟩ := tm y1.1 (fun o i h => by unfold W0 XL; omega)
      refine r0_204 (by omega) t1 hB t2 (fun c' D' l' hO' μ2 y2 L2 => ?_) (fun f hO' => by rw [hO] at hO'; cases hO')
      rw [hO] at hO'
      cases hO'
      have e := YE y1 y2
      obtain ⟨f1, f2, f3⟩ := Fl_i y1 y2 (fun i => by unfold RL; omega)
      refine ⟨rfl, hI.nt e (fun o i h => by unfold W0 XL R0 RL at h; unfold GT; omega) (hI.1.nk e (fun o i h => by unfold W0 XL R0 RL at h; unfold GT; omega) ⟨((c, coD D, l), K.2), ⟨ok1, o2, o3, o4, o5, o6, o7⟩, ⟨L1.ep y2.1 (fun k i hk => by unfold R0 RL; omega), w2.ep e (fun k i hk => by unfold W0 XL R0 RL; omega), fun i i0 i1 => by rw [e _ _ (by unfold W0 XL R0 RL; omega)]; exact w3 i i0 i1, w4.ep e (fun k i hk => by unfold W0 XL R0 RL; omega), by rw [e _ _ (by unfold W0 XL R0 RL; omega)]; exact w5, fun i i0 i1 => ?_⟩, ⟨L2, m2.lo (fun o i h => e _ _ (by unfold W0 XL R0 RL; omega)), fun i i0 i1 => ?_, m4.lo (fun o i h => e _ _ (by unfold W0 XL R0 RL; omega)), by rw [e _ _ (by unfold W0 XL R0 RL; omega)]; exact m5, fun i i0 i1 => ?_⟩⟩ ⟨s, s1, by rw [e _ _ (by unfold W0 XL R0 RL; omega)]; exact s2, s3.cg (fun k i hk => e _ _ (by unfold W0 XL R0 RL; omega)), s4.cg (fun i i0 i1 => e _ _ (by unfold W0 XL R0 RL; omega))⟩) (hI.2.1.cg (fun o i h => e _ _ (by unfold W0 XL R0 RL; omega)) (e _ _ (by unfold W0 XL R0 RL; omega))) f1 f2 f3⟩
      · rw [e 45 _ (by unfold W0 XL R0 RL; omega), e 46 _ (by unfold W0 XL R0 RL; omega), e 47 _ (by unfold W0 XL R0 RL; omega), e 48 _ (by unfold W0 XL R0 RL; omega)]; exact w6 i i0 i1
      · have i1 : i < jc K := i1
        have := o2.2.1
        rw [e 140 _ (by unfold W0 XL R0 RL; omega)]; exact m3 i i0 i1
      · have i1 : i < cc K := i1
        rw [e 141 _ (by unfold W0 XL R0 RL; omega), e 141 _ (by unfold W0 XL R0 RL; omega), e 141 _ (by unfold W0 XL R0 RL; omega), e 141 _ (by unfold W0 XL R0 RL; omega)]; exact m6 i i0 i1
    · obtain ⟨t1, t2⟩ := tm n1.1 (fun o i h => by unfold W0; omega)
      exact r0_204 (by omega) t1 hB t2 (fun c' D' l' hO' => by rw [hO] at hO'; cases hO') (fun f' hO' μ2 n2 => by
        rw [hO] at hO'
        cases hO'
        exact ⟨rfl, nt_n hI n1 n2⟩)
  by_cases g1 : a = 1
  · subst g1
    refine c1_118 (by omega) hT hB (fun c D hO c0 c16 hD μ1 y1 x36 x25 x100 x3 => ?_) (fun f hO μ1 n1 => ?_)
    · obtain ⟨t1, t2⟩ := tm y1.1 (fun o i h => by unfold W0 XJ; omega)
      refine r1_204 (by omega) t1 hB t2 (fun c' D' hO' μ2 y2 z31 z7 z3 z4 => ?_) (fun f hO' => by rw [hO] at hO'; cases hO')
      rw [hO] at hO'
      cases hO'
      have e := YE y1 y2
      have e2 := y2.1
      obtain ⟨f1, f2, f3⟩ := Fl_i y1 y2 (fun i => by unfold RJ; omega)
      have ln : ∀ i, 0 ≤ i → i < c → 0 ≤ (D i).2.2 ∧ (D i).2.2 ≤ 8 ∧ ∀ k, 0 ≤ k → k < (D i).2.2 → 0 ≤ T ((D i).2.1 + k) - 97 ∧ T ((D i).2.1 + k) - 97 ≤ 9 := fun i i0 i1 => by
        obtain ⟨p1, p2, p3, p4, p5, p6, p7⟩ := hD i i0 i1
        refine ⟨by omega, p5, fun k k0 k1 => ?_⟩
        have := p7 ((D i).2.1 + k) (by omega) (by omega)
        omega
      have nm : ∀ o i, 25 ≤ o → o ≤ 100 → ¬ (R0 o i ∨ RJ o i) := fun o i h0 h1 => by unfold R0 RJ; omega
      have y36 : μ2 36 0 = c := by rw [e2 _ _ (nm _ _ (by decide) (by decide))]; exact x36
      refine ⟨rfl, hI.nt e (fun o i h => by unfold W0 XJ R0 RJ at h; unfold GT; omega) (hI.1.nk e (fun o i h => by unfold W0 XJ R0 RJ at h; unfold GT; omega) ⟨(K.1, (c, (fun i => (D i).2.2), (fun i k => T ((D i).2.1 + k) - 97), fun i => (D i).1), K.2.2), ⟨o1, ⟨c0, c16, fun i i0 i1 => ⟨(hD i i0 i1).2.2.2.1, (ln i i0 i1).2.1⟩, fun i k i0 i1 k0 k1 => (ln i i0 i1).2.2 k k0 k1⟩, fun i i0 i1 => ⟨(hD i i0 i1).1, (hD i i0 i1).2.1⟩, o4, o5, o6, o7⟩, ⟨w1.ep e (fun k i hk => by unfold W0 XJ R0 RJ; omega), ⟨y36, c0, c16, fun i i0 i1 => ⟨?_, (ln i i0 i1).1, (ln i i0 i1).2.1⟩, fun i k i0 i1 k0 k1 => ⟨?_, (ln i i0 i1).2.2 k k0 k1⟩⟩, fun i i0 i1 => ?_, w4.ep e (fun k i hk => by unfold W0 XJ R0 RJ; omega), by rw [e _ _ (by unfold W0 XJ R0 RJ; omega)]; exact w5, fun i i0 i1 => ?_⟩, ⟨m1.lo o1.2.1 o1.2.2.1 (fun o i h => e _ _ (by unfold W0 XJ R0 RJ; omega)), ⟨z31, c0, c16, fun i i0 i1 => ⟨?_, (ln i i0 i1).1, (ln i i0 i1).2.1⟩, fun i k i0 i1 k0 k1 => ⟨?_, (ln i i0 i1).2.2 k k0 k1⟩⟩, fun i i0 i1 => (z4 i i0 i1).2.2, m4.lo (fun o i h => e _ _ (by unfold W0 XJ R0 RJ; omega)), by rw [e _ _ (by unfold W0 XJ R0 RJ; omega)]; exact m5, fun i i0 i1 => ?_⟩⟩ ⟨ud s 7 0, ?_, ?_, ?_, ?_⟩) (Pt.none hI (fun o i h => e _ _ (by unfold W0 XJ R0 RJ; omega)) (by rw [e2 _ _ (nm _ _ (by decide) (by decide))]; exact x100) z3) f1 f2 f3⟩
      · rw [e2 _ _ (nm _ _ (by decide) (by decide))]; exact (x3 i i0 i1).2.1
      · rw [e2 _ _ (nm _ _ (by decide) (by decide))]; exact (x3 i i0 i1).2.2 k k0 k1
      · rw [e2 _ _ (nm _ _ (by decide) (by decide))]; exact (x3 i i0 i1).1
      · rw [e 45 _ (by unfold W0 XJ R0 RJ; omega), e 46 _ (by unfold W0 XJ R0 RJ; omega), e 47 _ (by unfold W0 XJ R0 RJ; omega), e 48 _ (by unfold W0 XJ R0 RJ; omega)]; exact w6 i i0 i1
      · rw [Int.zero_add]; exact (z4 i i0 i1).1
      · rw [Int.zero_add]; exact (z4 i i0 i1).2.1 k k0 k1
      · have i1 : i < cc K := i1
        rw [e 141 _ (by unfold W0 XJ R0 RJ; omega), e 141 _ (by unfold W0 XJ R0 RJ; omega), e 141 _ (by unfold W0 XJ R0 RJ; omega), e 141 _ (by unfold W0 XJ R0 RJ; omega)]; exact m6 i i0 i1
      · obtain ⟨b1, b2, b3, b4, b5⟩ := s1
        refine ⟨by rw [ud_n (by decide)]; exact b1, by rw [ud_n (by decide)]; exact b2, by rw [ud_n (by decide)]; exact b3, by rw [ud_s]; exact ⟨by decide, by decide⟩, fun i i0 i1 => by rw [ud_n (by omega)]; exact b5 i i0 i1⟩
      · refine ⟨by rw [ud_n (by decide)]; exact s2.1, ?_⟩
        rw [ud_s]
        have := Nat.two_pow_pos (μ2 36 0).toNat
        omega
      · refine (StW.fl (v := 0) (w := 0) s3 (by omega : ((2 : Int) = 7 ∧ (7 : Int) = 0 ∧ (0 : Int) = 0) ∨ _)).cg (fun k i hk => ?_)
        by_cases q : k = 0 ∧ i = 2
        · obtain ⟨rfl, rfl⟩ := q
          rw [mu_s, e2 _ _ (nm _ _ (by decide) (by decide))]
          exact x25
        · have : mu μ 25 2 0 (25 + k) i = μ (25 + k) i := by
            by_cases q2 : k = 0
            · subst q2
              exact mu_i (by omega)
            · exact mu_o (by omega)
          rw [this]
          exact e _ _ (by unfold W0 XJ R0 RJ; omega)
      · refine (s4.mu (i := 7) (v := 0)).cg (fun i i0 i1 => ?_)
        by_cases q : i = 7
        · rw [q, mu_s]; exact z7
        · rw [mu_i q]
          exact e _ _ (by unfold W0 XJ R0 RJ; omega)
    · obtain ⟨t1, t2⟩ := tm n1.1 (fun o i h => by unfold W0; omega)
      exact r1_204 (by omega) t1 hB t2 (fun c' D' hO' => by rw [hO] at hO'; cases hO') (fun f' hO' μ2 n2 => by
        rw [hO] at hO'
        cases hO'
        exact ⟨rfl, nt_n hI n1 n2⟩)
  by_cases g2 : a = 2
  · subst g2
    refine c2_118 (by omega) hT hB (fun c D hO c0 c16 hD μ1 y1 x40 x100 x3 => ?_) (fun f hO μ1 n1 => ?_)
    · obtain ⟨t1, t2⟩ := tm y1.1 (fun o i h => by unfold W0 XB; omega)
      refine r2_204 (by omega) t1 hB t2 (fun c' D' hO' μ2 y2 z32 z3 z4 => ?_) (fun f hO' => by rw [hO] at hO'; cases hO')
      rw [hO] at hO'
      cases hO'
      have e := YE y1 y2
      have e2 := y2.1
      obtain ⟨f1, f2, f3⟩ := Fl_i y1 y2 (fun i => by unfold RB; omega)
      have ln : ∀ i, 0 ≤ i → i < c → 0 ≤ (D i).2.2 ∧ (D i).2.2 ≤ 8 ∧ ∀ k, 0 ≤ k → k < (D i).2.2 → 0 ≤ T ((D i).2.1 + k) - 97 ∧ T ((D i).2.1 + k) - 97 ≤ 9 := fun i i0 i1 => by
        obtain ⟨p1, p2, p3, p4, p5, p6, p7⟩ := hD i i0 i1
        refine ⟨by omega, p5, fun k k0 k1 => ?_⟩
        have := p7 ((D i).2.1 + k) (by omega) (by omega)
        omega
      have nm : ∀ o i, 25 ≤ o → o ≤ 100 → ¬ (R0 o i ∨ RB o i) := fun o i h0 h1 => by unfold R0 RB; omega
      refine ⟨rfl, hI.nt e (fun o i h => by unfold W0 XB R0 RB at h; unfold GT; omega) (hI.1.nk e (fun o i h => by unfold W0 XB R0 RB at h; unfold GT; omega) ⟨(K.1, K.2.1, (c, (fun i => (D i).2.2), (fun i k => T ((D i).2.1 + k) - 97)), K.2.2.2), ⟨o1, o2, o3, ⟨c0, c16, fun i i0 i1 => ⟨(hD i i0 i1).2.2.2.1, (ln i i0 i1).2.1⟩, fun i k i0 i1 k0 k1 => (ln i i0 i1).2.2 k k0 k1⟩, o5, o6, o7⟩, ⟨w1.ep e (fun k i hk => by unfold W0 XB R0 RB; omega), w2.ep e (fun k i hk => by unfold W0 XB R0 RB; omega), fun i i0 i1 => by rw [e _ _ (by unfold W0 XB R0 RB; omega)]; exact w3 i i0 i1, ⟨by rw [e2 _ _ (nm _ _ (by decide) (by decide))]; exact x40, c0, c16, fun i i0 i1 => ⟨?_, (ln i i0 i1).1, (ln i i0 i1).2.1⟩, fun i k i0 i1 k0 k1 => ⟨?_, (ln i i0 i1).2.2 k k0 k1⟩⟩, by rw [e _ _ (by unfold W0 XB R0 RB; omega)]; exact w5, fun i i0 i1 => ?_⟩, ⟨m1.lo o1.2.1 o1.2.2.1 (fun o i h => e _ _ (by unfold W0 XB R0 RB; omega)), m2.lo (fun o i h => e _ _ (by unfold W0 XB R0 RB; omega)), fun i i0 i1 => ?_, ⟨z32, c0, c16, fun i i0 i1 => ⟨(z4 i i0 i1).1, (ln i i0 i1).1, (ln i i0 i1).2.1⟩, fun i k i0 i1 k0 k1 => ⟨(z4 i i0 i1).2 k k0 k1, (ln i i0 i1).2.2 k k0 k1⟩⟩, by rw [e _ _ (by unfold W0 XB R0 RB; omega)]; exact m5, fun i i0 i1 => ?_⟩⟩ ⟨s, s1, by rw [e _ _ (by unfold W0 XB R0 RB; omega)]; exact s2, s3.cg (fun k i hk => e _ _ (by unfold W0 XB R0 RB; omega)), s4.cg (fun i i0 i1 => e _ _ (by unfold W0 XB R0 RB; omega))⟩) (Pt.none hI (fun o i h => e _ _ (by unfold W0 XB R0 RB; omega)) (by rw [e2 _ _ (nm _ _ (by decide) (by decide))]; exact x100) z3) f1 f2 f3⟩
      · rw [e2 _ _ (nm _ _ (by decide) (by decide))]; exact (x3 i i0 i1).1
      · rw [e2 _ _ (nm _ _ (by decide) (by decide))]; exact (x3 i i0 i1).2 k k0 k1
      · rw [e 45 _ (by unfold W0 XB R0 RB; omega), e 46 _ (by unfold W0 XB R0 RB; omega), e 47 _ (by unfold W0 XB R0 RB; omega), e 48 _ (by unfold W0 XB R0 RB; omega)]; exact w6 i i0 i1
      · have i1 : i < jc K := i1
        have := o2.2.1
        rw [e 140 _ (by unfold W0 XB R0 RB; omega)]; exact m3 i i0 i1
      · have i1 : i < cc K := i1
        rw [e 141 _ (by unfold W0 XB R0 RB; omega), e 141 _ (by unfold W0 XB R0 RB; omega), e 141 _ (by unfold W0 XB R0 RB; omega), e 141 _ (by unfold W0 XB R0 RB; omega)]; exact m6 i i0 i1
    · obtain ⟨t1, t2⟩ := tm n1.1 (fun o i h => by unfold W0; omega)
      exact r2_204 (by omega) t1 hB t2 (fun c' D' hO' => by rw [hO] at hO'; cases hO') (fun f' hO' μ2 n2 => by
        rw [hO] at hO'
        cases hO'
        exact ⟨rfl, nt_n hI n1 n2⟩)
  by_cases g3 : a = 3
  · subst g3
    refine c3_118 (by omega) hT hB (fun c D hO c0 c16 hD μ1 y1 x44 x100 x3 => ?_) (fun f hO μ1 n1 => ?_)
    · obtain ⟨t1, t2⟩ := tm y1.1 (fun o i h => by unfold W0 XC; omega)
      refine r3_204 (by omega) t1 hB t2 (fun c' D' hO' μ2 y2 z36 z3 z4 => ?_) (fun f hO' => by rw [hO] at hO'; cases hO')
      rw [hO] at hO'
      cases hO'
      have e := YE y1 y2
      have e2 := y2.1
      obtain ⟨f1, f2, f3⟩ := Fl_i y1 y2 (fun i => by unfold RC; omega)
      have nm : ∀ o i, 25 ≤ o → o ≤ 100 → ¬ (R0 o i ∨ RC o i) := fun o i h0 h1 => by unfold R0 RC; omega
      refine ⟨rfl, hI.nt e (fun o i h => by unfold W0 XC R0 RC at h; unfold GT; omega) (hI.1.nk e (fun o i h => by unfold W0 XC R0 RC at h; unfold GT; omega) ⟨(K.1, K.2.1, K.2.2.1, (c, coD D)), ⟨o1, o2, o3, o4, c0, c16, fun i i0 i1 => ?_⟩, ⟨w1.ep e (fun k i hk => by unfold W0 XC R0 RC; omega), w2.ep e (fun k i hk => by unfold W0 XC R0 RC; omega), fun i i0 i1 => by rw [e _ _ (by unfold W0 XC R0 RC; omega)]; exact w3 i i0 i1, w4.ep e (fun k i hk => by unfold W0 XC R0 RC; omega), by rw [e2 _ _ (nm _ _ (by decide) (by decide))]; exact x44, fun i i0 i1 => ?_⟩, ⟨m1.lo o1.2.1 o1.2.2.1 (fun o i h => e _ _ (by unfold W0 XC R0 RC; omega)), m2.lo (fun o i h => e _ _ (by unfold W0 XC R0 RC; omega)), fun i i0 i1 => ?_, m4.lo (fun o i h => e _ _ (by unfold W0 XC R0 RC; omega)), z36, fun i i0 i1 => ?_⟩⟩ ⟨s, s1, by rw [e _ _ (by unfold W0 XC R0 RC; omega)]; exact s2, s3.cg (fun k i hk => e _ _ (by unfold W0 XC R0 RC; omega)), s4.cg (fun i i0 i1 => e _ _ (by unfold W0 XC R0 RC; omega))⟩) (Pt.none hI (fun o i h => e _ _ (by unfold W0 XC R0 RC; omega)) (by rw [e2 _ _ (nm _ _ (by decide) (by decide))]; exact x100) z3) f1 f2 f3⟩
      · have h := hD i i0 i1
        show (0 ≤ coD D 0 i ∧ coD D 0 i ≤ 999) ∧ (0 ≤ coD D 1 i ∧ coD D 1 i ≤ 3) ∧ (0 ≤ coD D 2 i ∧ coD D 2 i ≤ 9) ∧ (0 ≤ coD D 3 i ∧ coD D 3 i ≤ 50) ∧ (2 ≤ coD D 1 i → coD D 3 i ≤ 9)
        rw [coD_0, coD_1, coD_2, coD_3]
        exact ⟨⟨h.1, h.2.1⟩, ⟨h.2.2.1, h.2.2.2.1⟩, ⟨h.2.2.2.2.1, h.2.2.2.2.2.1⟩, ⟨h.2.2.2.2.2.2.1, h.2.2.2.2.2.2.2.1⟩, h.2.2.2.2.2.2.2.2⟩
      · show μ2 45 i = coD D 0 i ∧ μ2 46 i = coD D 1 i + 1 ∧ μ2 47 i = coD D 2 i ∧ μ2 48 i = coD D 3 i
        rw [coD_0, coD_1, coD_2, coD_3, e2 45 _ (nm _ _ (by decide) (by decide)), e2 46 _ (nm _ _ (by decide) (by decide)), e2 47 _ (nm _ _ (by decide) (by decide)), e2 48 _ (nm _ _ (by decide) (by decide))]
        exact x3 i i0 i1
      · have i1 : i < jc K := i1
        have := o2.2.1
        rw [e 140 _ (by unfold W0 XC R0 RC; omega)]; exact m3 i i0 i1
      · show μ2 141 (4 * i) = coD D 0 i ∧ μ2 141 (4 * i + 1) = coD D 1 i ∧ μ2 141 (4 * i + 2) = coD D 2 i ∧ μ2 141 (4 * i + 3) = coD D 3 i
        rw [coD_0, coD_1, coD_2, coD_3]
        exact z4 i i0 i1
    · obtain ⟨t1, t2⟩ := tm n1.1 (fun o i h => by unfold W0; omega)
      exact r3_204 (by omega) t1 hB t2 (fun c' D' hO' => by rw [hO] at hO'; cases hO') (fun f' hO' μ2 n2 => by
        rw [hO] at hO'
        cases hO'
        exact ⟨rfl, nt_n hI n1 n2⟩)
  refine cx_118 (by omega) ha (by omega) (fun μ1 a1 a2 a3 a4 => rx_204 (by omega) ha (by omega) (fun μ2 b1 b2 b3 b4 => ⟨rfl, nt_n (f := (0, -1)) hI ⟨a1, a2, a3, a4⟩ ⟨b1, b2, b3, b4⟩⟩))
end S77
