/-! JOBS and THE SMALL BOOK as the class reads them -/
def S14l (l : Int) : Nat → Int → Prop := fun o i => Rd o i ∨ (o = 15 ∧ i = l) ∨ (o = 16 ∧ i = l) ∨ (o = 17 ∧ 8 * l ≤ i ∧ i < 8 * l + 8)
def S14 : Nat → Int → Prop := fun o i => Rd o i ∨ (14 ≤ o ∧ o ≤ 17)
/-- lines as the class keeps them in its draft, as the reference does -/
def lw1 (T : Int → Int) (μ : Mm) (l : Int) (x : Int × Int × Int) : Prop := μ 15 l = x.1 ∧ μ 16 l = x.2.2 ∧ ∀ c, 0 ≤ c → c < x.2.2 → μ 17 (8 * l + c) = T (x.2.1 + c) - 97
section S60
variable {E : En} {d : Nat} {Φ : Option AV → Mm → Prop} {μ μ' : Mm} {n p q : Int} {T : Int → Int} {k : Nat} {f : Flt}
theorem Rd_l {l : Int} {o : Nat} {i : Int} (h : Rd o i) : S14l l o i := Or.inl h
theorem lw1.ep {S : Nat → Int → Prop} {l : Int} {x : Int × Int × Int} (h : lw1 T μ l x) (e : Ep S μ μ') (h0 : ¬ S 15 l) (h1 : ¬ S 16 l) (h2 : ∀ c, 0 ≤ c → c < x.2.2 → ¬ S 17 (8 * l + c)) : lw1 T μ' l x :=
  ⟨by rw [e _ _ h0]; exact h.1, by rw [e _ _ h1]; exact h.2.1, fun c c0 c1 => by rw [e _ _ (h2 c c0 c1)]; exact h.2.2 c c0 c1⟩
/-- the letters of a line -/
theorem g102 {l a w : Int} (hd : 2 ≤ d) (hB : TB n T) (l0 : 0 ≤ l) (l1 : l < 16) (hv : ∀ (x4 : Int) (μ1 : Mm), ((inR x4 ∧ (inR (μ1 1 11)) ∧ ((μ1 1 11) ≤ x4 → (Φ (some (.inl 1)) μ1)) ∧ (x4 < (μ1 1 11) → inR x4 ∧ (8 ≤ x4 → (Φ (some (.inl 1)) μ1)) ∧ (x4 < 8 → (Ct E (d - 1) 58 [.inr 1, .inl x4] μ1 (rI (fun z2 μ2 => (0 ≤ (l * 8) + x4 ∧ (l * 8) + x4 < 128) ∧ (G E d 102 Φ 39 [some (.inr 14), some (.inr 1), some (.inl l), none, some (.inl (x4 + 1))] [] (mu μ2 17 ((l * 8) + x4) z2))))))))) → G E d 102 Φ 39 [some (.inr 14), some (.inr 1), some (.inl l), none, some (.inl x4)] [] μ1) (hR : CR k n T μ p) (h10 : μ 1 10 = a) (h11 : μ 1 11 = w) (a0 : 0 ≤ a) (w1 : 1 ≤ w) (w8 : w ≤ 8) (an : a + w ≤ n) (h : ∀ μ', Ep (fun o i => o = 17 ∧ 8 * l ≤ i ∧ i < 8 * l + 8) μ μ' → (∀ c, 0 ≤ c → c < w → μ' 17 (8 * l + c) = T (a + c) - 97) → Φ (some (.inl 1)) μ') : G E d 102 Φ 39 [some (.inr 14), some (.inr 1), some (.inl l), none, some (.inl 0)] [] μ := by
  have key : ∀ (r : Nat) (c : Int) (μ1 : Mm), (w - c).toNat = r → 0 ≤ c → c ≤ w → Ep (fun o i => o = 17 ∧ 8 * l ≤ i ∧ i < 8 * l + 8) μ μ1 → (∀ i, 0 ≤ i → i < c → μ1 17 (8 * l + i) = T (a + i) - 97) → G E d 102 Φ 39 [some (.inr 14), some (.inr 1), some (.inl l), none, some (.inl c)] [] μ1 := by
    intro r
    induction r with
    | zero =>
      intro c μ1 hr c0 c1 e1 h1
      have v11 : μ1 1 11 = w := by rw [e1 _ _ (by omega)]; exact h11
      refine hv c μ1 ?_
      rw [v11]
      exact ⟨inR_of (by omega) (by omega), inR_of (by omega) (by omega), fun _ => h _ e1 (fun i i0 i1 => h1 i i0 (by omega)), fun g => by omega⟩
    | succ r ih =>
      intro c μ1 hr c0 c1 e1 h1
      have v11 : μ1 1 11 = w := by rw [e1 _ _ (by omega)]; exact h11
      have v10 : μ1 1 10 = a := by rw [e1 _ _ (by omega)]; exact h10
      have hR1 := hR.ep e1 (fun o i k => by omega)
      refine hv c μ1 ?_
      rw [v11]
      refine ⟨inR_of (by omega) (by omega), inR_of (by omega) (by omega), fun g => by omega, fun _ => ⟨inR_of (by omega) (by omega), fun g => by omega, fun _ => t_58 (by omega) hR1.1 hB v10 a0 c0 (by omega) ⟨⟨by omega, by omega⟩, ?_⟩⟩⟩
      refine ih (c + 1) _ (by omega) (by omega) (by omega) (e1.mu (by omega)) (fun i i0 i1 => ?_)
      rw [show l * 8 = 8 * l by omega]
      by_cases gi : i = c
      · rw [gi, mu_s]
      · rw [mu_i (by omega)]
        exact h1 i i0 (by omega)
  exact key w.toNat 0 μ (by omega) (by omega) (by omega) Ep.rf (fun i i0 i1 => by omega)
theorem w102 {l dt p1 dy q1 : Int} {μ1 : Mm} {dv : Mm → Int} (hd : 4 ≤ d) (hk : k < 4) (hB : TB n T) (l0 : 0 ≤ l) (l1 : l < 16) (hv : ∀ (x4 : Int) (μ1 : Mm), ((inR x4 ∧ (inR (μ1 1 11)) ∧ ((μ1 1 11) ≤ x4 → (Φ (some (.inl 1)) μ1)) ∧ (x4 < (μ1 1 11) → inR x4 ∧ (8 ≤ x4 → (Φ (some (.inl 1)) μ1)) ∧ (x4 < 8 → (Ct E (d - 1) 58 [.inr 1, .inl x4] μ1 (rI (fun z2 μ2 => (0 ≤ (l * 8) + x4 ∧ (l * 8) + x4 < 128) ∧ (G E d 102 Φ 39 [some (.inr 14), some (.inr 1), some (.inl l), none, some (.inl (x4 + 1))] [] (mu μ2 17 ((l * 8) + x4) z2))))))))) → G E d 102 Φ 39 [some (.inr 14), some (.inr 1), some (.inl l), none, some (.inl x4)] [] μ1) (e1 : pMa k n T 128 p = .ok p1) (e2 : pDy k n T dt p1 = .ok (dy, q1)) (ep1 : Ep Rd μ μ1) (c1 : CR k n T μ1 q1) (hp0 : 0 ≤ p) (hp1 : p ≤ n) (hdv : ∀ μ2, μ2 1 9 = μ1 1 9 → dv μ2 = dy) (hy : ∀ x q, pLn k n T dt p = .ok (x, q) → ∀ μ', Ep (S14l l) μ μ' → CR k n T μ' q → lw1 T μ' l x → Φ (some (.inl 1)) μ') (hn : ∀ f, pLn k n T dt p = .error f → ∀ μ', Ef (S14l l) μ μ' → CF f μ' → Φ (some (.inl 0)) μ') : Ct E (d - 1) 57 [.inr 1, .inl 8] μ1 (rI (fun z4 μ3 => inR z4 ∧ (z4 = 0 → (Φ (some (.inl 0)) μ3)) ∧ (z4 ≠ 0 → (Ct E (d - 1) 52 [.inr 1, .inl 59] μ3 (rI (fun z6 μ5 => inR z6 ∧ (z6 ≠ 0 → ((0 ≤ l ∧ l < 16) ∧ ((0 ≤ l ∧ l < 16) ∧ (G E d 102 Φ 39 [some (.inr 14), some (.inr 1), some (.inl l), none, some (.inl 0)] [] (mu (mu μ5 15 l (dv μ5)) 16 l (μ5 1 11)))))) ∧ (z6 = 0 → (Φ (some (.inl 0)) μ5)))))))) := by
  have z01 : inR (0 : Int) ∧ inR (1 : Int) := ⟨inR_of (by decide) (by decide), inR_of (by decide) (by decide)⟩
  have hl : pLn k n T dt p = (pWo k n T 8 q1).bind fun y => (pMa k n T 59 y.2).bind fun p4 => .ok ((dy, y.1.1, y.1.2), p4) := by
    unfold pLn
    rw [e1]
    show ((pDy k n T dt p1).bind fun x => (pWo k n T 8 x.2).bind fun y => (pMa k n T 59 y.2).bind fun p4 => Except.ok ((x.1, y.1.1, y.1.2), p4)) = _
    rw [e2]
    rfl
  refine u_57 (by omega) hk hB (inR_of (by decide) (by decide)) c1 (fun x q2 h3 μ3 ep3 c3 v10 v11 => ⟨z01.2, fun g => absurd g (by decide), fun _ => ?_⟩) (fun f h3 μ3 ep3 c3 => ⟨z01.1, fun _ => hn f (by rw [hl, h3]; rfl) μ3 ((ep1.trg ep3).mono (fun o i => Rd_l)) c3, fun g => absurd rfl g⟩)
  have ep13 : Ep Rd μ μ3 := ep1.trg (ep3.mono (fun o i k => by unfold RdA at k; unfold Rd; omega))
  refine u_52 (by omega) hk hB (inR_of (by decide) (by decide)) c3 (fun q4 h4 μ5 ep5 c5 => ⟨z01.2, fun _ => ⟨⟨l0, l1⟩, ⟨l0, l1⟩, ?_⟩, fun g => absurd g (by decide)⟩) (fun f h4 μ5 ep5 c5 => ⟨z01.1, fun g => absurd rfl g, fun _ => hn f (by rw [hl, h3]; show (pMa k n T 59 q2).bind _ = _; rw [h4]; rfl) μ5 ((ep13.trg ep5).mono (fun o i => Rd_l)) c5⟩)
  have ep15 : Ep Rd μ μ5 := ep13.trg (ep5.mono (fun o i k => by unfold Rd6 at k; unfold Rd; omega))
  have hx : pLn k n T dt p = .ok ((dy, x.1, x.2), q4) := by
    rw [hl, h3]
    show (pMa k n T 59 q2).bind _ = _
    rw [h4]
    rfl
  have hb := (pLn_o hp0 hp1 hx).1
  have b3 : 0 ≤ x.1 := hb.2.2.1
  have b4 : 1 ≤ x.2 := hb.2.2.2.1
  have b5 : x.2 ≤ 8 := hb.2.2.2.2.1
  have b6 : x.1 + x.2 ≤ n := hb.2.2.2.2.2.1
  have w9 : μ5 1 9 = μ1 1 9 := by rw [ep5 _ _ (by unfold Rd6; omega), ep3 _ _ (by unfold RdA; omega)]
  have w10 : μ5 1 10 = x.1 := by rw [ep5 _ _ (by unfold Rd6; omega)]; exact v10
  have w11 : μ5 1 11 = x.2 := by rw [ep5 _ _ (by unfold Rd6; omega)]; exact v11
  rw [hdv μ5 w9, w11]
  have e6 : Ep (fun o i => (o = 15 ∧ i = l) ∨ (o = 16 ∧ i = l)) μ5 (mu (mu μ5 15 l dy) 16 l x.2) := (Ep.rf.mu (by omega)).mu (by omega)
  refine g102 (by omega) hB l0 l1 hv (c5.ep e6 (fun o i k => by omega)) (by rw [e6 _ _ (by omega)]; exact w10) (by rw [e6 _ _ (by omega)]; exact w11) b3 b4 b5 b6 (fun μ' e7 h7 => ?_)
  refine hy _ _ hx μ' (((ep15.mono (fun o i => Rd_l)).trg (e6.mono (fun o i k => by unfold S14l; omega))).trg (e7.mono (fun o i k => by unfold S14l; omega))) ((c5.ep e6 (fun o i k => by omega)).ep e7 (fun o i k => by omega)) ⟨?_, ?_, h7⟩
  · rw [e7 _ _ (by omega), mu_o (by decide), mu_s]
  · rw [e7 _ _ (by omega), mu_s]
theorem s102 {dt l : Int} (hd : 4 ≤ d) (hk : k < 4) (hB : TB n T) (hdt : dt = 0 ∨ dt = 1) (l0 : 0 ≤ l) (l1 : l < 16) (hR : CR k n T μ p) (hy : ∀ x q, pLn k n T dt p = .ok (x, q) → ∀ μ', Ep (S14l l) μ μ' → CR k n T μ' q → lw1 T μ' l x → Φ (some (.inl 1)) μ') (hn : ∀ f, pLn k n T dt p = .error f → ∀ μ', Ef (S14l l) μ μ' → CF f μ' → Φ (some (.inl 0)) μ') : Ct E d 102 [.inr 14, .inr 1, .inl l, .inl dt] μ Φ := by
  have hR' := hR
  obtain ⟨h1, j, t, g2, g3, h4, h5, h6, p0, p1⟩ := hR'
  have z01 : inR (0 : Int) ∧ inR (1 : Int) := ⟨inR_of (by decide) (by decide), inR_of (by decide) (by decide)⟩
  have er : ∀ {f}, pMa k n T 128 p = .error f → pLn k n T dt p = .error f := fun h => by unfold pLn; rw [h]; rfl
  rcases hdt with rfl | rfl
  · refine v102_0 (by omega) (u_53 (by omega) hk hB hR (fun q1 e1 μ1 ep1 c1 => ⟨z01.2, fun g => absurd g (by decide), fun _ => ?_⟩) (fun f e1 μ1 ep1 c1 => ⟨z01.1, fun _ => hn f (er e1) μ1 (ep1.mono (fun o i => Rd_l)) c1, fun g => absurd rfl g⟩))
    exact w102 (dt := 0) (dv := fun _ => 0) (by omega) hk hB l0 l1 (fun x4 μ2 h => v102_0_39 (by omega) h) e1 (dy := 0) (q1 := q1) rfl (ep1.mono (fun o i k => by unfold Rd8 at k; unfold Rd; omega)) c1 p0 p1 (fun _ _ => rfl) hy hn
  · refine v102_1 (by omega) (u_53 (by omega) hk hB hR (fun q1 e1 μ1 ep1 c1 => ⟨z01.2, fun g => absurd g (by decide), fun _ => ?_⟩) (fun f e1 μ1 ep1 c1 => ⟨z01.1, fun _ => hn f (er e1) μ1 (ep1.mono (fun o i => Rd_l)) c1, fun g => absurd rfl g⟩))
    have ep1' : Ep Rd μ μ1 := ep1.mono (fun o i k => by unfold Rd8 at k; unfold Rd; omega)
    refine u_56 (by omega) hk hB (inR_of (by decide) (by decide)) (inR_of (by decide) (by decide)) c1 (fun v q2 e2 μ2 ep2 c2 v9 => ⟨z01.2, fun g => absurd g (by decide), fun _ => ?_⟩) (fun f e2 μ2 ep2 c2 => ⟨z01.1, fun _ => hn f ?_ μ2 ((ep1'.trg ep2).mono (fun o i => Rd_l)) c2, fun g => absurd rfl g⟩)
    · exact w102 (dt := 1) (dv := fun μ5 => μ5 1 9) (by omega) hk hB l0 l1 (fun x4 μ2 h => v102_1_39 (by omega) h) e1 (dy := v) (q1 := q2) e2 (ep1'.trg ep2) c2 p0 p1 (fun _ h => by rw [h]; exact v9) hy hn
    · unfold pLn
      rw [e1]
      show (pDy k n T 1 q1).bind _ = _
      rw [show pDy k n T 1 q1 = pNu k n T 0 999 q1 from rfl, e2]
      rfl
/-- all lines -/
theorem g101 {dt : Int} (hd : 5 ≤ d) (hk : k < 4) (hB : TB n T) (hdt : dt = 0 ∨ dt = 1) (hv : ∀ (x3 : Int) (μ : Mm), (inR x3 ∧ (16 ≤ x3 → (Ct E (d - 1) 55 [.inr 1, .inl 1] (mu μ 14 0 16) (rI (fun z2 μ1 => (z2 = 0 ∨ z2 = 1) ∧ (Φ (some (.inl z2)) μ1))))) ∧ (x3 < 16 → ((inR (μ 1 7)) ∧ ((μ 1 7) ≠ 0 → (Ct E (d - 1) 102 [.inr 14, .inr 1, .inl x3, .inl dt] μ (rI (fun z4 μ3 => inR z4 ∧ (z4 ≠ 0 → G E d 101 Φ 9 [some (.inr 14), some (.inr 1), some (.inl dt), some (.inl (x3 + 1))] [] μ3) ∧ (z4 = 0 → (Φ (some (.inl 0)) μ3)))))) ∧ ((μ 1 7) = 0 → (Φ (some (.inl 1)) (mu μ 14 0 x3)))))) → G E d 101 Φ 9 [some (.inr 14), some (.inr 1), some (.inl dt), some (.inl x3)] [] μ) :
    ∀ (m : Nat) (l : Int) (D : Int → Int × Int × Int) (p : Int) (μ : Mm), l + m = 16 → 0 ≤ l → CR k n T μ p → (∀ i, 0 ≤ i → i < l → lw1 T μ i (D i) ∧ lnB n T (D i)) → (∀ c D', pLs k n T dt m l D p = .ok (c, D') → ∀ μ', Ep S14 μ μ' → 0 ≤ c → c ≤ 16 → μ' 14 0 = c → (∀ i, 0 ≤ i → i < c → lw1 T μ' i (D' i) ∧ lnB n T (D' i)) → Φ (some (.inl 1)) μ') → (∀ f, pLs k n T dt m l D p = .error f → ∀ μ', Ef S14 μ μ' → CF f μ' → Φ (some (.inl 0)) μ') → G E d 101 Φ 9 [some (.inr 14), some (.inr 1), some (.inl dt), some (.inl l)] [] μ := by
  intro m
  have z01 : inR (0 : Int) ∧ inR (1 : Int) := ⟨inR_of (by decide) (by decide), inR_of (by decide) (by decide)⟩
  induction m with
  | zero =>
    intro l D p μ hl l0 hR hD hy hn
    have l16 : l = 16 := by omega
    subst l16
    refine hv _ _ ⟨inR_of (by decide) (by decide), fun _ => ?_, fun g => absurd g (by decide)⟩
    have e0 : Ep (fun o i => o = 14) μ (mu μ 14 0 16) := Ep.rf.mu rfl
    have hR0 := hR.ep e0 (fun o i k => by omega)
    have r14 : ∀ {o i}, Rd o i → S14 o i := fun h => Or.inl h
    refine t_55 (by omega) hk hB (by decide) hR0 (fun g => ⟨Or.inr rfl, hy 16 D (if_pos g) _ (e0.mono (fun o i k => by unfold S14; omega)) (by decide) (by decide) (mu_s _ _ _ _) (fun i i0 i1 => ⟨(hD i i0 i1).1.ep e0 (by decide) (by decide) (fun _ _ _ => by decide), (hD i i0 i1).2⟩)⟩) (fun g μ' e1 a1 a2 => ⟨Or.inl rfl, hn _ (by show (if _ then _ else _) = _; rw [if_neg (by omega), if_pos (by omega)]) μ' ((e0.mono (fun o i k => by unfold S14; omega)).trg (e1.mono (fun o i => r14))) ⟨a1, a2⟩⟩) (fun g g2 μ' e1 a1 a2 => ⟨Or.inl rfl, hn _ (by show (if _ then _ else _) = _; rw [if_neg (by omega), if_neg (by omega)]) μ' ((e0.mono (fun o i k => by unfold S14; omega)).trg (e1.mono (fun o i => r14))) ⟨a1, a2⟩⟩)
  | succ m ih =>
    intro l D p μ hl l0 hR hD hy hn
    have hR' := hR
    obtain ⟨h1, j, t, g2, g3, h4, h5, h6, p0, p1⟩ := hR'
    have kr := toK_r (T := T) hk hB p0 p1
    refine hv _ _ ⟨inR_of (by omega) (by omega), fun g => by omega, fun _ => ?_⟩
    rw [h5]
    refine ⟨inR_of (by omega) (by omega), fun g => ?_, fun g => hy l D (if_pos g) _ (Ep.rf.mu (by unfold S14; omega)) l0 (by omega) (mu_s _ _ _ _) (fun i i0 i1 => ⟨(hD i i0 i1).1.ep (S := fun o i => o = 14) (Ep.rf.mu rfl) (by decide) (by decide) (fun _ _ _ => by decide), (hD i i0 i1).2⟩)⟩
    have hu : pLs k n T dt (m + 1) l D p = (pLn k n T dt p).bind fun x => pLs k n T dt m (l + 1) (uf D l x.1) x.2 := by
      show (if _ then _ else _) = _
      rw [if_neg g]
    have r14 : ∀ {o i}, S14l l o i → S14 o i := fun h => by unfold S14l Rd at h; unfold S14 Rd; omega
    refine s102 (by omega) hk hB hdt l0 (by omega) hR (fun x q e1 μ1 ep1 c1 w1 => ⟨z01.2, fun _ => ?_, fun g => absurd g (by decide)⟩) (fun f e1 μ1 ep1 c1 => ⟨z01.1, fun g => absurd rfl g, fun _ => hn f (by rw [hu, e1]; rfl) μ1 (ep1.mono (fun o i => r14)) c1⟩)
    have hu2 : pLs k n T dt (m + 1) l D p = pLs k n T dt m (l + 1) (uf D l x) q := by rw [hu, e1]; rfl
    have xb := (pLn_o p0 p1 e1).1
    refine ih (l + 1) (uf D l x) q μ1 (by omega) (by omega) c1 (fun i i0 i1 => ?_) (fun c D' e2 μ2 ep2 c0 c16 v14 h2 => hy c D' (by rw [hu2]; exact e2) μ2 ((ep1.mono (fun o i => r14)).trg ep2) c0 c16 v14 h2) (fun f e2 μ2 ep2 c2 => hn f (by rw [hu2]; exact e2) μ2 ((ep1.mono (fun o i => r14)).trg ep2) c2)
    unfold uf
    by_cases gi : i = l
    · rw [if_pos gi, gi]
      exact ⟨w1, xb⟩
    · rw [if_neg gi]
      have := hD i i0 (by omega)
      have b8 := this.2.2.2.2.2.1
      exact ⟨this.1.ep ep1 (by unfold S14l Rd; omega) (by unfold S14l Rd; omega) (fun c c0 c1 => by unfold S14l Rd; omega), this.2⟩
/-- what reading changes in the class -/
def RW0 : Nat → Int → Prop := fun o i => (3 ≤ o ∧ o ≤ 22) ∨ (o = 1 ∧ 5 ≤ i ∧ i ≤ 11)
theorem s101 {dt : Int} (hd : 12 ≤ d) (hT : TaW μ n T) (hB : TB n T) (hk : (k = 1 ∧ dt = 1) ∨ (k = 2 ∧ dt = 0)) (hy : ∀ c D, pLs k n T dt 16 0 (fun _ => (0, 0, 0)) 0 = .ok (c, D) → ∀ μ', Ep RW0 μ μ' → 0 ≤ c → c ≤ 16 → μ' 14 0 = c → (∀ i, 0 ≤ i → i < c → lw1 T μ' i (D i) ∧ lnB n T (D i)) → Φ (some (.inl 1)) μ') (hn : ∀ f, pLs k n T dt 16 0 (fun _ => (0, 0, 0)) 0 = .error f → ∀ μ', Ef RW0 μ μ' → CF f μ' → Φ (some (.inl 0)) μ') : Ct E d 101 [.inr 14, .inr 1, .inl dt] μ Φ := by
  have a1 : ∀ {μ1 : Mm}, Ep (fun o i => (3 ≤ o ∧ o ≤ 5) ∨ (o = 1 ∧ 5 ≤ i ∧ i ≤ 7)) μ μ1 → Ep RW0 μ μ1 := fun e => e.mono (fun o i k => by unfold RW0; omega)
  have a2 : ∀ {μ1 μ2 : Mm}, Ep S14 μ1 μ2 → Ep RW0 μ1 μ2 := fun e => e.mono (fun o i k => by unfold S14 Rd at k; unfold RW0; omega)
  have a2f : ∀ {μ1 μ2 : Mm}, Ef S14 μ1 μ2 → Ef RW0 μ1 μ2 := fun e => e.mono (fun o i k => by unfold S14 Rd at k; unfold RW0; omega)
  rcases hk with ⟨rfl, rfl⟩ | ⟨rfl, rfl⟩
  · refine v101_1 (by omega) (s41 (k := 1) (by omega) (by decide) hT hB (fun μ1 e1 c1 => ?_))
    exact g101 (by omega) (by decide) hB (Or.inr rfl) (fun x3 μ h => v101_1_9 (by omega) h) 16 0 _ 0 μ1 rfl (Int.le_refl _) c1 (fun i i0 i1 => by omega) (fun c D e2 μ2 ep2 c0 c16 v14 h2 => hy c D e2 μ2 ((a1 e1).trg (a2 ep2)) c0 c16 v14 h2) (fun f e2 μ2 ep2 c2 => hn f e2 μ2 ((a1 e1).trg (a2f ep2)) c2)
  · refine v101_0 (by omega) (s41 (k := 2) (by omega) (by decide) hT hB (fun μ1 e1 c1 => ?_))
    exact g101 (by omega) (by decide) hB (Or.inl rfl) (fun x3 μ h => v101_0_9 (by omega) h) 16 0 _ 0 μ1 rfl (Int.le_refl _) c1 (fun i i0 i1 => by omega) (fun c D e2 μ2 ep2 c0 c16 v14 h2 => hy c D e2 μ2 ((a1 e1).trg (a2 ep2)) c0 c16 v14 h2) (fun f e2 μ2 ep2 c2 => hn f e2 μ2 ((a1 e1).trg (a2f ep2)) c2)
end S60
