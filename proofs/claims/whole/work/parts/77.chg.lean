/-! CHANGES, as both read them -/
noncomputable def pDd (k : Nat) (n : Int) (T : Int → Int) (p : Int) : Except Flt ((Int × Int × Int) × Int) :=
  if 129 ≤ toK k n T p ∧ toK k n T p ≤ 132 then (if toK k n T p = 132 then .ok ((3, 0, 0), toE n T p) else if toK k n T p = 131 then (pNu k n T 1 9 (toE n T p)).bind fun x => .ok ((2, 0, x.1), x.2) else (pWo k n T 1 (toE n T p)).bind fun y => (pNu k n T 1 50 y.2).bind fun x => .ok ((toK k n T p - 129, T y.1.1 - 97, x.1), x.2)) else .error (1, toF n T p)
noncomputable def pCh (k : Nat) (n : Int) (T : Int → Int) (p : Int) : Except Flt ((Int × Int × Int × Int) × Int) :=
  (pMa k n T 128 p).bind fun p1 => (pNu k n T 0 999 p1).bind fun x => (pDd k n T x.2).bind fun y => (pMa k n T 59 y.2).bind fun q => .ok ((x.1, y.1), q)
noncomputable def pCs (k : Nat) (n : Int) (T : Int → Int) : Nat → Int → (Int → Int × Int × Int × Int) → Int → Except Flt (Int × (Int → Int × Int × Int × Int))
  | 0, l, D, p => if toK k n T p = 0 then .ok (l, D) else if toK k n T p = 128 then .error (3, toF n T p) else .error (1, toF n T p)
  | m + 1, l, D, p => if toK k n T p = 0 then .ok (l, D) else (pCh k n T p).bind fun x => pCs k n T m (l + 1) (uf D l x.1) x.2
def cw1 (μ : Mm) (l : Int) (x : Int × Int × Int × Int) : Prop := μ 19 l = x.1 ∧ μ 20 l = x.2.1 + 1 ∧ μ 21 l = x.2.2.1 ∧ μ 22 l = x.2.2.2
def cm1 (μ : Mm) (a : Int) (x : Int × Int × Int × Int) : Prop := μ 141 a = x.1 ∧ μ 141 (a + 1) = x.2.1 ∧ μ 141 (a + 2) = x.2.2.1 ∧ μ 141 (a + 3) = x.2.2.2
def ddB (x : Int × Int × Int) : Prop := 0 ≤ x.1 ∧ x.1 ≤ 3 ∧ 0 ≤ x.2.1 ∧ x.2.1 ≤ 9 ∧ 0 ≤ x.2.2 ∧ x.2.2 ≤ 50 ∧ (2 ≤ x.1 → x.2.2 ≤ 9)
def chB (x : Int × Int × Int × Int) : Prop := 0 ≤ x.1 ∧ x.1 ≤ 999 ∧ ddB x.2
def S20 (l : Int) : Nat → Int → Prop := fun o i => Rd o i ∨ (20 ≤ o ∧ o ≤ 22 ∧ i = l)
def S19 (l : Int) : Nat → Int → Prop := fun o i => Rd o i ∨ (19 ≤ o ∧ o ≤ 22 ∧ i = l)
def S18 : Nat → Int → Prop := fun o i => Rd o i ∨ (18 ≤ o ∧ o ≤ 22)
section S62
variable {E : En} {d : Nat} {Φ : Option AV → Mm → Prop} {μ μ' : Mm} {n p q : Int} {T : Int → Int} {k : Nat} {f : Flt}
theorem pNu_q {a b v : Int} (p0 : 0 ≤ p) (p1 : p ≤ n) (h : pNu k n T a b p = .ok (v, q)) : p ≤ q ∧ q ≤ n := by
  have h1 := (pNu_o h).2.2.2.2
  have eb := toE_b (T := T) p1
  have fb := toF_b (T := T) p1
  omega
theorem pMa_q {c : Int} (p0 : 0 ≤ p) (p1 : p ≤ n) (h : pMa k n T c p = .ok q) : p ≤ q ∧ q ≤ n := by
  have h1 := (pMa_o h).2
  have eb := toE_b (T := T) p1
  have fb := toF_b (T := T) p1
  omega
theorem pWo_q {m : Int} {x : Int × Int} (p0 : 0 ≤ p) (p1 : p ≤ n) (h : pWo k n T m p = .ok (x, q)) : p ≤ q ∧ q ≤ n ∧ 0 ≤ x.1 ∧ 1 ≤ x.2 ∧ x.1 + x.2 ≤ n := by
  have h1 := pWo_o h
  have eb := toE_b (T := T) p1
  have fb := toF_b (T := T) p1
  have t2 := toK_2 p1 h1.1
  have x1 : x.1 = toF n T p := by rw [h1.2.2.2.1]
  have x2 : x.2 = toE n T p - toF n T p := by rw [h1.2.2.2.1]
  omega
theorem pDd_4 (h : toK k n T p = 132) : pDd k n T p = .ok ((3, 0, 0), toE n T p) := by unfold pDd; rw [if_pos (by omega), if_pos h]
theorem pDd_3 (h : toK k n T p = 131) : pDd k n T p = (pNu k n T 1 9 (toE n T p)).bind fun x => .ok ((2, 0, x.1), x.2) := by unfold pDd; rw [if_pos (by omega), if_neg (by omega), if_pos h]
theorem pDd_2 (h : toK k n T p = 129 ∨ toK k n T p = 130) : pDd k n T p = (pWo k n T 1 (toE n T p)).bind fun y => (pNu k n T 1 50 y.2).bind fun x => .ok ((toK k n T p - 129, T y.1.1 - 97, x.1), x.2) := by unfold pDd; rw [if_pos (by omega), if_neg (by omega), if_neg (by omega)]
theorem pDd_1 (h : ¬ (129 ≤ toK k n T p ∧ toK k n T p ≤ 132)) : pDd k n T p = .error (1, toF n T p) := by unfold pDd; rw [if_neg h]
theorem pDd_o {x : Int × Int × Int} (p0 : 0 ≤ p) (p1 : p ≤ n) (h : pDd k n T p = .ok (x, q)) : ddB x ∧ p ≤ q ∧ q ≤ n := by
  have eb := toE_b (T := T) p1
  have fb := toF_b (T := T) p1
  by_cases g : 129 ≤ toK k n T p ∧ toK k n T p ≤ 132
  · rcases (by omega : toK k n T p = 132 ∨ toK k n T p = 131 ∨ (toK k n T p = 129 ∨ toK k n T p = 130)) with g1 | g1 | g1
    · rw [pDd_4 g1] at h
      cases h
      exact ⟨⟨by show (0 : Int) ≤ 3; omega, by show (3 : Int) ≤ 3; omega, Int.le_refl 0, by show (0 : Int) ≤ 9; omega, Int.le_refl 0, by show (0 : Int) ≤ 50; omega, fun _ => by show (0 : Int) ≤ 9; omega⟩, by omega, by omega⟩
    · rw [pDd_3 g1] at h
      cases h1 : pNu k n T 1 9 (toE n T p) with
      | error f => rw [h1] at h; cases h
      | ok y =>
        obtain ⟨v, q1⟩ := y
        rw [h1] at h
        have b := pNu_o h1
        have c := pNu_q (by omega) (by omega) h1
        cases h
        exact ⟨⟨by show (0 : Int) ≤ 2; omega, by show (2 : Int) ≤ 3; omega, Int.le_refl 0, by show (0 : Int) ≤ 9; omega, by show 0 ≤ v; omega, by show v ≤ 50; omega, fun _ => by show v ≤ 9; omega⟩, by omega, by omega⟩
    · rw [pDd_2 g1] at h
      cases h1 : pWo k n T 1 (toE n T p) with
      | error f => rw [h1] at h; cases h
      | ok y =>
        obtain ⟨y, q1⟩ := y
        rw [h1] at h
        replace h : ((pNu k n T 1 50 q1).bind fun x => .ok ((toK k n T p - 129, T y.1 - 97, x.1), x.2)) = Except.ok (x, q) := h
        have b := pWo_o h1
        have c := pWo_q (by omega) (by omega) h1
        have tj := b.2.2.1 y.1 (Int.le_refl _) (by omega)
        cases h2 : pNu k n T 1 50 q1 with
        | error f => rw [h2] at h; cases h
        | ok z =>
          obtain ⟨v, q2⟩ := z
          rw [h2] at h
          have b2 := pNu_o h2
          have c2 := pNu_q (by omega) (by omega) h2
          cases h
          exact ⟨⟨by show 0 ≤ toK k n T p - 129; omega, by show toK k n T p - 129 ≤ 3; omega, by show 0 ≤ T y.1 - 97; omega, by show T y.1 - 97 ≤ 9; omega, by show 0 ≤ v; omega, by show v ≤ 50; omega, fun (e : 2 ≤ toK k n T p - 129) => by omega⟩, by omega, by omega⟩
  · rw [pDd_1 g] at h
    cases h
theorem pCh_1 (h : pMa k n T 128 p = .error f) : pCh k n T p = .error f := by unfold pCh; rw [h]; rfl
theorem pCh_2 {p1 : Int} (h : pMa k n T 128 p = .ok p1) (h2 : pNu k n T 0 999 p1 = .error f) : pCh k n T p = .error f := by
  unfold pCh
  rw [h]
  show (pNu k n T 0 999 p1).bind _ = _
  rw [h2]
  rfl
theorem pCh_3 {p1 v p2 : Int} (h : pMa k n T 128 p = .ok p1) (h2 : pNu k n T 0 999 p1 = .ok (v, p2)) : pCh k n T p = (pDd k n T p2).bind fun y => (pMa k n T 59 y.2).bind fun q => .ok ((v, y.1), q) := by
  unfold pCh
  rw [h]
  show (pNu k n T 0 999 p1).bind _ = _
  rw [h2]
  rfl
theorem pCh_o {x : Int × Int × Int × Int} (p0 : 0 ≤ p) (p1 : p ≤ n) (h : pCh k n T p = .ok (x, q)) : chB x ∧ p ≤ q ∧ q ≤ n := by
  cases h1 : pMa k n T 128 p with
  | error f => rw [pCh_1 h1] at h; cases h
  | ok a =>
    have a1 := pMa_q p0 p1 h1
    cases h2 : pNu k n T 0 999 a with
    | error f => rw [pCh_2 h1 h2] at h; cases h
    | ok b =>
      obtain ⟨v, b⟩ := b
      rw [pCh_3 h1 h2] at h
      have b1 := pNu_o h2
      have b2 := pNu_q (by omega) (by omega) h2
      cases h3 : pDd k n T b with
      | error f => rw [h3] at h; cases h
      | ok c =>
        obtain ⟨y, c⟩ := c
        rw [h3] at h
        replace h : ((pMa k n T 59 c).bind fun q => .ok ((v, y), q)) = Except.ok (x, q) := h
        have c1 := pDd_o (by omega) (by omega) h3
        cases h4 : pMa k n T 59 c with
        | error f => rw [h4] at h; cases h
        | ok e =>
          rw [h4] at h
          have e1 := pMa_q (by omega) (by omega) h4
          cases h
          exact ⟨⟨by show 0 ≤ v; omega, by show v ≤ 999; omega, c1.1⟩, by omega, by omega⟩
/-- a deed, in the class -/
theorem s2 {l : Int} (hd : 4 ≤ d) (hk : k < 4) (hB : TB n T) (l0 : 0 ≤ l) (l1 : l < 16) (hR : CR k n T μ p) (hy : ∀ x q, pDd k n T p = .ok (x, q) → ∀ μ', Ep (S20 l) μ μ' → CR k n T μ' q → μ' 20 l = x.1 + 1 → μ' 21 l = x.2.1 → μ' 22 l = x.2.2 → Φ (some (.inl 1)) μ') (hn : ∀ f, pDd k n T p = .error f → ∀ μ', Ef (S20 l) μ μ' → CF f μ' → Φ (some (.inl 0)) μ') : Ct E d 2 [.inr 18, .inr 1, .inl l] μ Φ := by
  have hR' := hR
  obtain ⟨h1, j, t, g2, g3, h4, h5, h6, p0, p1⟩ := hR'
  have kr := toK_r (T := T) hk hB p0 p1
  have z01 : inR (0 : Int) ∧ inR (1 : Int) := ⟨inR_of (by decide) (by decide), inR_of (by decide) (by decide)⟩
  have hl : 0 ≤ l ∧ l < 16 := ⟨l0, l1⟩
  refine v2 (by omega) ?_
  rw [h5]
  have ki : inR (toK k n T p - 128) := inR_of (by omega) (by omega)
  have e0 : Ep (fun o i => 20 ≤ o ∧ o ≤ 22 ∧ i = l) μ (mu (mu (mu μ 20 l (toK k n T p - 128)) 21 l 0) 22 l 0) := ((Ep.rf.mu (by omega)).mu (by omega)).mu (by omega)
  have v20 : mu (mu (mu μ 20 l (toK k n T p - 128)) 21 l 0) 22 l 0 20 l = toK k n T p - 128 := by rw [mu_o (by decide), mu_o (by decide), mu_s]
  have v21 : mu (mu (mu μ 20 l (toK k n T p - 128)) 21 l 0) 22 l 0 21 l = 0 := by rw [mu_o (by decide), mu_s]
  have v22 : mu (mu (mu μ 20 l (toK k n T p - 128)) 21 l 0) 22 l 0 22 l = 0 := mu_s _ _ _ _
  generalize mu (mu (mu μ 20 l (toK k n T p - 128)) 21 l 0) 22 l 0 = μ1 at *
  have c1 := hR.ep e0 (fun o i k => by omega)
  have r20 : ∀ {o i}, Rd o i → S20 l o i := fun h => Or.inl h
  have e0' : Ep (S20 l) μ μ1 := e0.mono (fun o i k => Or.inr (by omega))
  have bad : ¬ (129 ≤ toK k n T p ∧ toK k n T p ≤ 132) → Ct E (d - 1) 51 [.inr 1, .inl 1] μ1 (rI (fun z2 μ1 => (z2 = 0 ∨ z2 = 1) ∧ (Φ (some (.inl z2)) μ1))) := fun g => t_51 (by omega) c1 (fun μ' e1 a1 a2 => ⟨Or.inl rfl, hn _ (pDd_1 g) μ' (e0'.trg (e1.mono (fun o i => r20))) ⟨a1, a2⟩⟩)
  refine ⟨hl, hl, hl, ki, fun g => bad (by omega), fun g => ⟨ki, fun g1 => ?_, fun g1 => bad (by omega)⟩⟩
  refine t_50 (by omega) hB.1 c1 (fun μ3 e1 c3 => ?_)
  have e3 : Ep (S20 l) μ μ3 := e0'.trg (e1.mono (fun o i k => r20 (Rd67 k)))
  have w20 : μ3 20 l = toK k n T p - 128 := by rw [e1 _ _ (by omega)]; exact v20
  have w21 : μ3 21 l = 0 := by rw [e1 _ _ (by omega)]; exact v21
  have w22 : μ3 22 l = 0 := by rw [e1 _ _ (by omega)]; exact v22
  refine ⟨ki, fun g2 => ⟨ki, fun g3 => ⟨ki, fun g4 => absurd g3 g4, fun _ => ?_⟩, fun g3 => ?_⟩, fun g2 => hy _ _ (pDd_4 (by omega)) μ3 e3 c3 (by rw [w20]; show _ = (3 : Int) + 1; omega) w21 w22⟩
  · have hu := pDd_3 (k := k) (n := n) (T := T) (p := p) (by omega)
    refine u_56 (by omega) hk hB (inR_of (by decide) (by decide)) (inR_of (by decide) (by decide)) c3 (fun v q h2 μ4 e4 c4 v9 => ⟨z01.2, fun _ => ⟨hl, ?_⟩, fun g => absurd g (by decide)⟩) (fun f h2 μ4 e4 c4 => ⟨z01.1, fun g => absurd rfl g, fun _ => hn f (by rw [hu, h2]; rfl) μ4 (e3.trg (e4.mono (fun o i => r20))) c4⟩)
    have e5 : Ep (fun o i => o = 22 ∧ i = l) μ4 (mu μ4 22 l (μ4 1 9)) := Ep.rf.mu ⟨rfl, rfl⟩
    exact hy (2, 0, v) q (by rw [hu, h2]; rfl) _ ((e3.trg (e4.mono (fun o i => r20))).trg (e5.mono (fun o i k => Or.inr (by omega)))) (c4.ep e5 (fun o i k => by omega)) (by rw [e5 _ _ (by omega), e4 _ _ (by unfold Rd; omega), w20]; show _ = (2 : Int) + 1; omega) (by rw [e5 _ _ (by omega), e4 _ _ (by unfold Rd; omega)]; exact w21) (by rw [mu_s]; exact v9)
  · have g4 : toK k n T p = 129 ∨ toK k n T p = 130 := by omega
    have hu := pDd_2 (k := k) (n := n) (T := T) (p := p) g4
    have eb := toE_b (T := T) p1
    have fb := toF_b (T := T) p1
    refine u_57 (by omega) hk hB (inR_of (by decide) (by decide)) c3 (fun x q h2 μ8 e8 c8 v10 v11 => ⟨z01.2, fun _ => ?_, fun g => absurd g (by decide)⟩) (fun f h2 μ8 e8 c8 => ⟨z01.1, fun g => absurd rfl g, fun _ => hn f (by rw [hu, h2]; rfl) μ8 (e3.trg (e8.mono (fun o i => r20))) c8⟩)
    have xb := pWo_q (by omega) (by omega) h2
    have hu2 : pDd k n T p = (pNu k n T 1 50 q).bind fun z => .ok ((toK k n T p - 129, T x.1 - 97, z.1), z.2) := by rw [hu, h2]; rfl
    refine t_58 (by omega) c8.1 hB v10 xb.2.2.1 (by decide) (by omega) ⟨hl, ki, fun _ => ?_, fun g => by omega⟩
    rw [show x.1 + 0 = x.1 by omega]
    have e9 : Ep (fun o i => o = 21 ∧ i = l) μ8 (mu μ8 21 l (T x.1 - 97)) := Ep.rf.mu ⟨rfl, rfl⟩
    have e39 : Ep (S20 l) μ (mu μ8 21 l (T x.1 - 97)) := (e3.trg (e8.mono (fun o i k => r20 (by unfold RdA at k; unfold Rd; omega)))).trg (e9.mono (fun o i k => Or.inr (by omega)))
    refine u_56 (by omega) hk hB (inR_of (by decide) (by decide)) (inR_of (by decide) (by decide)) (c8.ep e9 (fun o i k => by omega)) (fun v q2 h3 μ4 e4 c4 v9 => ⟨z01.2, fun _ => ⟨hl, ?_⟩, fun g => absurd g (by decide)⟩) (fun f h3 μ4 e4 c4 => ⟨z01.1, fun g => absurd rfl g, fun _ => hn f (by rw [hu2, h3]; rfl) μ4 (e39.trg (e4.mono (fun o i => r20))) c4⟩)
    have e5 : Ep (fun o i => o = 22 ∧ i = l) μ4 (mu μ4 22 l (μ4 1 9)) := Ep.rf.mu ⟨rfl, rfl⟩
    exact hy _ q2 (by rw [hu2, h3]; rfl) _ ((e39.trg (e4.mono (fun o i => r20))).trg (e5.mono (fun o i k => Or.inr (by omega)))) (c4.ep e5 (fun o i k => by omega)) (by rw [e5 _ _ (by omega), e4 _ _ (by unfold Rd; omega), e9 _ _ (by omega), e8 _ _ (by unfold RdA; omega), w20]; show _ = toK k n T p - 129 + 1; omega) (by rw [e5 _ _ (by omega), e4 _ _ (by unfold Rd; omega), mu_s]) (by rw [mu_s]; exact v9)
theorem pCs_0 {l : Int} {D : Int → Int × Int × Int × Int} (m : Nat) (h : toK k n T p = 0) : pCs k n T m l D p = .ok (l, D) := by
  cases m with
  | zero => exact if_pos h
  | succ m => exact if_pos h
theorem pCs_1 {l : Int} {D : Int → Int × Int × Int × Int} (m : Nat) (h : toK k n T p ≠ 0) (h1 : toK k n T p ≠ 128) : pCs k n T m l D p = .error (1, toF n T p) := by
  cases m with
  | zero =>
    show (if _ then _ else _) = _
    rw [if_neg h, if_neg h1]
  | succ m =>
    show (if _ then _ else _) = _
    rw [if_neg h, pCh_1 (pMa_f h1)]
    rfl
theorem pCs_2 {l : Int} {D : Int → Int × Int × Int × Int} (m : Nat) (h : toK k n T p ≠ 0) : pCs k n T (m + 1) l D p = (pCh k n T p).bind fun x => pCs k n T m (l + 1) (uf D l x.1) x.2 := by
  show (if _ then _ else _) = _
  rw [if_neg h]
theorem pCs_3 {l : Int} {D : Int → Int × Int × Int × Int} (h : toK k n T p = 128) : pCs k n T 0 l D p = .error (3, toF n T p) := by
  show (if _ then _ else _) = _
  rw [if_neg (by omega), if_pos h]
theorem cw1.ep {S : Nat → Int → Prop} {l : Int} {x : Int × Int × Int × Int} (h : cw1 μ l x) (e : Ep S μ μ') (h0 : ∀ o, 19 ≤ o → o ≤ 22 → ¬ S o l) : cw1 μ' l x :=
  ⟨by rw [e _ _ (h0 _ (by omega) (by omega))]; exact h.1, by rw [e _ _ (h0 _ (by omega) (by omega))]; exact h.2.1, by rw [e _ _ (h0 _ (by omega) (by omega))]; exact h.2.2.1, by rw [e _ _ (h0 _ (by omega) (by omega))]; exact h.2.2.2⟩
theorem g1 (hd : 5 ≤ d) (hk : k < 4) (hB : TB n T) :
    ∀ (m : Nat) (l : Int) (D : Int → Int × Int × Int × Int) (p : Int) (μ : Mm), l + m = 16 → 0 ≤ l → CR k n T μ p → (∀ i, 0 ≤ i → i < l → cw1 μ i (D i) ∧ chB (D i)) → (∀ c D', pCs k n T m l D p = .ok (c, D') → ∀ μ', Ep S18 μ μ' → 0 ≤ c → c ≤ 16 → μ' 18 0 = c → (∀ i, 0 ≤ i → i < c → cw1 μ' i (D' i) ∧ chB (D' i)) → Φ (some (.inl 1)) μ') → (∀ f, pCs k n T m l D p = .error f → ∀ μ', Ef S18 μ μ' → CF f μ' → Φ (some (.inl 0)) μ') → G E d 1 Φ 5 [some (.inr 18), some (.inr 1), some (.inl l)] [] μ := by
  intro m
  have z01 : inR (0 : Int) ∧ inR (1 : Int) := ⟨inR_of (by decide) (by decide), inR_of (by decide) (by decide)⟩
  have r18 : ∀ {o i}, Rd o i → S18 o i := fun h => Or.inl h
  induction m with
  | zero =>
    intro l D p μ hl l0 hR hD hy hn
    have l16 : l = 16 := by omega
    subst l16
    refine v1_5 (by omega) ⟨inR_of (by decide) (by decide), fun _ => ?_, fun g => absurd g (by decide)⟩
    have e0 : Ep (fun o i => o = 18) μ (mu μ 18 0 16) := Ep.rf.mu rfl
    have hR0 := hR.ep e0 (fun o i k => by omega)
    have e18 : Ep S18 μ (mu μ 18 0 16) := e0.mono (fun o i k => Or.inr (by omega))
    refine t_55 (by omega) hk hB (by decide) hR0 (fun g => ⟨Or.inr rfl, hy 16 D (if_pos g) _ e18 (by decide) (by decide) (mu_s _ _ _ _) (fun i i0 i1 => ⟨(hD i i0 i1).1.ep e0 (fun _ _ _ => by omega), (hD i i0 i1).2⟩)⟩) (fun g μ' e1 a1 a2 => ⟨Or.inl rfl, hn _ (pCs_3 (by omega)) μ' (e18.trg (e1.mono (fun o i => r18))) ⟨a1, a2⟩⟩) (fun g g2 μ' e1 a1 a2 => ⟨Or.inl rfl, hn _ (pCs_1 _ g (by omega)) μ' (e18.trg (e1.mono (fun o i => r18))) ⟨a1, a2⟩⟩)
  | succ m ih =>
    intro l D p μ hl l0 hR hD hy hn
    have hR' := hR
    obtain ⟨h1, j, t, g2, g3, h4, h5, h6, p0, p1⟩ := hR'
    have kr := toK_r (T := T) hk hB p0 p1
    refine v1_5 (by omega) ⟨inR_of (by omega) (by omega), fun g => by omega, fun _ => ?_⟩
    rw [h5]
    refine ⟨inR_of (by omega) (by omega), fun g => ?_, fun g => hy l D (pCs_0 _ g) _ (Ep.rf.mu (Or.inr (by omega))) l0 (by omega) (mu_s _ _ _ _) (fun i i0 i1 => ⟨(hD i i0 i1).1.ep (S := fun o i => o = 18) (Ep.rf.mu rfl) (fun _ _ _ => by omega), (hD i i0 i1).2⟩)⟩
    have hu := pCs_2 (k := k) (n := n) (T := T) (l := l) (D := D) m g
    refine u_53 (by omega) hk hB hR (fun q1 e1 μ1 ep1 c1 => ⟨z01.2, fun g => absurd g (by decide), fun _ => ?_⟩) (fun f e1 μ1 ep1 c1 => ⟨z01.1, fun _ => hn f (by rw [hu, pCh_1 e1]; rfl) μ1 (ep1.mono (fun o i => r18)) c1, fun g => absurd rfl g⟩)
    have x1 : Ep S18 μ μ1 := ep1.mono (fun o i k => r18 (by unfold Rd8 at k; unfold Rd; omega))
    refine u_56 (by omega) hk hB (inR_of (by decide) (by decide)) (inR_of (by decide) (by decide)) c1 (fun v q2 e2 μ2 ep2 c2 v9 => ⟨z01.2, fun _ => ⟨⟨l0, by omega⟩, ?_⟩, fun g => absurd g (by decide)⟩) (fun f e2 μ2 ep2 c2 => ⟨z01.1, fun g => absurd rfl g, fun _ => hn f (by rw [hu, pCh_2 e1 e2]; rfl) μ2 (x1.trg (ep2.mono (fun o i => r18))) c2⟩)
    have hu2 := pCh_3 e1 e2
    have e3 : Ep (fun o i => o = 19 ∧ i = l) μ2 (mu μ2 19 l (μ2 1 9)) := Ep.rf.mu ⟨rfl, rfl⟩
    have x3 : Ep S18 μ (mu μ2 19 l (μ2 1 9)) := (x1.trg (ep2.mono (fun o i => r18))).trg (e3.mono (fun o i k => Or.inr (by omega)))
    have v19 : mu μ2 19 l (μ2 1 9) 19 l = v := by rw [mu_s]; exact v9
    have y3 : Ep (S19 l) μ (mu μ2 19 l (μ2 1 9)) := ((ep1.mono (fun o i k => Or.inl (by unfold Rd8 at k; unfold Rd; omega))).trg (ep2.mono (fun o i => Or.inl))).trg (e3.mono (fun o i k => Or.inr (by omega)))
    have s20 : ∀ {o i}, S20 l o i → S18 o i := fun h => by unfold S20 at h; unfold S18; rcases h with h | h; exact Or.inl h; exact Or.inr (by omega)
    refine s2 (by omega) hk hB l0 (by omega) (c2.ep e3 (fun o i k => by omega)) (fun x q3 h3 μ4 ep4 c4 w20 w21 w22 => ⟨z01.2, fun g => absurd g (by decide), fun _ => ?_⟩) (fun f h3 μ4 ep4 c4 => ⟨z01.1, fun _ => hn f (by rw [hu, hu2, h3]; rfl) μ4 (x3.trg (ep4.mono (fun o i => s20))) c4, fun g => absurd rfl g⟩)
    have x4 := x3.trg (ep4.mono (fun o i => s20))
    have hu3 : pCs k n T (m + 1) l D p = (((pMa k n T 59 q3).bind fun q => .ok ((v, x), q)).bind fun x => pCs k n T m (l + 1) (uf D l x.1) x.2) := by rw [hu, hu2, h3]; rfl
    refine u_52 (by omega) hk hB (inR_of (by decide) (by decide)) c4 (fun q4 h4 μ5 ep5 c5 => ⟨z01.2, fun _ => ?_, fun g => absurd g (by decide)⟩) (fun f h4 μ5 ep5 c5 => ⟨z01.1, fun g => absurd rfl g, fun _ => hn f (by rw [hu3, h4]; rfl) μ5 (x4.trg (ep5.mono (fun o i => r18))) c5⟩)
    have hu4 : pCs k n T (m + 1) l D p = pCs k n T m (l + 1) (uf D l (v, x)) q4 := by rw [hu3, h4]; rfl
    have r6 : ∀ {o i}, Rd6 o i → Rd o i := fun h => by unfold Rd6 at h; unfold Rd; omega
    have x5 := x4.trg (ep5.mono (fun o i k => r18 (r6 k)))
    have y5 : Ep (S19 l) μ μ5 := (y3.trg (ep4.mono (fun o i k => by unfold S20 at k; unfold S19; rcases k with k | k; exact Or.inl k; exact Or.inr (by omega)))).trg (ep5.mono (fun o i k => Or.inl (r6 k)))
    have xb := (pCh_o (q := q4) (x := (v, x)) p0 p1 (by rw [hu2, h3]; show (pMa k n T 59 q3).bind _ = _; rw [h4]; rfl)).1
    refine ih (l + 1) (uf D l (v, x)) q4 μ5 (by omega) (by omega) c5 (fun i i0 i1 => ?_) (fun c D' e6 μ6 ep6 c0 c16 v18 h6 => hy c D' (by rw [hu4]; exact e6) μ6 (x5.trg ep6) c0 c16 v18 h6) (fun f e6 μ6 ep6 c6 => hn f (by rw [hu4]; exact e6) μ6 (x5.trg ep6) c6)
    unfold uf
    by_cases gi : i = l
    · rw [if_pos gi, gi]
      have nr : ∀ o, 19 ≤ o → ¬ Rd6 o l := fun o ho => by unfold Rd6; omega
      have w19 : μ4 19 l = v := by rw [ep4 _ _ (by unfold S20 Rd; omega)]; exact v19
      exact ⟨⟨by rw [ep5 _ _ (nr 19 (by omega))]; exact w19, by rw [ep5 _ _ (nr 20 (by omega))]; exact w20, by rw [ep5 _ _ (nr 21 (by omega))]; exact w21, by rw [ep5 _ _ (nr 22 (by omega))]; exact w22⟩, xb⟩
    · rw [if_neg gi]
      have := hD i i0 (by omega)
      exact ⟨this.1.ep y5 (fun o o0 o1 => by unfold S19 Rd; omega), this.2⟩
theorem s1c (hd : 12 ≤ d) (hT : TaW μ n T) (hB : TB n T) (hy : ∀ c D, pCs 3 n T 16 0 (fun _ => (0, 0, 0, 0)) 0 = .ok (c, D) → ∀ μ', Ep RW0 μ μ' → 0 ≤ c → c ≤ 16 → μ' 18 0 = c → (∀ i, 0 ≤ i → i < c → cw1 μ' i (D i) ∧ chB (D i)) → Φ (some (.inl 1)) μ') (hn : ∀ f, pCs 3 n T 16 0 (fun _ => (0, 0, 0, 0)) 0 = .error f → ∀ μ', Ef RW0 μ μ' → CF f μ' → Φ (some (.inl 0)) μ') : Ct E d 1 [.inr 18, .inr 1] μ Φ := by
  have a1 : ∀ {μ1 : Mm}, Ep (fun o i => (3 ≤ o ∧ o ≤ 5) ∨ (o = 1 ∧ 5 ≤ i ∧ i ≤ 7)) μ μ1 → Ep RW0 μ μ1 := fun e => e.mono (fun o i k => by unfold RW0; omega)
  have a2 : ∀ {μ1 μ2 : Mm}, Ep S18 μ1 μ2 → Ep RW0 μ1 μ2 := fun e => e.mono (fun o i k => by unfold S18 Rd at k; unfold RW0; omega)
  have a2f : ∀ {μ1 μ2 : Mm}, Ef S18 μ1 μ2 → Ef RW0 μ1 μ2 := fun e => e.mono (fun o i k => by unfold S18 Rd at k; unfold RW0; omega)
  refine v1 (by omega) (s41 (k := 3) (by omega) (by decide) hT hB (fun μ1 e1 c1 => ?_))
  exact g1 (by omega) (by decide) hB 16 0 _ 0 μ1 rfl (Int.le_refl _) c1 (fun i i0 i1 => by omega) (fun c D e2 μ2 ep2 c0 c16 v14 h2 => hy c D e2 μ2 ((a1 e1).trg (a2 ep2)) c0 c16 v14 h2) (fun f e2 μ2 ep2 c2 => hn f e2 μ2 ((a1 e1).trg (a2f ep2)) c2)
end S62
