/-! CHANGES as the reference reads them -/
def SmC (a : Int) : Nat → Int → Prop := fun o i => Sq o i ∨ (o = 138 ∧ i = 64) ∨ (o = 139 ∧ 512 ≤ i) ∨ (o = 141 ∧ a ≤ i ∧ i < a + 4)
def SmD : Nat → Int → Prop := fun o i => Sq o i ∨ (o = 138 ∧ i = 64) ∨ (o = 139 ∧ 512 ≤ i) ∨ (o = 141 ∧ 64 ≤ i)
section S63
variable {E : En} {d : Nat} {Φ : Option AV → Mm → Prop} {μ μ' : Mm} {n p q : Int} {T : Int → Int} {k : Nat} {f : Flt}
/-- the amount and the mark -/
theorem a199 {a b : Int} (hd : 6 ≤ d) (hk : k < 4) (hB : TB n T) (a0 : 64 ≤ a) (a1 : a + 3 < 128) (hb : inR b) (hM : MX k n T μ p) (hy : ∀ v q1 q, pNu k n T 1 b p = .ok (v, q1) → pMa k n T 59 q1 = .ok q → ∀ μ', Ep (fun o i => Sq o i ∨ (o = 141 ∧ i = a + 3)) μ μ' → MX k n T μ' q → μ' 141 (a + 3) = v → Φ (some (.inl 0)) μ') (hn : ∀ f, ((pNu k n T 1 b p).bind fun x => pMa k n T 59 x.2) = .error f → ∀ μ', Ep (fun o i => Sq o i ∨ (o = 141 ∧ i = a + 3)) μ μ' → MF f μ' → Φ (some (.inl (-1))) μ') : Ct E (d - 1) 193 [.inr 123, .inl 1, .inl b] μ (rI (fun z13 μ12 => (0 ≤ a + 3 ∧ a + 3 < 128) ∧ ((0 ≤ a + 3 ∧ a + 3 < 128) ∧ ((inR ((mu μ12 141 (a + 3) z13) 141 (a + 3))) ∧ (((mu μ12 141 (a + 3) z13) 141 (a + 3)) ≠ (-1) → (Ct E (d - 1) 194 [.inr 123, .inl 59] (mu μ12 141 (a + 3) z13) (rI (fun z15 μ14 => Φ (some (.inl z15)) μ14)))) ∧ (((mu μ12 141 (a + 3) z13) 141 (a + 3)) = (-1) → Φ (some (.inl (-1))) (mu μ12 141 (a + 3) z13)))))) := by
  refine s193 (by omega) hk hB hM (inR_of (by decide) (by decide)) hb (fun v q1 h1 μ1 e1 m1 => ?_) (fun f h1 μ1 e1 f1 => ?_)
  · have v3 : mu μ1 141 (a + 3) v 141 (a + 3) = v := mu_s _ _ _ _
    have vb := pNu_o h1
    have nr := toN_r (T := T) hk hM.1.2.2.2.2.2.1 vb.1
    have e2 : Ep (fun o i => o = 141 ∧ i = a + 3) μ1 (mu μ1 141 (a + 3) v) := Ep.rf.mu ⟨rfl, rfl⟩
    have e12 : Ep (fun o i => Sq o i ∨ (o = 141 ∧ i = a + 3)) μ (mu μ1 141 (a + 3) v) := (e1.mono (fun o i k => Or.inl k)).tr (e2.mono (fun o i k => Or.inr k))
    refine ⟨by omega, by omega, by rw [v3]; exact inR_of (by omega) (by omega), fun _ => ?_, fun g => by rw [v3] at g; omega⟩
    refine s194 (by omega) hk hB (m1.ep e2 (fun o i k => by omega)) (by decide) (by decide) (fun q h2 μ3 e3 m3 => hy v q1 q h1 h2 μ3 (e12.tr (e3.mono (fun o i k => Or.inl k))) m3 (by rw [e3 _ _ (by unfold Sq; omega)]; exact v3)) (fun f h2 μ3 e3 f3 => hn f (by rw [h1]; exact h2) μ3 (e12.tr (e3.mono (fun o i k => Or.inl k))) f3)
  · have v3 : mu μ1 141 (a + 3) (-1) 141 (a + 3) = -1 := mu_s _ _ _ _
    have e2 : Ep (fun o i => o = 141 ∧ i = a + 3) μ1 (mu μ1 141 (a + 3) (-1)) := Ep.rf.mu ⟨rfl, rfl⟩
    refine ⟨by omega, by omega, by rw [v3]; exact inR_of (by decide) (by decide), fun g => absurd v3 g, fun _ => hn f (by rw [h1]; rfl) _ ((e1.mono (fun o i k => Or.inl k)).tr (e2.mono (fun o i k => Or.inr k))) ⟨by rw [mu_o (by decide)]; exact f1.1, by rw [mu_o (by decide)]; exact f1.2⟩⟩
/-- a word, the amount and the mark -/
theorem b199 {a W : Int} {X2 X3 : Mm → Prop} (hd : 6 ≤ d) (hk : k < 4) (hB : TB n T) (a0 : 64 ≤ a) (a1 : a + 3 < 128) (w0 : 0 ≤ W) (w1 : W < 2) (hM : MX k n T μ p) (hy : ∀ x q2 v q1 q, pWo k n T 1 p = .ok (x, q2) → pNu k n T 1 50 q2 = .ok (v, q1) → pMa k n T 59 q1 = .ok q → ∀ μ', Ep (fun o i => Sp 64 o i ∨ (o = 141 ∧ (i = a + 2 ∨ i = a + 3))) μ μ' → MX k n T μ' q → μ' 141 (a + 2) = T x.1 - 97 → μ' 141 (a + 3) = v → Φ (some (.inl 0)) μ') (hn : ∀ f, ((pWo k n T 1 p).bind fun y => (pNu k n T 1 50 y.2).bind fun x => pMa k n T 59 x.2) = .error f → ∀ μ', Ep (fun o i => Sp 64 o i ∨ (o = 141 ∧ (i = a + 2 ∨ i = a + 3))) μ μ' → MF f μ' → Φ (some (.inl (-1))) μ') : Ct E (d - 1) 196 [.inr 123, .inl 64, .inl 1] μ (rI (fun z9 μ8 => inR z9 ∧ (z9 ≠ (-1) → ((0 ≤ a + 2 ∧ a + 2 < 128) ∧ ((inR W) ∧ (W = 3 → X3 μ8) ∧ (W ≠ 3 → ((inR W) ∧ (W ≠ 2 → (Ct E (d - 1) 193 [.inr 123, .inl 1, .inl 50] (mu μ8 141 (a + 2) (μ8 139 512)) (rI (fun z13 μ12 => (0 ≤ a + 3 ∧ a + 3 < 128) ∧ ((0 ≤ a + 3 ∧ a + 3 < 128) ∧ ((inR ((mu μ12 141 (a + 3) z13) 141 (a + 3))) ∧ (((mu μ12 141 (a + 3) z13) 141 (a + 3)) ≠ (-1) → (Ct E (d - 1) 194 [.inr 123, .inl 59] (mu μ12 141 (a + 3) z13) (rI (fun z15 μ14 => Φ (some (.inl z15)) μ14)))) ∧ (((mu μ12 141 (a + 3) z13) 141 (a + 3)) = (-1) → Φ (some (.inl (-1))) (mu μ12 141 (a + 3) z13)))))))) ∧ (W = 2 → X2 μ8)))))) ∧ (z9 = (-1) → Φ (some (.inl (-1))) μ8))) := by
  have wi : inR W := inR_of (by omega) (by omega)
  refine s196 (by omega) hk hB hM (by decide) (by decide) (by decide) (by decide) (fun x q2 h1 μ1 e1 m1 v38 v39 => ?_) (fun f h1 μ1 e1 f1 => ⟨inR_of (by decide) (by decide), fun g => absurd rfl g, fun _ => hn f (by rw [h1]; rfl) μ1 (e1.mono (fun o i k => Or.inl k)) f1⟩)
  have xb := pWo_q hM.1.2.2.2.2.1 hM.1.2.2.2.2.2.1 h1
  have e2 : Ep (fun o i => o = 141 ∧ i = a + 2) μ1 (mu μ1 141 (a + 2) (μ1 139 512)) := Ep.rf.mu ⟨rfl, rfl⟩
  have lt : μ1 139 512 = T x.1 - 97 := by
    have := v39 0 (by omega) (by omega)
    rwa [show x.1 + 0 = x.1 by omega] at this
  have v2 : mu μ1 141 (a + 2) (μ1 139 512) 141 (a + 2) = T x.1 - 97 := by rw [mu_s]; exact lt
  have e12 : Ep (fun o i => Sp 64 o i ∨ (o = 141 ∧ (i = a + 2 ∨ i = a + 3))) μ (mu μ1 141 (a + 2) (μ1 139 512)) := (e1.mono (fun o i k => Or.inl k)).tr (e2.mono (fun o i k => Or.inr (by omega)))
  refine ⟨inR_of (by decide) (by decide), fun _ => ⟨by omega, wi, fun g => by omega, fun _ => ⟨wi, fun _ => ?_, fun g => by omega⟩⟩, fun g => absurd g (by decide)⟩
  have sq : ∀ {o : Nat} {i : Int}, Sq o i ∨ (o = 141 ∧ i = a + 3) → Sp 64 o i ∨ (o = 141 ∧ (i = a + 2 ∨ i = a + 3)) := fun h => by
    rcases h with h | h
    · exact Or.inl (Or.inl h)
    · exact Or.inr (by omega)
  refine a199 (by omega) hk hB a0 a1 (inR_of (by decide) (by decide)) (m1.ep e2 (fun o i k => by omega)) (fun v q1 q h2 h3 μ3 e3 m3 v3 => hy x q2 v q1 q h1 h2 h3 μ3 (e12.tr (e3.mono (fun o i => sq))) m3 (by rw [e3 _ _ (by unfold Sq; omega)]; exact v2) v3) (fun f h2 μ3 e3 f3 => hn f (by rw [h1]; exact h2) μ3 (e12.tr (e3.mono (fun o i => sq))) f3)
theorem pCh_4 {p1 v p2 : Int} (h : pMa k n T 128 p = .ok p1) (h2 : pNu k n T 0 999 p1 = .ok (v, p2)) (h3 : pDd k n T p2 = .error f) : pCh k n T p = .error f := by
  rw [pCh_3 h h2, h3]
  rfl
theorem pCh_5 {p1 v p2 p3 : Int} {x : Int × Int × Int} (h : pMa k n T 128 p = .ok p1) (h2 : pNu k n T 0 999 p1 = .ok (v, p2)) (h3 : pDd k n T p2 = .ok (x, p3)) : pCh k n T p = (pMa k n T 59 p3).bind fun q => .ok ((v, x), q) := by
  rw [pCh_3 h h2, h3]
  rfl
theorem s199 {a : Int} (hd : 7 ≤ d) (hB : TB n T) (a0 : 64 ≤ a) (a1 : a + 3 < 128) (hM : MX 3 n T μ p) (hy : ∀ x q, pCh 3 n T p = .ok (x, q) → ∀ μ', Ep (SmC a) μ μ' → MX 3 n T μ' q → cm1 μ' a x → Φ (some (.inl 0)) μ') (hn : ∀ f, pCh 3 n T p = .error f → ∀ μ', Ep (SmC a) μ μ' → MF f μ' → Φ (some (.inl (-1))) μ') : Ct E d 199 [.inr 123, .inl a] μ Φ := by
  have hk : 3 < 4 := by decide
  have sq : ∀ {o i}, Sq o i → SmC a o i := fun h => Or.inl h
  refine v199 (by omega) (s195 (k := 3) (by omega) hk hB hM (inR_of (by decide) (by decide)) (fun p1 v q1 h1 h2 μ1 e1 m1 => ?_) (fun f h1 μ1 e1 f1 => ?_))
  · have v0 : mu μ1 141 a v 141 a = v := mu_s _ _ _ _
    have vb := pNu_o h2
    have e2 : Ep (fun o i => o = 141 ∧ i = a) μ1 (mu μ1 141 a v) := Ep.rf.mu ⟨rfl, rfl⟩
    have e12 : Ep (SmC a) μ (mu μ1 141 a v) := (e1.mono (fun o i => sq)).tr (e2.mono (fun o i k => Or.inr (by omega)))
    have m2 := m1.ep e2 (fun o i k => by omega)
    have q0 := m2.1.2.2.2.2.1
    have qn := m2.1.2.2.2.2.2.1
    have t := m2.tk hk hB
    have kr := toK_r (T := T) hk hB q0 qn
    have k18 : ((kb 3 : Nat) : Int) = 18 := by decide
    have t11 : mu μ1 141 a v 123 11 = μ1 123 11 := mu_o (by decide)
    have t12 : mu μ1 141 a v 123 12 = μ1 123 12 := mu_o (by decide)
    refine ⟨by omega, by omega, by rw [v0]; exact inR_of (by omega) (by omega), fun _ => ?_, fun g => by rw [v0] at g; omega⟩
    rw [t11, t12] at t
    refine ⟨t.1, fun g => s178 (by omega) m2 (fun μ' e3 f3 => hn _ (pCh_4 h1 h2 (pDd_1 (by omega))) μ' (e12.tr (e3.mono (fun o i => sq))) f3), fun g => ?_⟩
    have vv := t.2.2.2.2.2.2.2.2 (by omega)
    rw [k18] at vv
    rw [vv]
    refine s153 (by omega) (inR_of (by omega) (by omega)) (inR_of (by decide) (by decide)) (inR_of (by decide) (by decide)) ⟨b2_in _, fun z => ?_, fun z => s178 (by omega) m2 (fun μ' e3 f3 => hn _ (pCh_4 h1 h2 (pDd_1 (by have := b2_0.mp z; omega))) μ' (e12.tr (e3.mono (fun o i => sq))) f3)⟩
    have z := b2_ne0.mp z
    refine u_177 (by omega) hk hB m2 (fun μ7 e7 m7 => ?_)
    simp only [rV]
    rw [t12, vv]
    have wi : inR (18 + (toK 3 n T q1 - 128) - 19) := inR_of (by omega) (by omega)
    have e8 : Ep (fun o i => o = 141 ∧ a + 1 ≤ i ∧ i ≤ a + 3) μ7 (mu (mu (mu μ7 141 (a + 1) (18 + (toK 3 n T q1 - 128) - 19)) 141 (a + 2) 0) 141 (a + 3) 0) := ((Ep.rf.mu (by omega)).mu (by omega)).mu (by omega)
    have w1 : mu (mu (mu μ7 141 (a + 1) (18 + (toK 3 n T q1 - 128) - 19)) 141 (a + 2) 0) 141 (a + 3) 0 141 (a + 1) = toK 3 n T q1 - 129 := by rw [mu_i (by omega), mu_i (by omega), mu_s]; omega
    have w2 : mu (mu (mu μ7 141 (a + 1) (18 + (toK 3 n T q1 - 128) - 19)) 141 (a + 2) 0) 141 (a + 3) 0 141 (a + 2) = 0 := by rw [mu_i (by omega), mu_s]
    have w3 : mu (mu (mu μ7 141 (a + 1) (18 + (toK 3 n T q1 - 128) - 19)) 141 (a + 2) 0) 141 (a + 3) 0 141 (a + 3) = 0 := mu_s _ _ _ _
    have w0 : mu (mu (mu μ7 141 (a + 1) (18 + (toK 3 n T q1 - 128) - 19)) 141 (a + 2) 0) 141 (a + 3) 0 141 a = v := by rw [mu_i (by omega), mu_i (by omega), mu_i (by omega), e7 _ _ (by unfold Sr; omega)]; exact v0
    generalize mu (mu (mu μ7 141 (a + 1) (18 + (toK 3 n T q1 - 128) - 19)) 141 (a + 2) 0) 141 (a + 3) 0 = μ8 at *
    have m8 := m7.ep e8 (fun o i k => by omega)
    have x8 : Ep (SmC a) μ μ8 := (e12.tr (e7.mono (fun o i k => sq (Sr_q k)))).tr (e8.mono (fun o i k => Or.inr (by omega)))
    have sA : ∀ {o : Nat} {i : Int}, Sq o i ∨ (o = 141 ∧ i = a + 3) → SmC a o i := fun h => by
      rcases h with h | h
      · exact Or.inl h
      · exact Or.inr (by omega)
    have sB : ∀ {o : Nat} {i : Int}, Sp 64 o i ∨ (o = 141 ∧ (i = a + 2 ∨ i = a + 3)) → SmC a o i := fun h => by
      unfold Sp at h
      rcases h with (h | h) | h
      · exact Or.inl h
      · exact Or.inr (by omega)
      · exact Or.inr (by omega)
    -- with a word
    have wd : toK 3 n T q1 = 129 ∨ toK 3 n T q1 = 130 → ∀ {X2 X3 : Mm → Prop}, _ := fun g2 {X2 X3} => b199 (E := E) (Φ := Φ) (X2 := X2) (X3 := X3) (W := 18 + (toK 3 n T q1 - 128) - 19) (by omega : 6 ≤ d) hk hB a0 a1 (by omega) (by omega) m8 (fun x q2 v3 q3 q4 h3 h4 h5 μ9 e9 m9 w4 w5 => hy (v, toK 3 n T q1 - 129, T x.1 - 97, v3) q4 (by rw [pCh_3 h1 h2, pDd_2 g2, h3]; show (((pNu 3 n T 1 50 q2).bind _).bind _) = _; rw [h4]; show (pMa 3 n T 59 q3).bind _ = _; rw [h5]; rfl) μ9 (x8.tr (e9.mono (fun o i => sB))) m9 ⟨by rw [e9 _ _ (by unfold Sp Sq; omega)]; exact w0, by rw [e9 _ _ (by unfold Sp Sq; omega)]; exact w1, w4, w5⟩) (fun f h3 μ9 e9 f9 => hn f (by
        rw [pCh_3 h1 h2, pDd_2 g2]
        cases h4 : pWo 3 n T 1 (toE n T q1) with
        | error f4 => rw [h4] at h3; cases h3; rfl
        | ok y =>
          rw [h4] at h3
          replace h3 : ((pNu 3 n T 1 50 y.2).bind fun x => pMa 3 n T 59 x.2) = .error f := h3
          show (((pNu 3 n T 1 50 y.2).bind _).bind _) = _
          cases h5 : pNu 3 n T 1 50 y.2 with
          | error f5 => rw [h5] at h3; cases h3; rfl
          | ok x =>
            rw [h5] at h3
            replace h3 : pMa 3 n T 59 x.2 = .error f := h3
            show (pMa 3 n T 59 x.2).bind _ = _
            rw [h3]
            rfl) μ9 (x8.tr (e9.mono (fun o i => sB))) f9)
    refine ⟨by omega, by omega, by omega, wi, fun g2 => wd (by omega), fun g2 => ⟨wi, fun g3 => ⟨wi, fun g4 => ?_, fun g4 => ⟨wi, fun g5 => by omega, fun g5 => ?_⟩⟩, fun g3 => wd (by omega)⟩⟩
    · refine ⟨by omega, by rw [w3]; exact inR_of (by decide) (by decide), fun _ => ?_, fun g5 => by rw [w3] at g5; exact absurd g5 (by decide)⟩
      have hu := pCh_5 h1 h2 (pDd_4 (k := 3) (n := n) (T := T) (p := q1) (by omega))
      exact s194 (by omega) hk hB m8 (by decide) (by decide) (fun q h3 μ9 e9 m9 => hy (v, 3, 0, 0) q (by rw [hu, h3]; rfl) μ9 (x8.tr (e9.mono (fun o i => sq))) m9 ⟨by rw [e9 _ _ (by unfold Sq; omega)]; exact w0, by rw [e9 _ _ (by unfold Sq; omega), w1]; show _ = (3 : Int); omega, by rw [e9 _ _ (by unfold Sq; omega)]; exact w2, by rw [e9 _ _ (by unfold Sq; omega)]; exact w3⟩) (fun f h3 μ9 e9 f9 => hn f (by rw [hu, h3]; rfl) μ9 (x8.tr (e9.mono (fun o i => sq))) f9)
    · have g6 : toK 3 n T q1 = 131 := by omega
      refine a199 (by omega) hk hB a0 a1 (inR_of (by decide) (by decide)) m8 (fun v3 q3 q4 h3 h4 μ9 e9 m9 w5 => hy (v, 2, 0, v3) q4 (by rw [pCh_3 h1 h2, pDd_3 g6, h3]; show (pMa 3 n T 59 q3).bind _ = _; rw [h4]; rfl) μ9 (x8.tr (e9.mono (fun o i => sA))) m9 ⟨by rw [e9 _ _ (by unfold Sq; omega)]; exact w0, by rw [e9 _ _ (by unfold Sq; omega), w1]; show _ = (2 : Int); omega, by rw [e9 _ _ (by unfold Sq; omega)]; exact w2, w5⟩) (fun f h3 μ9 e9 f9 => hn f (by
        rw [pCh_3 h1 h2, pDd_3 g6]
        cases h5 : pNu 3 n T 1 9 (toE n T q1) with
        | error f5 => rw [h5] at h3; cases h3; rfl
        | ok x =>
          rw [h5] at h3
          replace h3 : pMa 3 n T 59 x.2 = .error f := h3
          show (pMa 3 n T 59 x.2).bind _ = _
          rw [h3]
          rfl) μ9 (x8.tr (e9.mono (fun o i => sA))) f9)
  · have v0 : mu μ1 141 a (-1) 141 a = -1 := mu_s _ _ _ _
    have e2 : Ep (fun o i => o = 141 ∧ i = a) μ1 (mu μ1 141 a (-1)) := Ep.rf.mu ⟨rfl, rfl⟩
    refine ⟨by omega, by omega, by rw [v0]; exact inR_of (by decide) (by decide), fun g => absurd v0 g, fun _ => hn f ?_ _ ((e1.mono (fun o i => sq)).tr (e2.mono (fun o i k => Or.inr (by omega)))) ⟨by rw [mu_o (by decide)]; exact f1.1, by rw [mu_o (by decide)]; exact f1.2⟩⟩
    cases h3 : pMa 3 n T 128 p with
    | error f' =>
      rw [h3] at h1
      cases h1
      exact pCh_1 h3
    | ok p2 =>
      rw [h3] at h1
      exact pCh_2 h3 h1
theorem cm1.ep {S : Nat → Int → Prop} {l : Int} {x : Int × Int × Int × Int} (h : cm1 μ l x) (e : Ep S μ μ') (h0 : ∀ i, l ≤ i → i < l + 4 → ¬ S 141 i) : cm1 μ' l x :=
  ⟨by rw [e _ _ (h0 _ (by omega) (by omega))]; exact h.1, by rw [e _ _ (h0 _ (by omega) (by omega))]; exact h.2.1, by rw [e _ _ (h0 _ (by omega) (by omega))]; exact h.2.2.1, by rw [e _ _ (h0 _ (by omega) (by omega))]; exact h.2.2.2⟩
theorem g200 (hd : 8 ≤ d) (hB : TB n T) : ∀ (m : Nat) (l : Int) (D : Int → Int × Int × Int × Int) (p : Int) (μ : Mm), l + m = 16 → 0 ≤ l → MX 3 n T μ p → (∀ i, 0 ≤ i → i < l → cm1 μ (64 + 4 * i) (D i) ∧ chB (D i)) → (∀ c D', pCs 3 n T m l D p = .ok (c, D') → ∀ μ', Ep SmD μ μ' → 0 ≤ c → c ≤ 16 → (∀ i, 0 ≤ i → i < c → cm1 μ' (64 + 4 * i) (D' i) ∧ chB (D' i)) → Φ (some (.inl c)) μ') → (∀ f, pCs 3 n T m l D p = .error f → ∀ μ', Ep SmD μ μ' → MF f μ' → Φ (some (.inl (-1))) μ') → G E d 200 Φ 2 [some (.inr 123), some (.inl l)] [] μ := by
  intro m
  have hk : 3 < 4 := by decide
  induction m with
  | zero =>
    intro l D p μ hl l0 hM hD hy hn
    have l16 : l = 16 := by omega
    subst l16
    have t := hM.tk hk hB
    refine v200_2 (by omega) (s179 (k := 3) (c := 0) (by omega) hk hB hM (by decide) (by decide) ⟨b2_in _, fun g => ⟨t.1, fun g2 => s178 (by omega) hM (fun μ' e1 f1 => hn _ (pCs_1 _ (by omega) (by have := b2_0.mp g; omega)) μ' (e1.mono (fun o i k => Or.inl k)) f1), fun g2 => hy _ _ (pCs_0 _ (by omega)) μ Ep.rf (by decide) (by decide) hD⟩, fun g => ⟨inR_of (by decide) (by decide), fun g2 => absurd rfl g2, fun _ => ?_⟩⟩)
    exact s178 (by omega) hM (fun μ' e1 f1 => hn _ (pCs_3 (by have := b2_ne0.mp g; omega)) μ' (e1.mono (fun o i k => Or.inl k)) f1)
  | succ m ih =>
    intro l D p μ hl l0 hM hD hy hn
    have t := hM.tk hk hB
    refine v200_2 (by omega) (s179 (k := 3) (c := 0) (by omega) hk hB hM (by decide) (by decide) ⟨b2_in _, fun g => ⟨t.1, fun g2 => s178 (by omega) hM (fun μ' e1 f1 => hn _ (pCs_1 _ (by omega) (by have := b2_0.mp g; omega)) μ' (e1.mono (fun o i k => Or.inl k)) f1), fun g2 => hy _ _ (pCs_0 _ (by omega)) μ Ep.rf l0 (by omega) hD⟩, fun g => ⟨inR_of (by omega) (by omega), fun _ => ?_, fun g2 => by omega⟩⟩)
    have g : toK 3 n T p = 128 := by have := b2_ne0.mp g; omega
    have hu := pCs_2 (k := 3) (n := n) (T := T) (l := l) (D := D) m (by omega : toK 3 n T p ≠ 0)
    have p0 := hM.1.2.2.2.2.1
    have p1 := hM.1.2.2.2.2.2.1
    have sC : ∀ {o i}, SmC (64 + 4 * l) o i → SmD o i := fun h => by
      unfold SmC at h
      rcases h with h | h | h | h
      · exact Or.inl h
      · exact Or.inr (Or.inl h)
      · exact Or.inr (Or.inr (Or.inl h))
      · exact Or.inr (Or.inr (Or.inr (by omega)))
    refine s199 (by omega) hB (by omega) (by omega) hM (fun x q h1 μ1 e1 m1 c1 => ⟨inR_of (by decide) (by decide), fun _ => ?_, fun g => absurd g (by decide)⟩) (fun f h1 μ1 e1 f1 => ⟨inR_of (by decide) (by decide), fun g => absurd rfl g, fun _ => hn f (by rw [hu, h1]; rfl) μ1 (e1.mono (fun o i => sC)) f1⟩)
    have hu2 : pCs 3 n T (m + 1) l D p = pCs 3 n T m (l + 1) (uf D l x) q := by rw [hu, h1]; rfl
    have xb := (pCh_o p0 p1 h1).1
    have x1 := e1.mono (fun o i => sC)
    refine ih (l + 1) (uf D l x) q μ1 (by omega) (by omega) m1 (fun i i0 i1 => ?_) (fun c D' e3 μ3 ep3 c0 c16 h2 => hy c D' (by rw [hu2]; exact e3) μ3 (x1.tr ep3) c0 c16 h2) (fun f e3 μ3 ep3 c3 => hn f (by rw [hu2]; exact e3) μ3 (x1.tr ep3) c3)
    unfold uf
    by_cases gi : i = l
    · rw [if_pos gi, gi]
      exact ⟨c1, xb⟩
    · rw [if_neg gi]
      have h4 := hD i i0 (by omega)
      exact ⟨h4.1.ep e1 (fun j j0 j1 => by unfold SmC Sq; omega), h4.2⟩
end S63
