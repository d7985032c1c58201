/-! conditions of a law in the class -/
def hv (x : Int) : Int := if x = 9 then 134 else if x = 10 then 133 else if x = 11 then 132 else 40
def SD (μ : Mm) (cs : List Int) : Prop := μ 6 8 = cs.length ∧ stk (μ 12) (cs.map hv) ∧ μ 6 9 = opN cs
def S10 : Nat → Int → Prop := fun o i => o = 11 ∨ (o = 6 ∧ (i = 6 ∨ i = 8 ∨ i = 9))
def S7 : Nat → Int → Prop := fun o i => Rd o i ∨ o = 12 ∨ (o = 6 ∧ (i = 8 ∨ i = 9))
def S8 : Nat → Int → Prop := fun o i => Rd o i ∨ o = 11 ∨ (o = 6 ∧ (i = 6 ∨ i = 8 ∨ i = 9))
def S6 : Nat → Int → Prop := fun o i => Rd o i ∨ o = 11 ∨ o = 12 ∨ (o = 6 ∧ (i = 6 ∨ i = 8 ∨ i = 9))
section S67
variable {E : En} {d : Nat} {Φ : Option AV → Mm → Prop} {μ μ' : Mm} {n p q : Int} {T : Int → Int} {l : Cd} {O : Except Flt (Int × Cd)} {cs : List Int}
theorem hv_9 : hv 9 = 134 := rfl
theorem hv_10 : hv 10 = 133 := rfl
theorem hv_11 : hv 11 = 132 := rfl
theorem hv_12 : hv 12 = 40 := rfl
theorem stk_c {m m' : Int → Int} : ∀ s : List Int, (∀ j, 0 ≤ j → j < s.length → m' j = m j) → stk m s → stk m' s
  | [], _, _ => trivial
  | x :: r, e, h => by
    rw [List.length_cons] at e
    exact ⟨by rw [e _ (by omega) (by omega)]; exact h.1, stk_c r (fun j j0 j1 => e j j0 (by omega)) h.2⟩
theorem SD.ep {S : Nat → Int → Prop} (h : SD μ cs) (e : Ep S μ μ') (hs : ∀ o i, o = 12 ∨ (o = 6 ∧ (i = 8 ∨ i = 9)) → ¬ S o i) : SD μ' cs :=
  ⟨by rw [e 6 8 (hs _ _ (by omega))]; exact h.1, stk_c _ (fun j _ _ => e 12 j (hs _ _ (by omega))) h.2.1, by rw [e 6 9 (hs _ _ (by omega))]; exact h.2.2⟩
/-- held -/
theorem t_9 {x a : Int} (hd : 1 ≤ d) (hx : hv x = a) (h8 : μ 6 8 = cs.length) (hs : stk (μ 12) (cs.map hv)) (hl : cs.length < 32) (h : ∀ μ', Ep (fun o i => o = 12 ∨ (o = 6 ∧ i = 8)) μ μ' → μ' 6 8 = (x :: cs).length → stk (μ' 12) ((x :: cs).map hv) → Φ none μ') : Ct E d 9 [.inr 6, .inl a] μ Φ := by
  refine v9 hd ?_
  rw [h8]
  refine ⟨inR_of (by omega) (by omega), fun g => by omega, fun _ => ⟨by omega, h _ ((Ep.rf.mu (by omega)).mu (by omega)) ?_ ⟨?_, ?_⟩⟩⟩
  · rw [mu_s, List.length_cons]; omega
  · rw [mu_o (by decide), List.length_map, mu_s, hx]
  · rw [show mu (mu μ 12 (cs.length : Int) a) 6 8 ((cs.length : Int) + 1) 12 = mu μ 12 (cs.length : Int) a 12 from funext fun i => mu_o (by decide)]
    exact stk_mu _ hs (by rw [List.length_map]; omega)
/-- what is held comes out -/
theorem t_10 {b a : Int} (hd : 3 ≤ d) (hb : (b = 10 ∧ a = 133) ∨ (b = 11 ∧ a = 132)) : ∀ (cs : List Int) (l : Cd) (μ : Mm), adj cs → cs.length ≤ 32 → (l.length : Int) + cs.length ≤ 400 → opN cs ≤ 8 → SD μ cs → LC μ l → (∀ μ', Ep S10 μ μ' → SD μ' (pGe b cs l).1 → LC μ' (pGe b cs l).2 → Φ none μ') → G E d 10 Φ 0 [some (.inr 6), some (.inl a)] [] μ := by
  intro cs
  have ia : inR a := by rcases hb with ⟨_, e⟩ | ⟨_, e⟩ <;> rw [e] <;> exact inR_of (by decide) (by decide)
  induction cs with
  | nil =>
    intro l μ _ _ _ _ hS hL h
    have h8 : μ 6 8 = 0 := hS.1
    refine v10_0 (by omega) ?_
    rw [h8]
    exact ⟨inR_of (by decide) (by decide), fun _ => h μ Ep.rf hS hL, fun g => absurd g (by decide)⟩
  | cons y r ih =>
    intro l μ ha h32 hl ho hS hL h
    have hy := ha.1
    have h8 : μ 6 8 = (r.length : Int) + 1 := by rw [hS.1, List.length_cons]; omega
    have hS2 := hS.2.1
    have h12 : μ 12 (r.length : Int) = hv y := by
      have := hS2.1
      rwa [List.length_map] at this
    have h13 : stk (μ 12) (r.map hv) := hS2.2
    rw [List.length_cons] at h32 hl
    have iv : inR (hv y) := by
      rcases (by omega : y = 9 ∨ y = 10 ∨ y = 11 ∨ y = 12) with e | e | e | e <;> rw [e] <;> exact inR_of (by decide) (by decide)
    refine v10_0 (by omega) ?_
    rw [h8, show (r.length : Int) + 1 - 1 = r.length by omega, h12]
    refine ⟨inR_of (by omega) (by omega), fun g => by omega, fun _ => ⟨by omega, iv, ia, fun g => ?_, fun g => ⟨by omega, ?_⟩⟩⟩
    · have hlt : b < y := by
        rcases (by omega : y = 9 ∨ y = 10 ∨ y = 11 ∨ y = 12) with e | e | e | e <;> subst e
        · rw [hv_9] at g; omega
        · rw [hv_10] at g; omega
        · rw [hv_11] at g; omega
        · omega
      rw [pGe_s (y :: r) l hlt] at h
      exact h μ Ep.rf hS hL
    · have hle : y ≤ b := by
        rcases (by omega : y = 9 ∨ y = 10 ∨ y = 11 ∨ y = 12) with e | e | e | e <;> subst e
        · omega
        · omega
        · rw [hv_11] at g; omega
        · rw [hv_12] at g; omega
      rw [pGe_p hle] at h
      have e0 : Ep (fun o i => o = 6 ∧ i = 8) μ (mu μ 6 8 (r.length : Int)) := Ep.rf.mu ⟨rfl, rfl⟩
      have tr : trC (y, 0) = -100 - hv y := by
        rcases (by omega : y = 9 ∨ y = 10 ∨ y = 11) with e | e | e <;> rw [e] <;> rfl
      refine t_13 (c := (y, 0)) (by omega) tr (hL.ep e0 (fun o i k => by omega)) (by omega) (fun μ1 e1 hL1 => ?_)
      have k8 : μ1 6 8 = r.length := by rw [e1 _ _ (by omega), mu_s]
      have k12 : μ1 12 (r.length : Int) = hv y := by rw [e1 _ _ (by omega), e0 _ _ (by omega)]; exact h12
      have k9 : μ1 6 9 = opN (y :: r) := by rw [e1 _ _ (by omega), e0 _ _ (by omega)]; exact hS.2.2
      have k13 : stk (μ1 12) (r.map hv) := stk_c _ (fun j _ _ => by rw [e1 _ _ (by omega), e0 _ _ (by omega)]) h13
      have eA : Ep S10 μ μ1 := (e0.mono (fun o i k => by unfold S10; omega)).trg (e1.mono (fun o i k => by unfold S10; omega))
      have r0 := opN_0 r
      have ll : (((l ++ [(y, 0)]).length : Nat) : Int) + r.length ≤ 400 := by
        rw [List.length_append]
        show ((l.length + 1 : Nat) : Int) + _ ≤ _
        omega
      simp only [rV]
      rw [k8, k12]
      refine ⟨by omega, iv, fun g2 => ?_, fun g2 => ?_⟩
      · have y9 : y ≠ 9 := fun e => g2 (by rw [e]; rfl)
        have oe : opN (y :: r) = opN r := by
          show (if y = 9 ∨ y = 12 then 1 else 0) + opN r = _
          rw [if_neg (by omega)]; omega
        exact ih _ μ1 ha.2.2.2 (by omega) ll (by omega) ⟨k8, k13, by rw [k9, oe]⟩ hL1 (fun μ2 e2 s2 l2 => h μ2 (eA.trg e2) s2 l2)
      · have y9 : y = 9 := by
          rcases (by omega : y = 9 ∨ y = 10 ∨ y = 11) with e | e | e
          · exact e
          · rw [e, hv_10] at g2; omega
          · rw [e, hv_11] at g2; omega
        have oe : opN (y :: r) = 1 + opN r := by
          show (if y = 9 ∨ y = 12 then 1 else 0) + opN r = _
          rw [if_pos (Or.inl y9)]
        have e2 : Ep (fun o i => o = 6 ∧ i = 9) μ1 (mu μ1 6 9 (μ1 6 9 - 1)) := Ep.rf.mu ⟨rfl, rfl⟩
        refine ih _ _ ha.2.2.2 (by omega) ll (by omega) ⟨by rw [e2 _ _ (by omega)]; exact k8, stk_c _ (fun j _ _ => e2 _ _ (by omega)) k13, by rw [mu_s, k9, oe]; omega⟩ (hL1.ep e2 (fun o i k => by omega)) (fun μ2 e3 s2 l2 => h μ2 ((eA.trg (e2.mono (fun o i k => by unfold S10; omega))).trg e3) s2 l2)
theorem c_10 {b a : Int} (hd : 3 ≤ d) (hb : (b = 10 ∧ a = 133) ∨ (b = 11 ∧ a = 132)) (h1 : adj cs) (h2 : opN cs ≤ 8) (hl : (l.length : Int) + cs.length ≤ 400) (hS : SD μ cs) (hL : LC μ l) (h : ∀ μ', Ep S10 μ μ' → SD μ' (pGe b cs l).1 → LC μ' (pGe b cs l).2 → Φ none μ') : Ct E d 10 [.inr 6, .inl a] μ Φ :=
  v10 (by omega) (t_10 hd hb cs l μ h1 (by have := (st_26 h1 h2).2; omega) hl h2 hS hL h)
/-- what stands before a comparison -/
theorem g7 (hd : 3 ≤ d) (hB : TB n T) : ∀ (m : Nat) (p : Int) (st : List Int) (x2 : Int) (μ : Mm) (f : Nat), n - p < m → n - p < f → CR 0 n T μ p → SD μ st → okS true st l p → 0 ≤ x2 → x2 ≤ opN st → O = pCd n T f p st l true → (∀ q st' f', O = pCd n T f' q st' l true → n - q < f' → p ≤ q → okS true st' l q → ¬ (toK 0 n T q = 134 ∨ toK 0 n T q = 40) → ∀ μ', Ep S7 μ μ' → CR 0 n T μ' q → SD μ' st' → Φ (some (.inl 1)) μ') → (∀ fl, O = .error fl → ∀ μ', Ef S7 μ μ' → CF fl μ' → Φ (some (.inl 0)) μ') → G E d 7 Φ 2 [some (.inr 6), some (.inr 1), some (.inl x2), none] [] μ := by
  intro m
  have kk : (0 : Nat) < 4 := by decide
  have n4 := hB.2.1
  induction m with
  | zero =>
    intro p st x2 μ f hm hf hR
    obtain ⟨h1, j, t, g2, g3, h4, h5, h6, p0, p1⟩ := hR
    omega
  | succ m ih =>
    intro p st x2 μ f hm hf hR hS hK x0 xo hO hy hn
    have hR' := hR
    obtain ⟨h1, j, t, g2, g3, h4, h5, h6, p0, p1⟩ := hR'
    have kr := toK_r (T := T) (k := 0) kk hB p0 p1
    have ki : inR (toK 0 n T p) := inR_of (by omega) (by omega)
    obtain ⟨f, rfl⟩ : ∃ f', f = f' + 1 := ⟨f - 1, by omega⟩
    have hK' := hK
    obtain ⟨a1, a2, a3, a4⟩ := hK'
    have s26 := st_26 a1 a2
    have on : inR (opN st) := inR_of (by have := opN_0 st; omega) (by omega)
    -- one more waits
    have one : toK 0 n T p = 134 ∨ toK 0 n T p = 40 → (inR (opN st)) ∧ ((opN st) < 8 → (Ct E (d - 1) 9 [.inr 6, .inl (toK 0 n T p)] (mu μ 6 9 ((opN st) + 1)) (rV (fun μ1 => (Ct E (d - 1) 50 [.inr 1] μ1 (rV (fun μ2 => G E d 7 Φ 2 [some (.inr 6), some (.inr 1), some (.inl (x2 + 1)), none] [] μ2))))))) ∧ (8 ≤ (opN st) → (Ct E (d - 1) 51 [.inr 1, .inl 3] μ (rI (fun z4 μ3 => (z4 = 0 ∨ z4 = 1) ∧ (Φ (some (.inl z4)) μ3))))) := by
      intro hk
      have te := toE_1 (T := T) (k := 0) p1 (by omega)
      refine ⟨on, fun g => ?_, fun g => t_51 (by omega) hR (fun μ' e1 b1 b2 => ⟨Or.inl rfl, hn _ (by rw [hO, pCd_o3 hk (by omega)]) μ' (e1.mono (fun o i => Or.inl)) ⟨b1, b2⟩⟩)⟩
      have e0 : Ep (fun o i => o = 6 ∧ i = 9) μ (mu μ 6 9 (opN st + 1)) := Ep.rf.mu ⟨rfl, rfl⟩
      refine t_9 (x := if toK 0 n T p = 134 then 9 else 12) (cs := st) (by omega) ?_ (by rw [e0 _ _ (by omega)]; exact hS.1) (stk_c _ (fun j _ _ => e0 _ _ (by omega)) hS.2.1) (by omega) (fun μ1 e1 s8 s12 => t_50 (by omega) hB.1 ((hR.ep e0 (fun o i k => by omega)).ep e1 (fun o i k => by omega)) (fun μ2 e2 c2 => ?_))
      · rcases hk with k | k
        · rw [if_pos k, k]; rfl
        · rw [if_neg (by omega), k]; rfl
      · have eA : Ep S7 μ μ2 := ((e0.mono (fun o i k => by unfold S7; omega)).trg (e1.mono (fun o i k => by unfold S7; omega))).trg (e2.mono (fun o i k => Or.inl (Rd67 k)))
        have oe : opN ((if toK 0 n T p = 134 then 9 else 12) :: st) = 1 + opN st := by
          show (if _ then 1 else 0) + opN st = _
          rw [if_pos (by split <;> decide)]
        refine ih (toE n T p) ((if toK 0 n T p = 134 then 9 else 12) :: st) (x2 + 1) μ2 f (by omega) (by omega) c2 ⟨by rw [e2 _ _ (by omega)]; exact s8, stk_c _ (fun j _ _ => e2 _ _ (by omega)) s12, ?_⟩ (okS_o hK hk p1 (by omega)) (by omega) (by omega) (by rw [hO, pCd_o1 hk (by omega)]) (fun q st' f' h1 h2 h3 h4 h5 μ3 e3 c3 s3 => hy q st' f' h1 h2 (by omega) h4 h5 μ3 (eA.trg e3) c3 s3) (fun fl h1 μ3 e3 c3 => hn fl h1 μ3 (eA.trg e3) c3)
        rw [e2 _ _ (by omega), e1 _ _ (by omega), mu_s, oe]
        omega
    refine v7_2 (by omega) ⟨inR_of (by omega) (by omega), fun g => by omega, fun _ => ?_⟩
    rw [h5, hS.2.2]
    exact ⟨ki, fun g => one (Or.inr g), fun g => ⟨ki, fun g2 => one (Or.inl g2), fun g2 => hy p st (f + 1) hO hf (Int.le_refl _) hK (by omega) μ Ep.rf hR hS⟩⟩
theorem brop {cs : List Int} (h : opN cs ≤ 0) : brN cs = 0 := by have := brq_0 cs; omega
theorem pGe_t {cs : List Int} (h : adj cs) : pGe 11 cs l = pTop 11 (pTop 10 (pTop 9 cs l).1 (pTop 9 cs l).2).1 (pTop 10 (pTop 9 cs l).1 (pTop 9 cs l).2).2 := by rw [pGe_11 cs l h, pGe_10 cs l h]
/-- what closes behind a comparison -/
theorem g8 (hd : 4 ≤ d) (hB : TB n T) : ∀ (m : Nat) (p : Int) (cs : List Int) (l : Cd) (x2 : Int) (μ : Mm) (f : Nat), n - p < m → n - p < f → CR 0 n T μ p → SD μ cs → LC μ l → adj cs → opN cs ≤ 8 → (l.length : Int) + cs.length ≤ p → 0 ≤ x2 → x2 + opN cs ≤ 8 → O = pCd n T f p (pTop 9 cs l).1 (pTop 9 cs l).2 false → (∀ q cs' l' f', O = pCd n T f' q (pTop 9 cs' l').1 (pTop 9 cs' l').2 false → n - q < f' → p ≤ q → adj cs' → opN cs' ≤ 8 → (l'.length : Int) + cs'.length ≤ q → (toK 0 n T q ≠ 41 ∨ brN cs' = 0) → ∀ μ', Ep S8 μ μ' → CR 0 n T μ' q → SD μ' cs' → LC μ' l' → Φ none μ') → G E d 8 Φ 2 [some (.inr 6), some (.inr 1), some (.inl x2)] [] μ := by
  intro m
  have kk : (0 : Nat) < 4 := by decide
  have n4 := hB.2.1
  induction m with
  | zero =>
    intro p cs l x2 μ f hm hf hR
    obtain ⟨h1, j, t, g2, g3, h4, h5, h6, p0, p1⟩ := hR
    omega
  | succ m ih =>
    intro p cs l x2 μ f hm hf hR hS hL ha ho hl x0 xo hO hy
    have hR' := hR
    obtain ⟨h1, j, t, g2, g3, h4, h5, h6, p0, p1⟩ := hR'
    have kr := toK_r (T := T) (k := 0) kk hB p0 p1
    have ki : inR (toK 0 n T p) := inR_of (by omega) (by omega)
    have o0 := opN_0 cs
    refine v8_2 (by omega) ⟨inR_of (by omega) (by omega), fun g => hy p cs l f hO hf (Int.le_refl _) ha ho hl (Or.inr (brop (by omega))) μ Ep.rf hR hS hL, fun g => ?_⟩
    rw [h5]
    refine ⟨ki, fun g2 => hy p cs l f hO hf (Int.le_refl _) ha ho hl (Or.inl g2) μ Ep.rf hR hS hL, fun k => ?_⟩
    obtain ⟨f, rfl⟩ : ∃ f', f = f' + 1 := ⟨f - 1, by omega⟩
    have te := toE_1 (T := T) (k := 0) p1 (by omega)
    -- the nots that are out in the reference
    have ha9 := pTop_a (x := 9) cs l ha
    have h9 := pTop_h (x := 9) (by decide) cs l
    have o9 := pTop_op (x := 9) cs l
    have l9 := pTop_l (x := 9) cs l
    obtain ⟨a1, a2, a3, a4, a5⟩ := tA (l := (pTop 9 cs l).2) ha9 h9
    have b9 := pTop_br (x := 9) (by decide) cs l
    rw [← pGe_t ha] at a1 a2 a3 a4 a5
    refine c_10 (b := 11) (by omega) (Or.inr ⟨rfl, rfl⟩) ha ho (by omega) hS hL (fun μ1 e1 s1 l1 => ?_)
    have s8 := s1.1
    have e1' : Ep S8 μ μ1 := e1.mono (fun o i k => by unfold S10 at k; unfold S8; omega)
    have c1 := hR.ep e1 (fun o i k => by unfold S10; omega)
    have len1 : (((pGe 11 cs l).2.length : Nat) : Int) + (pGe 11 cs l).1.length ≤ p := by omega
    refine ⟨by rw [s8]; exact inR_of (by omega) (by omega), fun g3 => ?_, fun g3 => ?_⟩
    · have hb : brN (pGe 11 cs l).1 ≠ 0 := fun e => g3 (by rw [s8, brq_e a2 e]; rfl)
      obtain ⟨r, hr⟩ := brq_c a2 hb
      have hstep : O = pCd n T f (toE n T p) (pTop 9 r (pGe 11 cs l).2).1 (pTop 9 r (pGe 11 cs l).2).2 false := by
        rw [hO, pCd_b k (by rw [← pGe_t ha]; exact hb), ← pGe_t ha, hr]
        rfl
      rw [hr] at s1 a1 a3 len1 s8
      have oe : opN ((12 : Int) :: r) = 1 + opN r := rfl
      have r0 := opN_0 r
      rw [List.length_cons] at s8 len1
      have e2 : Ep (fun o i => o = 6 ∧ (i = 8 ∨ i = 9)) μ1 (mu (mu μ1 6 8 (μ1 6 8 - 1)) 6 9 (μ1 6 9 - 1)) := (Ep.rf.mu (by omega)).mu (by omega)
      refine t_50 (by omega) hB.1 (c1.ep e2 (fun o i k => by omega)) (fun μ2 e3 c2 => ?_)
      have e13 : Ep S8 μ μ2 := (e1'.trg (e2.mono (fun o i k => by unfold S8; omega))).trg (e3.mono (fun o i k => Or.inl (Rd67 k)))
      refine ih (toE n T p) r (pGe 11 cs l).2 (x2 + 1) μ2 f (by omega) (by omega) c2 ⟨?_, ?_, ?_⟩ ((l1.ep e2 (fun o i k => by omega)).ep e3 (fun o i k => by omega)) a1.2.2.2 (by omega) (by omega) (by omega) (by omega) hstep (fun q cs' l' f' h1 h2 h3 h4 h5 h6 h7 μ3 e4 c3 s3 l3 => hy q cs' l' f' h1 h2 (by omega) h4 h5 h6 h7 μ3 (e13.trg e4) c3 s3 l3)
      · rw [e3 _ _ (by omega), mu_i (by decide), mu_s, s8]; omega
      · exact stk_c _ (fun j _ _ => by rw [e3 _ _ (by omega), e2 _ _ (by omega)]) s1.2.1.2
      · rw [e3 _ _ (by omega), mu_s, s1.2.2, oe]; omega
    · have hnil : (pGe 11 cs l).1 = [] := List.eq_nil_of_length_eq_zero (by omega)
      have hb : brN (pGe 11 cs l).1 = 0 := by rw [hnil]; rfl
      refine hy p (pGe 11 cs l).1 (pGe 11 cs l).2 (f + 1) ?_ hf (Int.le_refl _) a1 (by omega) len1 (Or.inr hb) μ1 e1' c1 s1 l1
      rw [hO, pCd_e (by omega) (by omega) (by rw [← pGe_t ha]; exact hb), ← pGe_t ha, hnil]
      exact (pCd_e (st := []) (by omega) (by omega) rfl).symm
end S67
