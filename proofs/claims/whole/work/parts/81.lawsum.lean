/-! sums of a law in the class -/
def S11 : Nat → Int → Prop := fun o i => Rd o i ∨ (o = 6 ∧ i = 6) ∨ o = 11
def LC (μ : Mm) (l : Cd) : Prop := μ 6 6 = l.length ∧ cod (μ 11) 0 l
def sop (x : Int) : Cd := if x = 42 then [(4, 0)] else if x = 47 then [(5, 0)] else []
def wop (x : Int) : Cd := if x = 43 then [(2, 0)] else if x = 45 then [(3, 0)] else []
/-- what the class does behind a part of a sum -/
def AF (E : En) (d : Nat) (Φ : Option AV → Mm → Prop) (x2 x4 : Int) (μ : Mm) : Prop :=
  ((inR (μ 1 7)) ∧ ((μ 1 7) = 42 → (Ct E (d - 1) 50 [.inr 1] μ (rV (fun μ11 => G E d 11 Φ 6 [some (.inr 6), some (.inr 1), some (.inl x2), some (.inl (μ 1 7)), some (.inl (x4 + 1))] [] μ11)))) ∧ ((μ 1 7) ≠ 42 → (inR (μ 1 7)) ∧ ((μ 1 7) = 47 → (Ct E (d - 1) 50 [.inr 1] μ (rV (fun μ12 => G E d 11 Φ 6 [some (.inr 6), some (.inr 1), some (.inl x2), some (.inl (μ 1 7)), some (.inl (x4 + 1))] [] μ12)))) ∧ ((μ 1 7) ≠ 47 → inR x2 ∧ (x2 = 0 → (inR (μ 1 7)) ∧ ((μ 1 7) = 43 → (Ct E (d - 1) 50 [.inr 1] μ (rV (fun μ13 => G E d 11 Φ 6 [some (.inr 6), some (.inr 1), some (.inl (μ 1 7)), some (.inl (μ 1 7)), some (.inl (x4 + 1))] [] μ13)))) ∧ ((μ 1 7) ≠ 43 → (inR (μ 1 7)) ∧ ((μ 1 7) = 45 → (Ct E (d - 1) 50 [.inr 1] μ (rV (fun μ14 => G E d 11 Φ 6 [some (.inr 6), some (.inr 1), some (.inl (μ 1 7)), some (.inl (μ 1 7)), some (.inl (x4 + 1))] [] μ14)))) ∧ ((μ 1 7) ≠ 45 → (Φ (some (.inl 1)) μ)))) ∧ (x2 ≠ 0 → (Ct E (d - 1) 13 [.inr 6, .inl x2] μ (rV (fun μ15 => (inR (μ 1 7)) ∧ ((μ 1 7) = 43 → (Ct E (d - 1) 50 [.inr 1] μ15 (rV (fun μ16 => G E d 11 Φ 6 [some (.inr 6), some (.inr 1), some (.inl (μ 1 7)), some (.inl (μ 1 7)), some (.inl (x4 + 1))] [] μ16)))) ∧ ((μ 1 7) ≠ 43 → (inR (μ 1 7)) ∧ ((μ 1 7) = 45 → (Ct E (d - 1) 50 [.inr 1] μ15 (rV (fun μ17 => G E d 11 Φ 6 [some (.inr 6), some (.inr 1), some (.inl (μ 1 7)), some (.inl (μ 1 7)), some (.inl (x4 + 1))] [] μ17)))) ∧ ((μ 1 7) ≠ 45 → (Φ (some (.inl 1)) μ15))))))))))
section S66
variable {E : En} {d : Nat} {Φ : Option AV → Mm → Prop} {μ μ' : Mm} {n p q : Int} {T : Int → Int} {l : Cd} {O : Except Flt (Int × Cd)}
theorem cod_ap {m m' : Int → Int} {c : Int × Int} : ∀ (l : Cd) (i : Int), cod m i l → (∀ j, i ≤ j → j < i + l.length → m' j = m j) → m' (i + l.length) = trC c → cod m' i (l ++ [c])
  | [], i, _, _, h => ⟨by have h : m' (i + 0) = trC c := h; rw [Int.add_zero] at h; exact h, trivial⟩
  | a :: l, i, h, e, h2 => by
    rw [List.length_cons] at e h2
    refine ⟨by rw [e i (by omega) (by omega)]; exact h.1, cod_ap l (i + 1) h.2 (fun j j0 j1 => e j (by omega) (by omega)) ?_⟩
    rw [← h2]
    congr 1
    omega
theorem LC.ep {S : Nat → Int → Prop} (h : LC μ l) (e : Ep S μ μ') (hs : ∀ o i, (o = 6 ∧ i = 6) ∨ o = 11 → ¬ S o i) : LC μ' l := ⟨by rw [e 6 6 (hs _ _ (Or.inl ⟨rfl, rfl⟩))]; exact h.1, cod_c l 0 (fun j _ _ => e 11 j (hs _ _ (Or.inr rfl))) h.2⟩
theorem t_14 {a : Int} {c : Int × Int} (hd : 1 ≤ d) (hc : trC c = a) (hL : LC μ l) (hl : l.length < 400) (h : ∀ μ', Ep (fun o i => (o = 6 ∧ i = 6) ∨ o = 11) μ μ' → LC μ' (l ++ [c]) → Φ none μ') : Ct E d 14 [.inr 6, .inl a] μ Φ := by
  refine v14 hd ?_
  rw [hL.1]
  refine ⟨inR_of (by omega) (by omega), fun g => by omega, fun _ => ⟨by omega, h _ ((Ep.rf.mu (by omega)).mu (by omega)) ⟨?_, ?_⟩⟩⟩
  · rw [mu_s, List.length_append]
    show _ = ((l.length + 1 : Nat) : Int)
    omega
  · refine cod_ap l 0 hL.2 (fun j j0 j1 => ?_) ?_
    · rw [mu_o (by decide), mu_i (by omega)]
    · rw [mu_o (by decide), show (0 : Int) + (l.length : Int) = l.length by omega, mu_s, hc]
theorem t_13 {a : Int} {c : Int × Int} (hd : 2 ≤ d) (hc : trC c = -100 - a) (hL : LC μ l) (hl : l.length < 400) (h : ∀ μ', Ep (fun o i => (o = 6 ∧ i = 6) ∨ o = 11) μ μ' → LC μ' (l ++ [c]) → Φ none μ') : Ct E d 13 [.inr 6, .inl a] μ Φ :=
  v13 (by omega) (t_14 (by omega) hc hL hl h)
theorem nU (hk : ¬ (135 ≤ toK 0 n T p ∧ toK 0 n T p < 144)) (p1 : p ≤ n) : (∀ v q, pNu 0 n T 0 9999 p = .ok (v, q) → pUn n T p l = .ok (q, l ++ [(0, v)])) ∧ ∀ f, pNu 0 n T 0 9999 p = .error f → pUn n T p l = .error f := by
  constructor
  · intro v q h
    obtain ⟨h1, h2, h3, h4, h5⟩ := pNu_o h
    unfold pUn
    rw [if_neg hk, if_pos h1, h4, h5]
  · intro f h
    unfold pUn
    rw [if_neg hk]
    by_cases g : toK 0 n T p = 3
    · have nr := toN_r (T := T) (k := 0) (by decide) p1 g
      rw [pNu_t g nr.1 nr.2] at h
      cases h
    · rw [pNu_1 g] at h
      rw [if_neg g]
      cases h
      rfl
theorem nD (p1 : p ≤ n) : (∀ v q, pNu 0 n T 1 9999 p = .ok (v, q) → pDv n T p l = .ok (q, l ++ [(0, v)])) ∧ ∀ f, pNu 0 n T 1 9999 p = .error f → pDv n T p l = .error f := by
  constructor
  · intro v q h
    obtain ⟨h1, h2, h3, h4, h5⟩ := pNu_o h
    unfold pDv
    rw [if_pos h1, if_neg (by omega), h4, h5]
  · intro f h
    unfold pDv
    by_cases g : toK 0 n T p = 3
    · have nr := toN_r (T := T) (k := 0) (by decide) p1 g
      rw [if_pos g]
      by_cases g2 : toN n T p = 0
      · rw [pNu_2 g (by omega)] at h
        rw [if_pos g2]
        cases h
        rfl
      · rw [pNu_t g (by omega) nr.2] at h
        cases h
    · rw [pNu_1 g] at h
      rw [if_neg g]
      cases h
      rfl
theorem Rd_11 {o : Nat} {i : Int} (h : Rd o i) : S11 o i := Or.inl h
theorem pc_11 {o : Nat} {i : Int} (h : (o = 6 ∧ i = 6) ∨ o = 11) : S11 o i := Or.inr h
/-- a number's part -/
theorem n12 {a : Int} {O : Except Flt (Int × Cd)} (hd : 4 ≤ d) (hB : TB n T) (ha : inR a) (hR : CR 0 n T μ p) (hL : LC μ l) (hl : (l.length : Int) ≤ p) (h1 : ∀ v q, pNu 0 n T a 9999 p = .ok (v, q) → O = .ok (q, l ++ [(0, v)])) (h2 : ∀ f, pNu 0 n T a 9999 p = .error f → O = .error f) (hy : ∀ x, O = .ok x → ∀ μ', Ep S11 μ μ' → CR 0 n T μ' x.1 → LC μ' x.2 → Φ (some (.inl 1)) μ') (hn : ∀ f, O = .error f → ∀ μ', Ef S11 μ μ' → CF f μ' → Φ (some (.inl 0)) μ') : Ct E (d - 1) 56 [.inr 1, .inl a, .inl 9999] μ (rI (fun z2 μ1 => inR z2 ∧ (z2 ≠ 0 → (Ct E (d - 1) 14 [.inr 6, .inl (μ1 1 9)] μ1 (rV (fun μ3 => (Φ (some (.inl 1)) μ3))))) ∧ (z2 = 0 → (Φ (some (.inl 0)) μ1)))) := by
  refine u_56 (by omega) (by decide) hB ha (inR_of (by decide) (by decide)) hR (fun v q e μ1 e1 c1 v9 => ⟨inR_of (by decide) (by decide), fun _ => ?_, fun g => absurd g (by decide)⟩) (fun f e μ1 e1 f1 => ⟨inR_of (by decide) (by decide), fun g => absurd rfl g, fun _ => hn f (h2 f e) μ1 (e1.mono (fun o i => Rd_11)) f1⟩)
  rw [v9]
  have p1 : p ≤ n := by obtain ⟨_, _, _, _, _, _, _, _, _, p1⟩ := hR; exact p1
  have n4 := hB.2.1
  have t1 := toE_1 (T := T) (k := 0) p1 (by have := (pNu_o e).1; omega)
  exact t_14 (c := (0, v)) (by omega) rfl (hL.ep e1 (fun o i k => by unfold Rd; omega)) (by omega) (fun μ2 e2 l2 => hy _ (h1 v q e) μ2 ((e1.mono (fun o i => Rd_11)).trg (e2.mono (fun o i => pc_11))) (c1.ep e2 (fun o i k => by omega)) l2)
theorem s12_1 (hd : 4 ≤ d) (hB : TB n T) (hR : CR 0 n T μ p) (hL : LC μ l) (hl : (l.length : Int) ≤ p) (hy : ∀ x, pDv n T p l = .ok x → ∀ μ', Ep S11 μ μ' → CR 0 n T μ' x.1 → LC μ' x.2 → Φ (some (.inl 1)) μ') (hn : ∀ f, pDv n T p l = .error f → ∀ μ', Ef S11 μ μ' → CF f μ' → Φ (some (.inl 0)) μ') : Ct E d 12 [.inr 6, .inr 1, .inl 1] μ Φ := by
  have i1 : inR (1 : Int) := inR_of (by decide) (by decide)
  have hR' := hR
  obtain ⟨h1, j, t, g2, g3, h4, h5, h6, p0, p1⟩ := hR'
  have hD := nD (l := l) (T := T) p1
  exact v12 (by omega) ⟨i1, fun _ => ⟨i1, fun g => absurd g (by decide), fun _ => n12 hd hB i1 hR hL hl hD.1 hD.2 hy hn⟩, fun g => absurd g (by decide)⟩
theorem s12_0 (hd : 4 ≤ d) (hB : TB n T) (hR : CR 0 n T μ p) (hL : LC μ l) (hl : (l.length : Int) ≤ p) (hy : ∀ x, pUn n T p l = .ok x → ∀ μ', Ep S11 μ μ' → CR 0 n T μ' x.1 → LC μ' x.2 → Φ (some (.inl 1)) μ') (hn : ∀ f, pUn n T p l = .error f → ∀ μ', Ef S11 μ μ' → CF f μ' → Φ (some (.inl 0)) μ') : Ct E d 12 [.inr 6, .inr 1, .inl 0] μ Φ := by
  have i0 : inR (0 : Int) := inR_of (by decide) (by decide)
  have hR' := hR
  obtain ⟨h1, j, t, g2, g3, h4, h5, h6, p0, p1⟩ := hR'
  have kr := toK_r (T := T) (k := 0) (by decide) hB p0 p1
  have ki : inR (toK 0 n T p - 135) := inR_of (by omega) (by omega)
  have num : ¬ (135 ≤ toK 0 n T p ∧ toK 0 n T p < 144) → _ := fun g => n12 (E := E) (Φ := Φ) (O := pUn n T p l) hd hB i0 hR hL hl (nU (l := l) (T := T) g p1).1 (nU (l := l) (T := T) g p1).2 hy hn
  refine v12 (by omega) ?_
  rw [h5]
  refine ⟨i0, fun g => absurd rfl g, fun _ => ⟨ki, fun g => ⟨i0, fun _ => num (by omega), fun g => absurd rfl g⟩, fun g => ⟨ki, fun g2 => ⟨i0, fun _ => num (by omega), fun g => absurd rfl g⟩, fun g2 => ?_⟩⟩⟩
  have e : pUn n T p l = .ok (toE n T p, l ++ [(1, toK 0 n T p - 135)]) := by
    unfold pUn
    rw [if_pos (by omega)]
  refine t_14 (c := (1, toK 0 n T p - 135)) (by omega) rfl hL (by have n4 := hB.2.1; have := toE_1 (T := T) (k := 0) p1 (by omega); omega) (fun μ1 e1 l1 => t_50 (by omega) hB.1 (hR.ep e1 (fun o i k => by omega)) (fun μ2 e2 c2 => hy _ e μ2 ((e1.mono (fun o i => pc_11)).trg (e2.mono (fun o i k => Rd_11 (Rd67 k)))) c2 (l1.ep e2 (fun o i k => by omega))))
theorem wop_l {x : Int} : (wop x).length ≤ 1 := by
  unfold wop
  split
  · decide
  · split <;> decide
/-- a sum -/
theorem g11 (hd : 5 ≤ d) (hB : TB n T) : ∀ (m : Nat) (f g : Nat) (p : Int) (l : Cd) (x2 x3 x4 : Int) (μ : Mm) (O : Except Flt (Int × Cd)), n - p < m → n - p ≤ f → n - p ≤ g → CR 0 n T μ p → LC μ l → (l.length : Int) + (sop x3).length + (wop x2).length ≤ p → 0 ≤ x4 → 2 * x4 ≤ p → (x2 = 0 ∨ x2 = 43 ∨ x2 = 45) → (x3 = 0 ∨ x3 = 42 ∨ x3 = 43 ∨ x3 = 45 ∨ x3 = 47) → O = (((if x3 = 47 then pDv n T p l else pUn n T p l) : Except Flt (Int × Cd)).bind fun x => (pPr n T f x.1 (x.2 ++ sop x3)).bind fun y => pSr n T g y.1 (y.2 ++ wop x2)) → (∀ x, O = .ok x → ∀ μ', Ep S11 μ μ' → CR 0 n T μ' x.1 → LC μ' x.2 → Φ (some (.inl 1)) μ') → (∀ f, O = .error f → ∀ μ', Ef S11 μ μ' → CF f μ' → Φ (some (.inl 0)) μ') → G E d 11 Φ 6 [some (.inr 6), some (.inr 1), some (.inl x2), some (.inl x3), some (.inl x4)] [] μ := by
  intro m
  have n4 := hB.2.1
  have z01 : inR (0 : Int) ∧ inR (1 : Int) := ⟨inR_of (by decide) (by decide), inR_of (by decide) (by decide)⟩
  have kk : (0 : Nat) < 4 := by decide
  induction m with
  | zero =>
    intro f g p l x2 x3 x4 μ O hm hf hg hR
    obtain ⟨h1, j, t, g2, g3, h4, h5, h6, p0, p1⟩ := hR
    omega
  | succ m ih =>
    intro f g p l x2 x3 x4 μ O hm hf hg hR hL hl h40 h42 h2 h3 hO hy hn
    -- behind the part
    have af : ∀ (q : Int) (l1 : Cd) (μ1 : Mm), p < q → Ep S11 μ μ1 → CR 0 n T μ1 q → LC μ1 l1 → (l1.length : Int) + (wop x2).length ≤ q → O = ((pPr n T f q l1).bind fun y => pSr n T g y.1 (y.2 ++ wop x2)) → AF E d Φ x2 x4 μ1 := by
      intro q l1 μ1 pq e1 c1 hL1 hl1 hO1
      have c1' := c1
      obtain ⟨h1, j, t, g2, g3, h4, h5, h6, q0, q1⟩ := c1'
      have kr := toK_r (T := T) (k := 0) kk hB q0 q1
      have ki : inR (toK 0 n T q) := inR_of (by omega) (by omega)
      obtain ⟨f, rfl⟩ : ∃ f', f = f' + 1 := ⟨f - 1, by omega⟩
      obtain ⟨g, rfl⟩ : ∃ g', g = g' + 1 := ⟨g - 1, by omega⟩
      have r11 : ∀ {o : Nat} {i : Int}, o = 1 ∧ (i = 6 ∨ i = 7) → S11 o i := fun k => Rd_11 (Rd67 k)
      unfold AF
      rw [h5]
      refine ⟨ki, fun k => ?_, fun k42 => ⟨ki, fun k => ?_, fun k47 => ?_⟩⟩
      · have e := toE_1 (T := T) (k := 0) q1 (by omega)
        refine t_50 (by omega) hB.1 c1 (fun μ2 e2 c2 => ?_)
        refine ih f (g + 1) (toE n T q) l1 x2 (toK 0 n T q) (x4 + 1) μ2 O (by omega) (by omega) (by omega) c2 (hL1.ep e2 (fun o i k => by omega)) ?_ (by omega) (by omega) h2 (by omega) ?_ (fun x hx μ3 e3 c3 l3 => hy x hx μ3 (e1.trg ((e2.mono (fun o i => r11)).trg e3)) c3 l3) (fun fl hx μ3 e3 c3 => hn fl hx μ3 (e1.trg ((e2.mono (fun o i => r11)).trg e3)) c3)
        · rw [k]; show _ + ((1 : Nat) : Int) + _ ≤ _; omega
        · rw [hO1, if_neg (by omega), k]
          show ((if _ then _ else _ : Except Flt (Int × Cd)).bind _) = _
          rw [if_pos k]
          cases pUn n T (toE n T q) l1 <;> rfl
      · have e := toE_1 (T := T) (k := 0) q1 (by omega)
        refine t_50 (by omega) hB.1 c1 (fun μ2 e2 c2 => ?_)
        refine ih f (g + 1) (toE n T q) l1 x2 (toK 0 n T q) (x4 + 1) μ2 O (by omega) (by omega) (by omega) c2 (hL1.ep e2 (fun o i k => by omega)) ?_ (by omega) (by omega) h2 (by omega) ?_ (fun x hx μ3 e3 c3 l3 => hy x hx μ3 (e1.trg ((e2.mono (fun o i => r11)).trg e3)) c3 l3) (fun fl hx μ3 e3 c3 => hn fl hx μ3 (e1.trg ((e2.mono (fun o i => r11)).trg e3)) c3)
        · rw [k]; show _ + ((1 : Nat) : Int) + _ ≤ _; omega
        · rw [hO1, if_pos k, k]
          show ((if _ then _ else _ : Except Flt (Int × Cd)).bind _) = _
          rw [if_neg (by omega), if_pos k]
          cases pDv n T (toE n T q) l1 <;> rfl
      · have hp : pPr n T (f + 1) q l1 = .ok (q, l1) := by
          show (if _ then _ else _) = _
          rw [if_neg k42, if_neg k47]
        have hO2 : O = pSr n T (g + 1) q (l1 ++ wop x2) := by rw [hO1, hp]; rfl
        -- and the sum goes on, or ends
        have go : ∀ (l2 : Cd) (μ2 : Mm), l2 = l1 ++ wop x2 → (l2.length : Int) ≤ q → Ep S11 μ1 μ2 → CR 0 n T μ2 q → LC μ2 l2 → (inR (toK 0 n T q)) ∧ ((toK 0 n T q) = 43 → (Ct E (d - 1) 50 [.inr 1] μ2 (rV (fun μ13 => G E d 11 Φ 6 [some (.inr 6), some (.inr 1), some (.inl (toK 0 n T q)), some (.inl (toK 0 n T q)), some (.inl (x4 + 1))] [] μ13)))) ∧ ((toK 0 n T q) ≠ 43 → (inR (toK 0 n T q)) ∧ ((toK 0 n T q) = 45 → (Ct E (d - 1) 50 [.inr 1] μ2 (rV (fun μ14 => G E d 11 Φ 6 [some (.inr 6), some (.inr 1), some (.inl (toK 0 n T q)), some (.inl (toK 0 n T q)), some (.inl (x4 + 1))] [] μ14)))) ∧ ((toK 0 n T q) ≠ 45 → (Φ (some (.inl 1)) μ2))) := by
          intro l2 μ2 hl2 hl2n e2 c2 hL2
          rw [← hl2] at hO2
          have nx : toK 0 n T q = 43 ∨ toK 0 n T q = 45 → Ct E (d - 1) 50 [.inr 1] μ2 (rV (fun μ13 => G E d 11 Φ 6 [some (.inr 6), some (.inr 1), some (.inl (toK 0 n T q)), some (.inl (toK 0 n T q)), some (.inl (x4 + 1))] [] μ13)) := by
            intro k
            have e := toE_1 (T := T) (k := 0) q1 (by omega)
            have w1 := wop_l (x := toK 0 n T q)
            have s0 : sop (toK 0 n T q) = [] := by unfold sop; rw [if_neg k42, if_neg k47]
            refine t_50 (by omega) hB.1 c2 (fun μ3 e3 c3 => ?_)
            refine ih 401 g (toE n T q) l2 (toK 0 n T q) (toK 0 n T q) (x4 + 1) μ3 O (by omega) (by omega) (by omega) c3 (hL2.ep e3 (fun o i k => by omega)) ?_ (by omega) (by omega) (by omega) (by omega) ?_ (fun x hx μ4 e4 c4 l4 => hy x hx μ4 (e1.trg (e2.trg ((e3.mono (fun o i => r11)).trg e4))) c4 l4) (fun fl hx μ4 e4 c4 => hn fl hx μ4 (e1.trg (e2.trg ((e3.mono (fun o i => r11)).trg e4))) c4)
            · rw [s0]; show _ + ((0 : Nat) : Int) + _ ≤ _; omega
            · rw [hO2, if_neg k47, s0]
              show (if _ then _ else _) = _
              rw [if_pos k]
              have : wop (toK 0 n T q) = [(if toK 0 n T q = 43 then 2 else 3, 0)] := by
                unfold wop
                rcases k with k | k
                · rw [if_pos k, if_pos k]
                · rw [if_neg (by omega), if_pos k, if_neg (by omega)]
              rw [this]
              cases pUn n T (toE n T q) l2 with
              | error fl => rfl
              | ok x =>
                show _ = ((pPr n T 401 x.1 (x.2 ++ [])).bind _)
                rw [List.append_nil]
                rfl
          refine ⟨ki, fun k => nx (Or.inl k), fun k43 => ⟨ki, fun k => nx (Or.inr k), fun k45 => hy (q, l2) ?_ μ2 (e1.trg e2) c2 hL2⟩⟩
          rw [hO2]
          show (if _ then _ else _) = _
          rw [if_neg (by omega)]
        refine ⟨by rcases h2 with e | e | e <;> rw [e] <;> exact inR_of (by decide) (by decide), fun k => ?_, fun k => ?_⟩
        · have w0 : wop x2 = [] := by rw [k]; rfl
          exact go l1 μ1 (by rw [w0, List.append_nil]) (by omega) Ep.rf c1 hL1
        · have w1 : ∃ c, wop x2 = [c] ∧ trC c = -100 - x2 := by
            rcases h2 with e | e | e
            · exact absurd e k
            · exact ⟨(2, 0), by rw [e]; rfl, by rw [e]; rfl⟩
            · exact ⟨(3, 0), by rw [e]; rfl, by rw [e]; rfl⟩
          obtain ⟨c, w1, w2⟩ := w1
          have wl : (wop x2).length = 1 := by rw [w1]; rfl
          refine t_13 (c := c) (by omega) w2 hL1 (by omega) (fun μ2 e2 hL2 => ?_)
          refine go (l1 ++ [c]) μ2 (by rw [w1]) ?_ (e2.mono (fun o i => pc_11)) (c1.ep e2 (fun o i k => by omega)) hL2
          rw [List.length_append]
          show ((l1.length + 1 : Nat) : Int) ≤ q
          omega
    have hR' := hR
    obtain ⟨h1, j, t, g2, g3, h4, h5, h6, p0, p1⟩ := hR'
    have i3 : inR x3 := by rcases h3 with e | e | e | e | e <;> rw [e] <;> exact inR_of (by decide) (by decide)
    refine v11_6 (by omega) ⟨inR_of (by omega) (by omega), fun q => by omega, fun _ => ⟨i3, fun k47 => ?_, fun k47 => ?_⟩⟩
    · rw [if_neg k47] at hO
      refine s12_0 (by omega) hB hR hL (by omega) (fun x hx μ1 e1 c1 hL1 => ⟨z01.2, fun _ => ⟨i3, fun k42 => ?_, fun k42 => ⟨i3, fun _ => ?_, fun q => absurd q k47⟩⟩, fun q => absurd q (by decide)⟩) (fun fl hx μ1 e1 c1 => ⟨z01.1, fun q => absurd rfl q, fun _ => hn fl (by rw [hO, hx]; rfl) μ1 e1 c1⟩)
      · obtain ⟨a0, a1, a2, u, a3, a4, a5⟩ := pUn_o p0 p1 hx
        have sl : sop x3 = [(4, 0)] := by rw [k42]; rfl
        have ll : (x.2.length : Int) = l.length + u.length := by rw [a3, List.length_append]; omega
        have sl1 : ((sop x3).length : Int) = 1 := by rw [sl]; rfl
        refine t_13 (c := (4, 0)) (by omega) (by rw [k42]; rfl) hL1 (by omega) (fun μ2 e2 hL2 => ?_)
        exact af x.1 (x.2 ++ [(4, 0)]) μ2 a0 (e1.trg (e2.mono (fun o i => pc_11))) (c1.ep e2 (fun o i k => by omega)) hL2 (by rw [List.length_append]; show ((x.2.length + 1 : Nat) : Int) + _ ≤ _; omega) (by rw [hO, hx, ← sl]; rfl)
      · obtain ⟨a0, a1, a2, u, a3, a4, a5⟩ := pUn_o p0 p1 hx
        have sl : sop x3 = [] := by unfold sop; rw [if_neg k42, if_neg k47]
        have ll : (x.2.length : Int) = l.length + u.length := by rw [a3, List.length_append]; omega
        have sl1 : ((sop x3).length : Int) = 0 := by rw [sl]; rfl
        exact af x.1 x.2 μ1 a0 e1 c1 hL1 (by omega) (by rw [hO, hx, sl]; show ((pPr n T f x.1 (x.2 ++ [])).bind _) = _; rw [List.append_nil])
    · rw [if_pos k47] at hO
      refine s12_1 (by omega) hB hR hL (by omega) (fun x hx μ1 e1 c1 hL1 => ⟨z01.2, fun _ => ⟨i3, fun k42 => by omega, fun k42 => ⟨i3, fun q => absurd k47 q, fun _ => ?_⟩⟩, fun q => absurd q (by decide)⟩) (fun fl hx μ1 e1 c1 => ⟨z01.1, fun q => absurd rfl q, fun _ => hn fl (by rw [hO, hx]; rfl) μ1 e1 c1⟩)
      obtain ⟨a0, a1, a2, u, a3, a4, a5⟩ := pDv_o p0 p1 hx
      have sl : sop x3 = [(5, 0)] := by rw [k47]; rfl
      have ll : (x.2.length : Int) = l.length + u.length := by rw [a3, List.length_append]; omega
      have sl1 : ((sop x3).length : Int) = 1 := by rw [sl]; rfl
      refine t_13 (c := (5, 0)) (by omega) (by rw [k47]; rfl) hL1 (by omega) (fun μ2 e2 hL2 => ?_)
      exact af x.1 (x.2 ++ [(5, 0)]) μ2 a0 (e1.trg (e2.mono (fun o i => pc_11))) (c1.ep e2 (fun o i k => by omega)) hL2 (by rw [List.length_append]; show ((x.2.length + 1 : Nat) : Int) + _ ≤ _; omega) (by rw [hO, hx, ← sl]; rfl)
theorem s11 (hd : 5 ≤ d) (hB : TB n T) (hR : CR 0 n T μ p) (hL : LC μ l) (hl : (l.length : Int) ≤ p) (hy : ∀ x, pSm n T p l = .ok x → ∀ μ', Ep S11 μ μ' → CR 0 n T μ' x.1 → LC μ' x.2 → Φ (some (.inl 1)) μ') (hn : ∀ f, pSm n T p l = .error f → ∀ μ', Ef S11 μ μ' → CF f μ' → Φ (some (.inl 0)) μ') : Ct E d 11 [.inr 6, .inr 1] μ Φ := by
  have hR' := hR
  obtain ⟨h1, j, t, g2, g3, h4, h5, h6, p0, p1⟩ := hR'
  have n4 := hB.2.1
  refine v11 (by omega) (g11 hd hB 402 401 401 p l 0 0 0 μ (pSm n T p l) (by omega) (by omega) (by omega) hR hL (by show _ + ((0 : Nat) : Int) + ((0 : Nat) : Int) ≤ _; omega) (by decide) (by omega) (Or.inl rfl) (Or.inl rfl) ?_ hy hn)
  rw [if_neg (by decide)]
  unfold pSm
  cases pUn n T p l with
  | error fl => rfl
  | ok x =>
    show ((pPr n T 401 x.1 x.2).bind _) = ((pPr n T 401 x.1 (x.2 ++ [])).bind _)
    rw [List.append_nil]
    cases pPr n T 401 x.1 x.2 with
    | error fl => rfl
    | ok y =>
      show pSr n T 401 y.1 y.2 = pSr n T 401 y.1 (y.2 ++ [])
      rw [List.append_nil]
end S66
