/-! conditions of a law in the reference -/
def SP (μ : Mm) (st : List Int) : Prop := μ 123 26 = st.length ∧ stk (μ 137) st ∧ μ 123 24 = opN st
def Sm9 : Nat → Int → Prop := fun o i => Sq o i ∨ (o = 123 ∧ (i = 23 ∨ i = 24 ∨ i = 26)) ∨ ((o = 135 ∨ o = 136) ∧ 800 ≤ i) ∨ o = 137
section S71
variable {E : En} {d : Nat} {Φ : Option AV → Mm → Prop} {μ μ' : Mm} {n p q : Int} {T : Int → Int} {l : Cd}
theorem Sm8_9 {o : Nat} {i : Int} (h : Sm8 o i) : Sm9 o i := by
  unfold Sm8 at h
  unfold Sm9
  rcases h with h | h | h
  · exact Or.inl h
  · exact Or.inr (Or.inl (by omega))
  · exact Or.inr (Or.inr (Or.inl h))
theorem Sq_9 {o : Nat} {i : Int} (h : Sq o i) : Sm9 o i := Or.inl h
theorem pSr_s {f : Nat} (h : toK 0 n T p = 43 ∨ toK 0 n T p = 45) : pSr n T (f + 1) p l = (pUn n T (toE n T p) l).bind fun x => (pPr n T 401 x.1 x.2).bind fun y => pSr n T f y.1 (y.2 ++ [(if toK 0 n T p = 43 then 2 else 3, 0)]) := by
  show (if _ then _ else _) = _
  rw [if_pos h]
theorem pSr_e {f : Nat} (h : ¬ (toK 0 n T p = 43 ∨ toK 0 n T p = 45)) : pSr n T (f + 1) p l = .ok (p, l) := by
  show (if _ then _ else _) = _
  rw [if_neg h]
theorem pUP_o {x : Int × Cd} (p0 : 0 ≤ p) (p1 : p ≤ n) (h : ((pUn n T p l).bind fun x => pPr n T 401 x.1 x.2) = .ok x) : p < x.1 ∧ x.1 ≤ n ∧ (x.2.length : Int) - l.length ≤ x.1 - p := by
  cases h1 : pUn n T p l with
  | error f => rw [h1] at h; cases h
  | ok y =>
    rw [h1] at h
    replace h : pPr n T 401 y.1 y.2 = .ok x := h
    obtain ⟨a0, a1, a2, u, a3, a4, a5⟩ := pUn_o p0 p1 h1
    obtain ⟨b1, b2, v, b3, b4, b5⟩ := pPr_o 401 y.1 _ x (by omega) a2 h
    have e1 : (y.2.length : Int) = l.length + u.length := by rw [a3, List.length_append]; omega
    have e2 : (x.2.length : Int) = y.2.length + v.length := by rw [b3, List.length_append]; omega
    omega
theorem Except_bind_assoc {A B C : Type} (x : Except Flt A) (f : A → Except Flt B) (g : B → Except Flt C) : (x.bind f).bind g = x.bind fun a => (f a).bind g := by cases x <;> rfl
/-- what is added -/
theorem u184 {f : Nat} {o : Int} {O : Except Flt (Int × Cd)} (hd : 9 ≤ d) (hB : TB n T) (hM : MX 0 n T μ q) (hL : LL μ l) (hl : (l.length : Int) + 1 ≤ q) (hO : O = ((pUn n T q l).bind fun x => pPr n T 401 x.1 x.2).bind fun y => pSr n T f y.1 (y.2 ++ [(o, 0)])) (hn : ∀ fl, O = .error fl → ∀ μ', Ep Sm8 μ μ' → MF fl μ' → Φ (some (.inl (-1))) μ') (hg : ∀ x, ((pUn n T q l).bind fun x => pPr n T 401 x.1 x.2) = .ok x → ∀ μ', Ep Sm8 μ μ' → MX 0 n T μ' x.1 → LL μ' (x.2 ++ [(o, 0)]) → G E d 185 Φ 6 [some (.inr 123), none] [] μ') : Ct E (d - 1) 184 [.inr 123] μ (rI (fun z5 μ4 => inR z5 ∧ (z5 ≠ (-1) → (Ct E (d - 1) 181 [.inr 123, .inl o, .inl 0] μ4 (rV (fun μ6 => G E d 185 Φ 6 [some (.inr 123), none] [] μ6)))) ∧ (z5 = (-1) → Φ (some (.inl (-1))) μ4))) := by
  have n4 := hB.2.1
  have q0 := hM.1.2.2.2.2.1
  have q1 := hM.1.2.2.2.2.2.1
  refine s184 (by omega) hB hM hL (by omega) (fun x hx μ1 e1 m1 l1 => ⟨inR_of (by decide) (by decide), fun _ => ?_, fun g => absurd g (by decide)⟩) (fun fl hx μ1 e1 f1 => ⟨inR_of (by decide) (by decide), fun g => absurd rfl g, fun _ => hn fl (by rw [hO, hx]; rfl) μ1 e1 f1⟩)
  have := pUP_o q0 q1 hx
  exact m_181 (by omega) l1 (by omega) (fun μ2 e2 l2 => hg x hx μ2 (e1.tr (e2.mono (fun o i => Se_8))) (m1.se e2) l2)
theorem g185 (hd : 9 ≤ d) (hB : TB n T) : ∀ (f : Nat) (p : Int) (l : Cd) (μ : Mm), n - p < f → MX 0 n T μ p → LL μ l → (l.length : Int) ≤ p → (∀ x, pSr n T f p l = .ok x → ∀ μ', Ep Sm8 μ μ' → MX 0 n T μ' x.1 → LL μ' x.2 → Φ (some (.inl 0)) μ') → (∀ fl, pSr n T f p l = .error fl → ∀ μ', Ep Sm8 μ μ' → MF fl μ' → Φ (some (.inl (-1))) μ') → G E d 185 Φ 6 [some (.inr 123), none] [] μ := by
  intro f
  have kk : (0 : Nat) < 4 := by decide
  have n4 := hB.2.1
  induction f with
  | zero =>
    intro p l μ hf hM
    have p1 := hM.1.2.2.2.2.2.1
    omega
  | succ f ih =>
    intro p l μ hf hM hL hl hy hn
    have p0 := hM.1.2.2.2.2.1
    have p1 := hM.1.2.2.2.2.2.1
    have t := hM.tk kk hB
    have kr := toK_r (T := T) kk hB p0 p1
    -- either sign
    have nx : ∀ (o : Int), (toK 0 n T p = 43 ∨ toK 0 n T p = 45) → o = (if toK 0 n T p = 43 then 2 else 3) → Ct E (d - 1) 177 [.inr 123] μ (rV (fun μ3 => (Ct E (d - 1) 184 [.inr 123] μ3 (rI (fun z5 μ4 => inR z5 ∧ (z5 ≠ (-1) → (Ct E (d - 1) 181 [.inr 123, .inl o, .inl 0] μ4 (rV (fun μ6 => G E d 185 Φ 6 [some (.inr 123), none] [] μ6)))) ∧ (z5 = (-1) → Φ (some (.inl (-1))) μ4)))))) := by
      intro o k ho
      have te := toE_1 (T := T) (k := 0) p1 (by omega)
      have hO : pSr n T (f + 1) p l = ((pUn n T (toE n T p) l).bind fun x => pPr n T 401 x.1 x.2).bind fun y => pSr n T f y.1 (y.2 ++ [(o, 0)]) := by
        rw [pSr_s k, Except_bind_assoc, ho]
      refine u_177 (by omega) kk hB hM (fun μ1 e1 m1 => ?_)
      have e1' : Ep Sm8 μ μ1 := e1.mono (fun o i k => Sq_8 (Sr_q k))
      refine u184 (f := f) (o := o) hd hB m1 (hL.r e1) (by omega) hO (fun fl hx μ2 e2 f2 => hn fl hx μ2 (e1'.tr e2) f2) (fun x hx μ2 e2 m2 l2 => ?_)
      have hx2 := pUP_o (by omega) te.2 hx
      have hO2 : pSr n T (f + 1) p l = pSr n T f x.1 (x.2 ++ [(o, 0)]) := by rw [hO, hx]; rfl
      exact ih x.1 _ μ2 (by omega) m2 l2 (by simp only [List.length_append]; show ((x.2.length + 1 : Nat) : Int) ≤ _; omega) (fun y hyy μ3 e3 m3 l3 => hy y (by rw [hO2]; exact hyy) μ3 (e1'.tr (e2.tr e3)) m3 l3) (fun fl hyy μ3 e3 f3 => hn fl (by rw [hO2]; exact hyy) μ3 (e1'.tr (e2.tr e3)) f3)
    refine v185_6 (by omega) (s180 (k := 0) (by omega) kk hB hM (by decide) (by decide) ⟨b2_in _, fun z => ?_, fun z => ?_⟩)
    · have k := b2_ne0.mp z
      have v := t.2.2.2.2.2.2.2.1 (by omega) (by omega)
      rw [v]
      exact ⟨inR_of (by omega) (by omega), fun g => absurd k g, fun _ => nx 2 (Or.inl k) (by rw [if_pos k])⟩
    · have k := b2_0.mp z
      refine s180 (k := 0) (by omega) kk hB hM (by decide) (by decide) ⟨b2_in _, fun z2 => hy _ (pSr_e (by have := b2_0.mp z2; omega)) μ Ep.rf hM hL, fun z2 => ?_⟩
      have k2 := b2_ne0.mp z2
      have v := t.2.2.2.2.2.2.2.1 (by omega) (by omega)
      rw [v]
      exact ⟨inR_of (by omega) (by omega), fun _ => nx 3 (Or.inr k2) (by rw [if_neg k]), fun g => absurd g k⟩
theorem s185 (hd : 9 ≤ d) (hB : TB n T) (hM : MX 0 n T μ p) (hL : LL μ l) (hl : (l.length : Int) ≤ p) (hy : ∀ x, pSm n T p l = .ok x → ∀ μ', Ep Sm8 μ μ' → MX 0 n T μ' x.1 → LL μ' x.2 → Φ (some (.inl 0)) μ') (hn : ∀ fl, pSm n T p l = .error fl → ∀ μ', Ep Sm8 μ μ' → MF fl μ' → Φ (some (.inl (-1))) μ') : Ct E d 185 [.inr 123] μ Φ := by
  have n4 := hB.2.1
  have p0 := hM.1.2.2.2.2.1
  have p1 := hM.1.2.2.2.2.2.1
  have hO : pSm n T p l = ((pUn n T p l).bind fun x => pPr n T 401 x.1 x.2).bind fun y => pSr n T 401 y.1 y.2 := by
    unfold pSm
    rw [Except_bind_assoc]
  refine v185 (by omega) (s184 (by omega) hB hM hL hl (fun x hx μ1 e1 m1 l1 => ⟨inR_of (by decide) (by decide), fun _ => ?_, fun g => absurd g (by decide)⟩) (fun fl hx μ1 e1 f1 => ⟨inR_of (by decide) (by decide), fun g => absurd rfl g, fun _ => hn fl (by rw [hO, hx]; rfl) μ1 e1 f1⟩))
  have hx2 := pUP_o p0 p1 hx
  have h2 : pSm n T p l = pSr n T 401 x.1 x.2 := by rw [hO, hx]; rfl
  exact g185 hd hB 401 x.1 x.2 μ1 (by omega) m1 l1 (by omega) (fun y hyy μ2 e2 m2 l2 => hy y (by rw [h2]; exact hyy) μ2 (e1.tr e2) m2 l2) (fun fl hyy μ2 e2 f2 => hn fl (by rw [h2]; exact hyy) μ2 (e1.tr e2) f2)
/-- a comparison -/
theorem s186 (hd : 10 ≤ d) (hB : TB n T) (hM : MX 0 n T μ p) (hL : LL μ l) (hl : (l.length : Int) ≤ p) (hy : ∀ x, pCm n T p l = .ok x → ∀ μ', Ep Sm8 μ μ' → MX 0 n T μ' x.1 → LL μ' x.2 → Φ (some (.inl 0)) μ') (hn : ∀ fl, pCm n T p l = .error fl → ∀ μ', Ep Sm8 μ μ' → MF fl μ' → Φ (some (.inl (-1))) μ') : Ct E d 186 [.inr 123] μ Φ := by
  have kk : (0 : Nat) < 4 := by decide
  have n4 := hB.2.1
  have p0 := hM.1.2.2.2.2.1
  have p1 := hM.1.2.2.2.2.2.1
  refine v186 (by omega) (s185 (by omega) hB hM hL hl (fun x hx μ1 e1 m1 l1 => ⟨inR_of (by decide) (by decide), fun _ => ?_, fun g => absurd g (by decide)⟩) (fun fl hx μ1 e1 f1 => ⟨inR_of (by decide) (by decide), fun g => absurd rfl g, fun _ => hn fl (by unfold pCm; rw [hx]; rfl) μ1 e1 f1⟩))
  obtain ⟨a0, a1, a2, u, a3, a4, a5⟩ := pSm_o p0 p1 hx
  have hO : pCm n T p l = if toK 0 n T x.1 = 60 ∨ toK 0 n T x.1 = 61 ∨ toK 0 n T x.1 = 62 then (pSm n T (toE n T x.1) x.2).bind fun y => .ok (y.1, y.2 ++ [(toK 0 n T x.1 - 54, 0)]) else .error (1, toF n T x.1) := by
    unfold pCm
    rw [hx]
    rfl
  have t := m1.tk kk hB
  have kr := toK_r (T := T) (k := 0) kk hB (p := x.1) (by omega) a2
  have lx : (x.2.length : Int) = l.length + u.length := by rw [a3, List.length_append]; omega
  have nx : ∀ (o : Int), (toK 0 n T x.1 = 60 ∨ toK 0 n T x.1 = 61 ∨ toK 0 n T x.1 = 62) → o = toK 0 n T x.1 - 54 → Ct E (d - 1) 177 [.inr 123] μ1 (rV (fun μ5 => (Ct E (d - 1) 185 [.inr 123] μ5 (rI (fun z7 μ6 => inR z7 ∧ (z7 ≠ (-1) → (Ct E (d - 1) 181 [.inr 123, .inl o, .inl 0] μ6 (rV (fun μ8 => Φ (some (.inl 0)) μ8)))) ∧ (z7 = (-1) → Φ (some (.inl (-1))) μ6)))))) := by
    intro o k ho
    rw [if_pos k] at hO
    have te := toE_1 (T := T) (k := 0) a2 (by omega)
    refine u_177 (by omega) kk hB m1 (fun μ2 e2 m2 => ?_)
    have e12 : Ep Sm8 μ μ2 := e1.tr (e2.mono (fun o i k => Sq_8 (Sr_q k)))
    refine s185 (by omega) hB m2 (l1.r e2) (by omega) (fun y hyy μ3 e3 m3 l3 => ⟨inR_of (by decide) (by decide), fun _ => ?_, fun g => absurd g (by decide)⟩) (fun fl hyy μ3 e3 f3 => ⟨inR_of (by decide) (by decide), fun g => absurd rfl g, fun _ => hn fl (by rw [hO, hyy]; rfl) μ3 (e12.tr e3) f3⟩)
    obtain ⟨b0, b1, b2, w, b3, b4, b5⟩ := pSm_o (by omega) te.2 hyy
    have ly : (y.2.length : Int) = x.2.length + w.length := by rw [b3, List.length_append]; omega
    subst ho
    exact m_181 (by omega) l3 (by omega) (fun μ4 e4 l4 => hy (y.1, y.2 ++ [(toK 0 n T x.1 - 54, 0)]) (by rw [hO, hyy]; rfl) μ4 ((e12.tr e3).tr (e4.mono (fun o i => Se_8))) (m3.se e4) l4)
  have vv : ∀ c : Int, 3 < c → c < 128 → toK 0 n T x.1 = c → μ1 123 12 = c := fun c c0 c1 k => by rw [t.2.2.2.2.2.2.2.1 (by omega) (by omega)]; exact k
  refine s180 (k := 0) (by omega) kk hB m1 (by decide) (by decide) ⟨b2_in _, fun z => ?_, fun z => ?_⟩
  · have k := b2_ne0.mp z
    rw [vv 60 (by decide) (by decide) k]
    exact ⟨inR_of (by decide) (by decide), fun g => absurd rfl g, fun _ => nx 6 (Or.inl k) (by omega)⟩
  · have k60 := b2_0.mp z
    refine s180 (k := 0) (by omega) kk hB m1 (by decide) (by decide) ⟨b2_in _, fun z => ?_, fun z => ?_⟩
    · have k := b2_ne0.mp z
      rw [vv 61 (by decide) (by decide) k]
      exact ⟨inR_of (by decide) (by decide), fun _ => ⟨inR_of (by decide) (by decide), fun g => absurd rfl g, fun _ => nx 7 (Or.inr (Or.inl k)) (by omega)⟩, fun g => absurd g (by decide)⟩
    · have k61 := b2_0.mp z
      refine s180 (k := 0) (by omega) kk hB m1 (by decide) (by decide) ⟨b2_in _, fun z => ?_, fun z => ?_⟩
      · have k := b2_ne0.mp z
        rw [vv 62 (by decide) (by decide) k]
        exact ⟨inR_of (by decide) (by decide), fun _ => ⟨inR_of (by decide) (by decide), fun _ => nx 8 (Or.inr (Or.inr k)) (by omega), fun g => absurd g (by decide)⟩, fun g => absurd g (by decide)⟩
      · have k62 := b2_0.mp z
        rw [if_neg (by omega)] at hO
        exact s178 (by omega) m1 (fun μ2 e2 f2 => hn _ hO μ2 (e1.tr (e2.mono (fun o i => Sq_8))) f2)
end S71
