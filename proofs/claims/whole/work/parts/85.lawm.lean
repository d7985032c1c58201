/-! a law's sums and comparisons in the reference -/
def Sm8 : Nat → Int → Prop := fun o i => Sq o i ∨ (o = 123 ∧ i = 23) ∨ ((o = 135 ∨ o = 136) ∧ 800 ≤ i)
def LL (μ : Mm) (l : Cd) : Prop := μ 123 23 = l.length ∧ coM (μ 135) (μ 136) 800 l
section S70
variable {E : En} {d : Nat} {Φ : Option AV → Mm → Prop} {μ μ' : Mm} {n p q : Int} {T : Int → Int} {l : Cd}
theorem coM_ap {m m' g g' : Int → Int} {c : Int × Int} : ∀ (l : Cd) (i : Int), coM m g i l → (∀ j, i ≤ j → j < i + l.length → m' j = m j ∧ g' j = g j) → m' (i + l.length) = c.1 → g' (i + l.length) = c.2 → coM m' g' i (l ++ [c])
  | [], i, _, _, h, h2 => by
    have h : m' (i + 0) = c.1 := h
    have h2 : g' (i + 0) = c.2 := h2
    rw [Int.add_zero] at h h2
    exact ⟨h, h2, trivial⟩
  | a :: l, i, h, e, h2, h3 => by
    rw [List.length_cons] at e h2 h3
    have e0 := e i (by omega) (by omega)
    have ee : i + ((l.length + 1 : Nat) : Int) = i + 1 + (l.length : Int) := by omega
    rw [ee] at h2 h3
    exact ⟨by rw [e0.1]; exact h.1, by rw [e0.2]; exact h.2.1, coM_ap l (i + 1) h.2.2 (fun j j0 j1 => e j (by omega) (by omega)) h2 h3⟩
theorem LL.ep {S : Nat → Int → Prop} (h : LL μ l) (e : Ep S μ μ') (h1 : ¬ S 123 23) (h2 : ∀ o i, o = 135 ∨ o = 136 → ¬ S o i) : LL μ' l :=
  ⟨by rw [e _ _ h1]; exact h.1, coM_c l 800 (fun j _ _ => ⟨e _ _ (h2 _ _ (Or.inl rfl)), e _ _ (h2 _ _ (Or.inr rfl))⟩) h.2⟩
theorem Sq_8 {o : Nat} {i : Int} (h : Sq o i) : Sm8 o i := Or.inl h
theorem LL.sq (h : LL μ l) (e : Ep Sq μ μ') : LL μ' l := h.ep e (by unfold Sq; omega) (fun o i k => by unfold Sq; omega)
theorem LL.r (h : LL μ l) (e : Ep Sr μ μ') : LL μ' l := h.ep e (by unfold Sr; omega) (fun o i k => by unfold Sr; omega)
def Se : Nat → Int → Prop := fun o i => (o = 123 ∧ i = 23) ∨ ((o = 135 ∨ o = 136) ∧ 800 ≤ i)
theorem Se_8 {o : Nat} {i : Int} (h : Se o i) : Sm8 o i := Or.inr h
theorem MX.se {k : Nat} (h : MX k n T μ p) (e : Ep Se μ μ') : MX k n T μ' p := h.ep e (fun o i k => by unfold Se; omega)
theorem m_181 {a b : Int} (hd : 1 ≤ d) (hL : LL μ l) (hl : l.length < 400) (h : ∀ μ', Ep Se μ μ' → LL μ' (l ++ [(a, b)]) → Φ none μ') : Ct E d 181 [.inr 123, .inl a, .inl b] μ Φ := by
  refine v181 hd ?_
  rw [hL.1]
  refine ⟨by omega, by omega, h _ (((Ep.rf.mu (by unfold Se; omega)).mu (by unfold Se; omega)).mu (by unfold Se; omega)) ⟨?_, ?_⟩⟩
  · rw [mu_s, List.length_append]
    show _ = ((l.length + 1 : Nat) : Int)
    omega
  · refine coM_ap l 800 hL.2 (fun j j0 j1 => ⟨?_, ?_⟩) ?_ ?_
    · rw [mu_o (by decide), mu_o (by decide), mu_i (by omega)]
    · rw [mu_o (by decide), mu_i (by omega), mu_o (by decide)]
    · rw [mu_o (by decide), mu_o (by decide), mu_s]
    · rw [mu_o (by decide), mu_s]
theorem pUn_f (h : 135 ≤ toK 0 n T p ∧ toK 0 n T p < 144) : pUn n T p l = .ok (toE n T p, l ++ [(1, toK 0 n T p - 135)]) := by unfold pUn; rw [if_pos h]
theorem pUn_n (h : toK 0 n T p = 3) : pUn n T p l = .ok (toE n T p, l ++ [(0, toN n T p)]) := by unfold pUn; rw [if_neg (by omega), if_pos h]
theorem pUn_1 (h : ¬ (135 ≤ toK 0 n T p ∧ toK 0 n T p < 144)) (h3 : toK 0 n T p ≠ 3) : pUn n T p l = .error (1, toF n T p) := by unfold pUn; rw [if_neg h, if_neg h3]
theorem s183 (hd : 6 ≤ d) (hB : TB n T) (hM : MX 0 n T μ p) (hL : LL μ l) (hl : (l.length : Int) ≤ p) (hy : ∀ x, pUn n T p l = .ok x → ∀ μ', Ep Sm8 μ μ' → MX 0 n T μ' x.1 → LL μ' x.2 → Φ (some (.inl 0)) μ') (hn : ∀ f, pUn n T p l = .error f → ∀ μ', Ep Sm8 μ μ' → MF f μ' → Φ (some (.inl (-1))) μ') : Ct E d 183 [.inr 123] μ Φ := by
  have kk : (0 : Nat) < 4 := by decide
  have n4 := hB.2.1
  have p0 := hM.1.2.2.2.2.1
  have p1 := hM.1.2.2.2.2.2.1
  have t := hM.tk kk hB
  have kr := toK_r (T := T) kk hB p0 p1
  have k0 : ((kb 0 : Nat) : Int) = 0 := by decide
  have bad : ¬ (135 ≤ toK 0 n T p ∧ toK 0 n T p < 144) → toK 0 n T p ≠ 3 → ∀ {c : Int}, c = 1 → Ct E (d - 1) 178 [.inr 123, .inl c] μ (rI (fun z4 μ3 => Φ (some (.inl z4)) μ3)) := fun g g3 {c} hc => by
    subst hc
    exact s178 (by omega) hM (fun μ' e1 f1 => hn _ (pUn_1 g g3) μ' (e1.mono (fun o i => Sq_8)) f1)
  refine v183 (by omega) ⟨t.1, fun g => ⟨t.1, fun g3 => ?_, fun g3 => bad (by omega) (by omega) rfl⟩, fun g => ?_⟩
  · have k3 := t.2.2.2.1.mp g3
    have e := toE_1 (T := T) (k := 0) p1 (by omega)
    rw [t.2.2.2.2.2.2.1 k3]
    exact m_181 (by omega) hL (by omega) (fun μ1 e1 l1 => u_177 (by omega) kk hB (hM.se e1) (fun μ2 e2 m2 => hy _ (pUn_n k3) μ2 ((e1.mono (fun o i => Se_8)).tr (e2.mono (fun o i k => Sq_8 (Sr_q k)))) m2 (l1.r e2)))
  · have k8 := t.2.2.1.mp g
    have v := t.2.2.2.2.2.2.2.2 k8
    rw [k0] at v
    rw [v]
    refine v182 (by omega) (s153 (by omega) (inR_of (by omega) (by omega)) (inR_of (by decide) (by decide)) (inR_of (by decide) (by decide)) ⟨b2_01 _, b2_in _, fun z => ?_, fun z => ?_⟩)
    · have z := b2_0.mp z
      exact ⟨t.1, fun g3 => by omega, fun _ => bad (by omega) (by omega) rfl⟩
    · have z := b2_ne0.mp z
      have e := toE_1 (T := T) (k := 0) p1 (by omega)
      rw [v, show (0 : Int) + (toK 0 n T p - 128) - 7 = toK 0 n T p - 135 by omega]
      exact m_181 (by omega) hL (by omega) (fun μ1 e1 l1 => u_177 (by omega) kk hB (hM.se e1) (fun μ2 e2 m2 => hy _ (pUn_f (by omega)) μ2 ((e1.mono (fun o i => Se_8)).tr (e2.mono (fun o i k => Sq_8 (Sr_q k)))) m2 (l1.r e2)))
theorem pPr_m {f : Nat} (h : toK 0 n T p = 42) : pPr n T (f + 1) p l = (pUn n T (toE n T p) l).bind fun x => pPr n T f x.1 (x.2 ++ [(4, 0)]) := by
  show (if _ then _ else _) = _
  rw [if_pos h]
theorem pPr_d {f : Nat} (h : toK 0 n T p = 47) : pPr n T (f + 1) p l = (pDv n T (toE n T p) l).bind fun x => pPr n T f x.1 (x.2 ++ [(5, 0)]) := by
  show (if _ then _ else _) = _
  rw [if_neg (by omega), if_pos h]
theorem pPr_e {f : Nat} (h : toK 0 n T p ≠ 42) (h2 : toK 0 n T p ≠ 47) : pPr n T (f + 1) p l = .ok (p, l) := by
  show (if _ then _ else _) = _
  rw [if_neg h, if_neg h2]
/-- a part that is multiplied, or that divides -/
theorem u183 {f : Nat} {z o : Int} {O : Except Flt (Int × Cd)} (hd : 8 ≤ d) (hB : TB n T) (hM : MX 0 n T μ q) (hL : LL μ l) (hl : (l.length : Int) + 1 ≤ q) (hz : (z = 0 ∧ o = 5) ∨ (z ≠ 0 ∧ o = 4)) (hzi : inR z) (hO : O = (pUn n T q l).bind fun x => pPr n T f x.1 (x.2 ++ [(o, 0)])) (hn : ∀ fl, O = .error fl → ∀ μ', Ep Sm8 μ μ' → MF fl μ' → Φ (some (.inl (-1))) μ') (hg : ∀ x, pUn n T q l = .ok x → ∀ μ', Ep Sm8 μ μ' → MX 0 n T μ' x.1 → LL μ' (x.2 ++ [(o, 0)]) → G E d 184 Φ 6 [some (.inr 123), none] [] μ') : Ct E (d - 1) 183 [.inr 123] μ (rI (fun z7 μ6 => inR z7 ∧ (z7 ≠ (-1) → inR z ∧ (z = 0 → (Ct E (d - 1) 181 [.inr 123, .inl 5, .inl 0] μ6 (rV (fun μ8 => G E d 184 Φ 6 [some (.inr 123), none] [] μ8)))) ∧ (z ≠ 0 → (Ct E (d - 1) 181 [.inr 123, .inl 4, .inl 0] μ6 (rV (fun μ9 => G E d 184 Φ 6 [some (.inr 123), none] [] μ9))))) ∧ (z7 = (-1) → Φ (some (.inl (-1))) μ6))) := by
  have n4 := hB.2.1
  have q0 := hM.1.2.2.2.2.1
  have q1 := hM.1.2.2.2.2.2.1
  refine s183 (by omega) hB hM hL (by omega) (fun x hx μ1 e1 m1 l1 => ⟨inR_of (by decide) (by decide), fun _ => ⟨hzi, fun g => ?_, fun g => ?_⟩, fun g => absurd g (by decide)⟩) (fun fl hx μ1 e1 f1 => ⟨inR_of (by decide) (by decide), fun g => absurd rfl g, fun _ => hn fl (by rw [hO, hx]; rfl) μ1 e1 f1⟩)
  · obtain ⟨a0, a1, a2, u, a3, a4, a5⟩ := pUn_o q0 q1 hx
    have ll : (x.2.length : Int) = l.length + u.length := by rw [a3, List.length_append]; omega
    have ho : o = 5 := by omega
    subst ho
    exact m_181 (by omega) l1 (by omega) (fun μ2 e2 l2 => hg x hx μ2 (e1.tr (e2.mono (fun o i => Se_8))) (m1.se e2) l2)
  · obtain ⟨a0, a1, a2, u, a3, a4, a5⟩ := pUn_o q0 q1 hx
    have ll : (x.2.length : Int) = l.length + u.length := by rw [a3, List.length_append]; omega
    have ho : o = 4 := by omega
    subst ho
    exact m_181 (by omega) l1 (by omega) (fun μ2 e2 l2 => hg x hx μ2 (e1.tr (e2.mono (fun o i => Se_8))) (m1.se e2) l2)
theorem g184 (hd : 8 ≤ d) (hB : TB n T) : ∀ (f : Nat) (p : Int) (l : Cd) (μ : Mm), n - p < f → MX 0 n T μ p → LL μ l → (l.length : Int) ≤ p → (∀ x, pPr n T f p l = .ok x → ∀ μ', Ep Sm8 μ μ' → MX 0 n T μ' x.1 → LL μ' x.2 → Φ (some (.inl 0)) μ') → (∀ fl, pPr n T f p l = .error fl → ∀ μ', Ep Sm8 μ μ' → MF fl μ' → Φ (some (.inl (-1))) μ') → G E d 184 Φ 6 [some (.inr 123), none] [] μ := by
  intro f
  have kk : (0 : Nat) < 4 := by decide
  have n4 := hB.2.1
  induction f with
  | zero =>
    intro p l μ hf hM
    have p1 := hM.1.2.2.2.2.2.1
    omega
  | succ f ih =>
    intro p l μ hf hM hL hl hy hn
    have p0 := hM.1.2.2.2.2.1
    have p1 := hM.1.2.2.2.2.2.1
    refine v184_6 (by omega) (s180 (k := 0) (by omega) kk hB hM (by decide) (by decide) ⟨b2_in _, fun z => ?_, fun z => ?_⟩)
    · have k := b2_ne0.mp z
      have te := toE_1 (T := T) (k := 0) p1 (by omega)
      refine s180 (k := 0) (by omega) kk hB hM (by decide) (by decide) ?_
      have bz : b2 (toK 0 n T p = 42) = 1 := b2_t k
      show Ct E (d - 1) 177 [.inr 123] μ (rV (fun μ5 => inR (b2 (toK 0 n T p = 42)) ∧ _))
      rw [bz]
      refine u_177 (by omega) kk hB hM (fun μ1 e1 m1 => ⟨inR_of (by decide) (by decide), fun _ => ⟨inR_of (by decide) (by decide), fun _ => ?_, fun g => absurd g (by decide)⟩, fun g => absurd g (by decide)⟩)
      have e1' : Ep Sm8 μ μ1 := e1.mono (fun o i k => Sq_8 (Sr_q k))
      have hO := pPr_m (f := f) (n := n) (T := T) (l := l) k
      refine u183 (f := f) (o := 4) hd hB m1 (hL.r e1) (by omega) (Or.inr ⟨by decide, rfl⟩) (inR_of (by decide) (by decide)) hO (fun fl hx μ2 e2 f2 => hn fl hx μ2 (e1'.tr e2) f2) (fun x hx μ2 e2 m2 l2 => ?_)
      obtain ⟨a0, a1, a2, u, a3, a4, a5⟩ := pUn_o (by omega) te.2 hx
      have hO2 : pPr n T (f + 1) p l = pPr n T f x.1 (x.2 ++ [(4, 0)]) := by rw [hO, hx]; rfl
      exact ih x.1 _ μ2 (by omega) m2 l2 (by rw [a3]; simp only [List.length_append]; show ((l.length + u.length + 1 : Nat) : Int) ≤ _; omega) (fun y hyy μ3 e3 m3 l3 => hy y (by rw [hO2]; exact hyy) μ3 (e1'.tr (e2.tr e3)) m3 l3) (fun fl hyy μ3 e3 f3 => hn fl (by rw [hO2]; exact hyy) μ3 (e1'.tr (e2.tr e3)) f3)
    · have k := b2_0.mp z
      refine s180 (k := 0) (by omega) kk hB hM (by decide) (by decide) ⟨b2_in _, fun z2 => hy _ (pPr_e k (b2_0.mp z2)) μ Ep.rf hM hL, fun z2 => ?_⟩
      have k2 := b2_ne0.mp z2
      have te := toE_1 (T := T) (k := 0) p1 (by omega)
      refine s180 (k := 0) (by omega) kk hB hM (by decide) (by decide) ?_
      have bz : b2 (toK 0 n T p = 42) = 0 := b2_f k
      show Ct E (d - 1) 177 [.inr 123] μ (rV (fun μ5 => inR (b2 (toK 0 n T p = 42)) ∧ _))
      rw [bz]
      have hO := pPr_d (f := f) (n := n) (T := T) (l := l) k2
      refine u_177 (by omega) kk hB hM (fun μ1 e1 m1 => ?_)
      have e1' : Ep Sm8 μ μ1 := e1.mono (fun o i k => Sq_8 (Sr_q k))
      have t := m1.tk kk hB
      have i0 : inR (0 : Int) := inR_of (by decide) (by decide)
      refine ⟨i0, fun g => absurd rfl g, fun _ => ⟨t.1, fun g3 => ⟨i0, fun g => absurd rfl g, fun _ => ?_⟩, fun g3 => ?_⟩⟩
      · have k3 := t.2.2.2.1.mp g3
        have nr := toN_r (T := T) (k := 0) kk te.2 k3
        have v := t.2.2.2.2.2.2.1 k3
        rw [v]
        refine ⟨inR_of (by omega) (by omega), fun g => ?_, fun g => s178 (by omega) m1 (fun μ2 e2 f2 => hn _ ?_ μ2 (e1'.tr (e2.mono (fun o i => Sq_8))) f2)⟩
        · have du : pDv n T (toE n T p) l = pUn n T (toE n T p) l := by
            rw [pUn_n k3]
            unfold pDv
            rw [if_pos k3, if_neg g]
          rw [du] at hO
          refine u183 (f := f) (o := 5) hd hB m1 (hL.r e1) (by omega) (Or.inl ⟨rfl, rfl⟩) i0 hO (fun fl hx μ2 e2 f2 => hn fl hx μ2 (e1'.tr e2) f2) (fun x hx μ2 e2 m2 l2 => ?_)
          obtain ⟨a0, a1, a2, u, a3, a4, a5⟩ := pUn_o (by omega) te.2 hx
          have hO2 : pPr n T (f + 1) p l = pPr n T f x.1 (x.2 ++ [(5, 0)]) := by rw [hO, hx]; rfl
          exact ih x.1 _ μ2 (by omega) m2 l2 (by rw [a3]; simp only [List.length_append]; show ((l.length + u.length + 1 : Nat) : Int) ≤ _; omega) (fun y hyy μ3 e3 m3 l3 => hy y (by rw [hO2]; exact hyy) μ3 (e1'.tr (e2.tr e3)) m3 l3) (fun fl hyy μ3 e3 f3 => hn fl (by rw [hO2]; exact hyy) μ3 (e1'.tr (e2.tr e3)) f3)
        · rw [hO]
          unfold pDv
          rw [if_pos k3, if_pos g]
          rfl
      · refine s178 (by omega) m1 (fun μ2 e2 f2 => hn _ ?_ μ2 (e1'.tr (e2.mono (fun o i => Sq_8))) f2)
        rw [hO]
        unfold pDv
        rw [if_neg (by omega)]
        rfl
theorem s184 (hd : 8 ≤ d) (hB : TB n T) (hM : MX 0 n T μ p) (hL : LL μ l) (hl : (l.length : Int) ≤ p) (hy : ∀ x, ((pUn n T p l).bind fun x => pPr n T 401 x.1 x.2) = .ok x → ∀ μ', Ep Sm8 μ μ' → MX 0 n T μ' x.1 → LL μ' x.2 → Φ (some (.inl 0)) μ') (hn : ∀ fl, ((pUn n T p l).bind fun x => pPr n T 401 x.1 x.2) = .error fl → ∀ μ', Ep Sm8 μ μ' → MF fl μ' → Φ (some (.inl (-1))) μ') : Ct E d 184 [.inr 123] μ Φ := by
  have n4 := hB.2.1
  have p0 := hM.1.2.2.2.2.1
  have p1 := hM.1.2.2.2.2.2.1
  refine v184 (by omega) (s183 (by omega) hB hM hL hl (fun x hx μ1 e1 m1 l1 => ⟨inR_of (by decide) (by decide), fun _ => ?_, fun g => absurd g (by decide)⟩) (fun fl hx μ1 e1 f1 => ⟨inR_of (by decide) (by decide), fun g => absurd rfl g, fun _ => hn fl (by rw [hx]; rfl) μ1 e1 f1⟩))
  obtain ⟨a0, a1, a2, u, a3, a4, a5⟩ := pUn_o p0 p1 hx
  have h2 : ((pUn n T p l).bind fun x => pPr n T 401 x.1 x.2) = pPr n T 401 x.1 x.2 := by rw [hx]; rfl
  exact g184 hd hB 401 x.1 x.2 μ1 (by omega) m1 l1 (by rw [a3, List.length_append]; omega) (fun y hyy μ2 e2 m2 l2 => hy y (by rw [h2]; exact hyy) μ2 (e1.tr e2) m2 l2) (fun fl hyy μ2 e2 f2 => hn fl (by rw [h2]; exact hyy) μ2 (e1.tr e2) f2)
end S70
