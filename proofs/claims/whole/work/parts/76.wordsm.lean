/-! JOBS and THE SMALL BOOK as the reference reads them -/
def lm1 (T : Int → Int) (μ : Mm) (b dt l : Int) (x : Int × Int × Int) : Prop := (dt = 1 → μ 140 (16 + l) = x.1) ∧ μ 138 (b + l) = x.2.2 ∧ ∀ c, 0 ≤ c → c < x.2.2 → μ 139 (8 * (b + l) + c) = T (x.2.1 + c) - 97
/-- what reading changes in the reference -/
def SmJ : Nat → Int → Prop := fun o i => Sq o i ∨ (o = 138 ∧ 32 ≤ i) ∨ (o = 139 ∧ 256 ≤ i) ∨ (o = 140 ∧ 16 ≤ i)
section S61
variable {E : En} {d : Nat} {Φ : Option AV → Mm → Prop} {μ μ' : Mm} {n p q : Int} {T : Int → Int} {k : Nat} {f : Flt}
theorem lm1.ep {S : Nat → Int → Prop} {b dt l : Int} {x : Int × Int × Int} (h : lm1 T μ b dt l x) (e : Ep S μ μ') (h0 : dt = 1 → ¬ S 140 (16 + l)) (h1 : ¬ S 138 (b + l)) (h2 : ∀ c, 0 ≤ c → c < x.2.2 → ¬ S 139 (8 * (b + l) + c)) : lm1 T μ' b dt l x :=
  ⟨fun g => by rw [e _ _ (h0 g)]; exact h.1 g, by rw [e _ _ h1]; exact h.2.1, fun c c0 c1 => by rw [e _ _ (h2 c c0 c1)]; exact h.2.2 c c0 c1⟩
theorem pLn_1 {dt : Int} (h : pMa k n T 128 p = .error f) : pLn k n T dt p = .error f := by unfold pLn; rw [h]; rfl
theorem pLn_2 {dt p1 : Int} (h : pMa k n T 128 p = .ok p1) (h2 : pDy k n T dt p1 = .error f) : pLn k n T dt p = .error f := by
  unfold pLn
  rw [h]
  show (pDy k n T dt p1).bind _ = _
  rw [h2]
  rfl
theorem pLn_3 {dt p1 : Int} {y : Int × Int} (h : pMa k n T 128 p = .ok p1) (h2 : pDy k n T dt p1 = .ok y) : pLn k n T dt p = (pWo k n T 8 y.2).bind fun x => (pMa k n T 59 x.2).bind fun p4 => .ok ((y.1, x.1.1, x.1.2), p4) := by
  unfold pLn
  rw [h]
  show (pDy k n T dt p1).bind _ = _
  rw [h2]
  rfl
theorem w197 {b l dt p1 dy q1 : Int} {Ψ : Mm → Prop} (hd : 6 ≤ d) (hk : k < 4) (hB : TB n T) (l0 : 0 ≤ l) (l1 : l < 16) (hb : b = 32 ∨ b = 48) (e1 : pMa k n T 128 p = .ok p1) (e2 : pDy k n T dt p1 = .ok (dy, q1)) (hM : MX k n T μ q1) (hy : ∀ x q, pLn k n T dt p = .ok (x, q) → x.1 = dy → ∀ μ', Ep (Sp (b + l)) μ μ' → MX k n T μ' q → μ' 138 (b + l) = x.2.2 → (∀ c, 0 ≤ c → c < x.2.2 → μ' 139 (8 * (b + l) + c) = T (x.2.1 + c) - 97) → Ψ μ') (hn : ∀ f, pLn k n T dt p = .error f → ∀ μ', Ep (Sp (b + l)) μ μ' → MF f μ' → Φ (some (.inl (-1))) μ') : Ct E (d - 1) 196 [.inr 123, .inl (b + l), .inl 8] μ (rI (fun z8 μ7 => inR z8 ∧ (z8 = (-1) → Φ (some (.inl (-1))) μ7) ∧ (z8 ≠ (-1) → (Ct E (d - 1) 194 [.inr 123, .inl 59] μ7 (rI (fun z10 μ9 => inR z10 ∧ (z10 ≠ (-1) → Ψ μ9) ∧ (z10 = (-1) → Φ (some (.inl (-1))) μ9))))))) := by
  have z01 : inR (0 : Int) ∧ inR (-1 : Int) := ⟨inR_of (by decide) (by decide), inR_of (by decide) (by decide)⟩
  have hl := pLn_3 e1 e2
  refine s196 (by omega) hk hB hM (by omega) (by omega) (by decide) (by decide) (fun x q2 h3 μ3 ep3 c3 v38 v39 => ⟨z01.1, fun g => absurd g (by decide), fun _ => ?_⟩) (fun f h3 μ3 ep3 c3 => ⟨z01.2, fun _ => hn f (by rw [hl]; show (pWo k n T 8 q1).bind _ = _; rw [h3]; rfl) μ3 ep3 c3, fun g => absurd rfl g⟩)
  have hl2 : pLn k n T dt p = (pMa k n T 59 q2).bind fun p4 => .ok ((dy, x.1, x.2), p4) := by
    rw [hl]
    show (pWo k n T 8 q1).bind _ = _
    rw [h3]
    rfl
  refine s194 (by omega) hk hB c3 (by decide) (by decide) (fun q4 h4 μ5 ep5 c5 => ⟨z01.1, fun _ => ?_, fun g => absurd g (by decide)⟩) (fun f h4 μ5 ep5 c5 => ⟨z01.2, fun g => absurd rfl g, fun _ => hn f (by rw [hl2, h4]; rfl) μ5 (ep3.tr (ep5.mono (fun o i k => Or.inl k))) c5⟩)
  refine hy _ q4 (by rw [hl2, h4]; rfl) rfl μ5 (ep3.tr (ep5.mono (fun o i k => Or.inl k))) c5 ?_ (fun c c0 c1 => ?_)
  · rw [ep5 _ _ (by unfold Sq; omega)]; exact v38
  · rw [ep5 _ _ (by unfold Sq; omega)]; exact v39 c c0 c1
theorem Sp_J {a : Int} (h : 32 ≤ a) {o : Nat} {i : Int} (k : Sp a o i) : SmJ o i := by
  unfold Sp at k
  unfold SmJ
  rcases k with k | k | k
  · exact Or.inl k
  · exact Or.inr (by omega)
  · exact Or.inr (by omega)
theorem pDy_0 {p1 : Int} : pDy k n T 0 p1 = .ok (0, p1) := rfl
theorem pDy_1 {p1 : Int} : pDy k n T 1 p1 = pNu k n T 0 999 p1 := rfl
/-- the end of the lines -/
theorem pLs_0 {dt l : Int} {D : Int → Int × Int × Int} (m : Nat) (h : toK k n T p = 0) : pLs k n T dt m l D p = .ok (l, D) := by
  cases m with
  | zero => exact if_pos h
  | succ m => exact if_pos h
theorem pLs_1 {dt l : Int} {D : Int → Int × Int × Int} (m : Nat) (h : toK k n T p ≠ 0) (h1 : toK k n T p ≠ 128) : pLs k n T dt m l D p = .error (1, toF n T p) := by
  cases m with
  | zero =>
    show (if _ then _ else _) = _
    rw [if_neg h, if_neg h1]
  | succ m =>
    show (if _ then _ else _) = _
    rw [if_neg h, pLn_1 (pMa_f h1)]
    rfl
theorem pLs_2 {dt l : Int} {D : Int → Int × Int × Int} (m : Nat) (h : toK k n T p = 128) : pLs k n T dt (m + 1) l D p = (pLn k n T dt p).bind fun x => pLs k n T dt m (l + 1) (uf D l x.1) x.2 := by
  show (if _ then _ else _) = _
  rw [if_neg (by omega)]
theorem pLs_3 {dt l : Int} {D : Int → Int × Int × Int} (h : toK k n T p = 128) : pLs k n T dt 0 l D p = .error (3, toF n T p) := by
  show (if _ then _ else _) = _
  rw [if_neg (by omega), if_pos h]
theorem g198 (hd : 7 ≤ d) (hB : TB n T) : ∀ (m : Nat) (l : Int) (D : Int → Int × Int × Int) (p : Int) (μ : Mm), l + m = 16 → 0 ≤ l → MX 2 n T μ p → (∀ i, 0 ≤ i → i < l → lm1 T μ 48 0 i (D i) ∧ lnB n T (D i)) → (∀ c D', pLs 2 n T 0 m l D p = .ok (c, D') → ∀ μ', Ep SmJ μ μ' → 0 ≤ c → c ≤ 16 → (∀ i, 0 ≤ i → i < c → lm1 T μ' 48 0 i (D' i) ∧ lnB n T (D' i)) → Φ (some (.inl c)) μ') → (∀ f, pLs 2 n T 0 m l D p = .error f → ∀ μ', Ep SmJ μ μ' → MF f μ' → Φ (some (.inl (-1))) μ') → G E d 198 Φ 2 [some (.inr 123), some (.inl l)] [] μ := by
  intro m
  have hk : 2 < 4 := by decide
  induction m with
  | zero =>
    intro l D p μ hl l0 hM hD hy hn
    have l16 : l = 16 := by omega
    subst l16
    have t := hM.tk hk hB
    refine v198_2 (by omega) (s179 (k := 2) (c := 0) (by omega) hk hB hM (by decide) (by decide) ⟨b2_in _, fun g => ⟨t.1, fun g2 => s178 (by omega) hM (fun μ' e1 f1 => hn _ (pLs_1 _ (by omega) (by have := b2_0.mp g; omega)) μ' (e1.mono (fun o i k => Or.inl k)) f1), fun g2 => hy _ _ (pLs_0 _ (by omega)) μ Ep.rf (by decide) (by decide) hD⟩, fun g => ⟨inR_of (by decide) (by decide), fun g2 => absurd rfl g2, fun _ => ?_⟩⟩)
    exact s178 (by omega) hM (fun μ' e1 f1 => hn _ (pLs_3 (by have := b2_ne0.mp g; omega)) μ' (e1.mono (fun o i k => Or.inl k)) f1)
  | succ m ih =>
    intro l D p μ hl l0 hM hD hy hn
    have t := hM.tk hk hB
    refine v198_2 (by omega) (s179 (k := 2) (c := 0) (by omega) hk hB hM (by decide) (by decide) ⟨b2_in _, fun g => ⟨t.1, fun g2 => s178 (by omega) hM (fun μ' e1 f1 => hn _ (pLs_1 _ (by omega) (by have := b2_0.mp g; omega)) μ' (e1.mono (fun o i k => Or.inl k)) f1), fun g2 => hy _ _ (pLs_0 _ (by omega)) μ Ep.rf l0 (by omega) hD⟩, fun g => ⟨inR_of (by omega) (by omega), fun _ => ?_, fun g2 => by omega⟩⟩)
    have g : toK 2 n T p = 128 := by have := b2_ne0.mp g; omega
    have hu := pLs_2 (k := 2) (n := n) (T := T) (dt := 0) (l := l) (D := D) m g
    have p0 := hM.1.2.2.2.2.1
    have p1 := hM.1.2.2.2.2.2.1
    refine u_177 (by omega) hk hB hM (fun μ1 e1 m1 => ?_)
    have e1J : Ep SmJ μ μ1 := e1.mono (fun o i k => Or.inl (Sr_q k))
    refine w197 (p := p) (dt := 0) (by omega) hk hB l0 (by omega) (Or.inr rfl) (pMa_t g) pDy_0 m1 (fun x q h3 hx μ2 ep2 m2 v38 v39 => ?_) (fun f h3 μ2 ep2 c2 => hn f (by rw [hu, h3]; rfl) μ2 (e1J.tr (ep2.mono (fun o i => Sp_J (by omega)))) c2)
    have hu2 : pLs 2 n T 0 (m + 1) l D p = pLs 2 n T 0 m (l + 1) (uf D l x) q := by rw [hu, h3]; rfl
    have xb := (pLn_o p0 p1 h3).1
    have ep12 := e1J.tr (ep2.mono (fun o i => Sp_J (a := 48 + l) (by omega)))
    refine ih (l + 1) (uf D l x) q μ2 (by omega) (by omega) m2 (fun i i0 i1 => ?_) (fun c D' e3 μ3 ep3 c0 c16 h2 => hy c D' (by rw [hu2]; exact e3) μ3 (ep12.tr ep3) c0 c16 h2) (fun f e3 μ3 ep3 c3 => hn f (by rw [hu2]; exact e3) μ3 (ep12.tr ep3) c3)
    unfold uf
    by_cases gi : i = l
    · rw [if_pos gi, gi]
      exact ⟨⟨fun q => absurd q (by decide), v38, v39⟩, xb⟩
    · rw [if_neg gi]
      have h4 := hD i i0 (by omega)
      have b8 := h4.2.2.2.2.2.1
      exact ⟨(h4.1.ep e1 (fun q => absurd q (by decide)) (by unfold Sr; omega) (fun c c0 c1 => by unfold Sr; omega)).ep ep2 (fun q => absurd q (by decide)) (by unfold Sp Sq; omega) (fun c c0 c1 => by unfold Sp Sq; omega), h4.2⟩
theorem g197 (hd : 8 ≤ d) (hB : TB n T) : ∀ (m : Nat) (l : Int) (D : Int → Int × Int × Int) (p : Int) (μ : Mm), l + m = 16 → 0 ≤ l → MX 1 n T μ p → (∀ i, 0 ≤ i → i < l → lm1 T μ 32 1 i (D i) ∧ lnB n T (D i)) → (∀ c D', pLs 1 n T 1 m l D p = .ok (c, D') → ∀ μ', Ep SmJ μ μ' → 0 ≤ c → c ≤ 16 → (∀ i, 0 ≤ i → i < c → lm1 T μ' 32 1 i (D' i) ∧ lnB n T (D' i)) → Φ (some (.inl c)) μ') → (∀ f, pLs 1 n T 1 m l D p = .error f → ∀ μ', Ep SmJ μ μ' → MF f μ' → Φ (some (.inl (-1))) μ') → G E d 197 Φ 2 [some (.inr 123), some (.inl l)] [] μ := by
  intro m
  have hk : 1 < 4 := by decide
  induction m with
  | zero =>
    intro l D p μ hl l0 hM hD hy hn
    have l16 : l = 16 := by omega
    subst l16
    have t := hM.tk hk hB
    refine v197_2 (by omega) (s179 (k := 1) (c := 0) (by omega) hk hB hM (by decide) (by decide) ⟨b2_in _, fun g => ⟨t.1, fun g2 => s178 (by omega) hM (fun μ' e1 f1 => hn _ (pLs_1 _ (by omega) (by have := b2_0.mp g; omega)) μ' (e1.mono (fun o i k => Or.inl k)) f1), fun g2 => hy _ _ (pLs_0 _ (by omega)) μ Ep.rf (by decide) (by decide) hD⟩, fun g => ⟨inR_of (by decide) (by decide), fun g2 => absurd rfl g2, fun _ => ?_⟩⟩)
    exact s178 (by omega) hM (fun μ' e1 f1 => hn _ (pLs_3 (by have := b2_ne0.mp g; omega)) μ' (e1.mono (fun o i k => Or.inl k)) f1)
  | succ m ih =>
    intro l D p μ hl l0 hM hD hy hn
    have t := hM.tk hk hB
    refine v197_2 (by omega) (s179 (k := 1) (c := 0) (by omega) hk hB hM (by decide) (by decide) ⟨b2_in _, fun g => ⟨t.1, fun g2 => s178 (by omega) hM (fun μ' e1 f1 => hn _ (pLs_1 _ (by omega) (by have := b2_0.mp g; omega)) μ' (e1.mono (fun o i k => Or.inl k)) f1), fun g2 => hy _ _ (pLs_0 _ (by omega)) μ Ep.rf l0 (by omega) hD⟩, fun g => ⟨inR_of (by omega) (by omega), fun _ => ?_, fun g2 => by omega⟩⟩)
    have g : toK 1 n T p = 128 := by have := b2_ne0.mp g; omega
    have hu := pLs_2 (k := 1) (n := n) (T := T) (dt := 1) (l := l) (D := D) m g
    have p0 := hM.1.2.2.2.2.1
    have p1 := hM.1.2.2.2.2.2.1
    refine s195 (k := 1) (by omega) hk hB hM (inR_of (by decide) (by decide)) (fun p2 v q1 h1 h2 μ1 e1 m1 => ?_) (fun f h1 μ1 e1 f1 => ?_)
    · have e1J : Ep SmJ μ (mu μ1 140 (16 + l) v) := (e1.mono (fun o i k => Or.inl k)).mu (Or.inr (by omega))
      have vb := pNu_o h2
      have eA : Ep (fun o i => o = 140 ∧ i = 16 + l) μ1 (mu μ1 140 (16 + l) v) := Ep.rf.mu ⟨rfl, rfl⟩
      have v40 : mu μ1 140 (16 + l) v 140 (16 + l) = v := mu_s _ _ _ _
      refine ⟨by omega, by omega, by rw [v40]; exact inR_of (by omega) (by omega), fun _ => ?_, fun q => by rw [v40] at q; omega⟩
      refine w197 (p := p) (dt := 1) (by omega) hk hB l0 (by omega) (Or.inl rfl) h1 (by rw [pDy_1]; exact h2) (m1.ep eA (fun o i k => by omega)) (fun x q h3 hx μ2 ep2 m2 v38 v39 => ?_) (fun f h3 μ2 ep2 c2 => hn f (by rw [hu, h3]; rfl) μ2 (e1J.tr (ep2.mono (fun o i => Sp_J (by omega)))) c2)
      have hu2 : pLs 1 n T 1 (m + 1) l D p = pLs 1 n T 1 m (l + 1) (uf D l x) q := by rw [hu, h3]; rfl
      have xb := (pLn_o p0 p1 h3).1
      have ep12 := e1J.tr (ep2.mono (fun o i => Sp_J (a := 32 + l) (by omega)))
      refine ih (l + 1) (uf D l x) q μ2 (by omega) (by omega) m2 (fun i i0 i1 => ?_) (fun c D' e3 μ3 ep3 c0 c16 h2 => hy c D' (by rw [hu2]; exact e3) μ3 (ep12.tr ep3) c0 c16 h2) (fun f e3 μ3 ep3 c3 => hn f (by rw [hu2]; exact e3) μ3 (ep12.tr ep3) c3)
      unfold uf
      by_cases gi : i = l
      · rw [if_pos gi, gi]
        exact ⟨⟨fun _ => by rw [ep2 _ _ (by unfold Sp Sq; omega), v40, hx], v38, v39⟩, xb⟩
      · rw [if_neg gi]
        have h4 := hD i i0 (by omega)
        have b8 := h4.2.2.2.2.2.1
        exact ⟨((h4.1.ep e1 (fun _ => by unfold Sq; omega) (by unfold Sq; omega) (fun c c0 c1 => by unfold Sq; omega)).ep eA (fun _ => by omega) (by omega) (fun c c0 c1 => by omega)).ep ep2 (fun _ => by unfold Sp Sq; omega) (by unfold Sp Sq; omega) (fun c c0 c1 => by unfold Sp Sq; omega), h4.2⟩
    · have e1J : Ep SmJ μ (mu μ1 140 (16 + l) (-1)) := (e1.mono (fun o i k => Or.inl k)).mu (Or.inr (by omega))
      have v40 : mu μ1 140 (16 + l) (-1) 140 (16 + l) = -1 := mu_s _ _ _ _
      refine ⟨by omega, by omega, by rw [v40]; exact inR_of (by decide) (by decide), fun q => absurd v40 q, fun _ => hn f ?_ _ e1J ⟨by rw [mu_o (by decide)]; exact f1.1, by rw [mu_o (by decide)]; exact f1.2⟩⟩
      rw [hu]
      have : pLn 1 n T 1 p = .error f := by
        cases h3 : pMa 1 n T 128 p with
        | error f' =>
          rw [h3] at h1
          cases h1
          exact pLn_1 h3
        | ok p2 =>
          rw [h3] at h1
          exact pLn_2 h3 (by rw [pDy_1]; exact h1)
      rw [this]
      rfl
end S61
