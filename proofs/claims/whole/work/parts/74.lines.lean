/-! numbers, words, marks and lines of a text as functions of the place, for both sides -/
abbrev Flt : Type := Int × Int
section S59
noncomputable def pMa (k : Nat) (n : Int) (T : Int → Int) (c p : Int) : Except Flt Int := if toK k n T p = c then .ok (toE n T p) else .error (1, toF n T p)
noncomputable def pNu (k : Nat) (n : Int) (T : Int → Int) (a b p : Int) : Except Flt (Int × Int) := if toK k n T p = 3 then (if a ≤ toN n T p ∧ toN n T p ≤ b then .ok (toN n T p, toE n T p) else .error (2, toF n T p)) else .error (1, toF n T p)
noncomputable def pWo (k : Nat) (n : Int) (T : Int → Int) (m p : Int) : Except Flt ((Int × Int) × Int) := if toK k n T p = 2 then (@ite (Except Flt ((Int × Int) × Int)) (toE n T p - toF n T p ≤ m ∧ aj T (toF n T p) (toE n T p)) (Classical.propDecidable _) (.ok ((toF n T p, toE n T p - toF n T p), toE n T p)) (.error (2, toF n T p))) else .error (1, toF n T p)
end S59
noncomputable def pDy (k : Nat) (n : Int) (T : Int → Int) (dt p : Int) : Except Flt (Int × Int) := if dt = 1 then pNu k n T 0 999 p else .ok (0, p)
noncomputable def pLn (k : Nat) (n : Int) (T : Int → Int) (dt p : Int) : Except Flt ((Int × Int × Int) × Int) :=
  (pMa k n T 128 p).bind fun p1 => (pDy k n T dt p1).bind fun x => (pWo k n T 8 x.2).bind fun y => (pMa k n T 59 y.2).bind fun p4 => .ok ((x.1, y.1.1, y.1.2), p4)
def uf {A : Type} (D : Int → A) (l : Int) (a : A) : Int → A := fun i => if i = l then a else D i
noncomputable def pLs (k : Nat) (n : Int) (T : Int → Int) (dt : Int) : Nat → Int → (Int → Int × Int × Int) → Int → Except Flt (Int × (Int → Int × Int × Int))
  | 0, l, D, p => if toK k n T p = 0 then .ok (l, D) else if toK k n T p = 128 then .error (3, toF n T p) else .error (1, toF n T p)
  | m + 1, l, D, p => if toK k n T p = 0 then .ok (l, D) else (pLn k n T dt p).bind fun x => pLs k n T dt m (l + 1) (uf D l x.1) x.2
/-- faults as both keep them -/
def CF (f : Flt) (μ : Mm) : Prop := μ 1 12 = f.1 ∧ μ 1 13 = f.2
def MF (f : Flt) (μ : Mm) : Prop := μ 123 27 = f.1 ∧ μ 123 28 = f.2
def lnB (n : Int) (T : Int → Int) (x : Int × Int × Int) : Prop := 0 ≤ x.1 ∧ x.1 ≤ 999 ∧ 0 ≤ x.2.1 ∧ 1 ≤ x.2.2 ∧ x.2.2 ≤ 8 ∧ x.2.1 + x.2.2 ≤ n ∧ aj T x.2.1 (x.2.1 + x.2.2)
section S59
variable {E : En} {d : Nat} {Φ : Option AV → Mm → Prop} {μ μ' : Mm} {n p q : Int} {T : Int → Int} {k : Nat} {f : Flt}
theorem pMa_o {c : Int} (h : pMa k n T c p = .ok q) : toK k n T p = c ∧ q = toE n T p := by
  unfold pMa at h
  split at h
  · rename_i e; cases h; exact ⟨e, rfl⟩
  · cases h
theorem pMa_t {c : Int} (h : toK k n T p = c) : pMa k n T c p = .ok (toE n T p) := if_pos h
theorem pMa_f {c : Int} (h : toK k n T p ≠ c) : pMa k n T c p = .error (1, toF n T p) := if_neg h
theorem pNu_o {a b v : Int} (h : pNu k n T a b p = .ok (v, q)) : toK k n T p = 3 ∧ a ≤ v ∧ v ≤ b ∧ v = toN n T p ∧ q = toE n T p := by
  unfold pNu at h
  split at h
  · rename_i e
    split at h
    · rename_i g; cases h; exact ⟨e, g.1, g.2, rfl, rfl⟩
    · cases h
  · cases h
theorem pNu_t {a b : Int} (h : toK k n T p = 3) (h1 : a ≤ toN n T p) (h2 : toN n T p ≤ b) : pNu k n T a b p = .ok (toN n T p, toE n T p) := by unfold pNu; rw [if_pos h, if_pos ⟨h1, h2⟩]
theorem pNu_2 {a b : Int} (h : toK k n T p = 3) (h1 : ¬ (a ≤ toN n T p ∧ toN n T p ≤ b)) : pNu k n T a b p = .error (2, toF n T p) := by unfold pNu; rw [if_pos h, if_neg h1]
theorem pNu_1 {a b : Int} (h : toK k n T p ≠ 3) : pNu k n T a b p = .error (1, toF n T p) := by unfold pNu; rw [if_neg h]
theorem pWo_o {m : Int} {x : Int × Int} (h : pWo k n T m p = .ok (x, q)) : toK k n T p = 2 ∧ x.2 ≤ m ∧ aj T x.1 (x.1 + x.2) ∧ x = (toF n T p, toE n T p - toF n T p) ∧ q = toE n T p := by
  unfold pWo at h
  split at h
  · rename_i e
    split at h
    · rename_i g
      cases h
      refine ⟨e, g.1, ?_, rfl, rfl⟩
      show aj T (toF n T p) (toF n T p + (toE n T p - toF n T p))
      rw [show toF n T p + (toE n T p - toF n T p) = toE n T p by omega]
      exact g.2
    · cases h
  · cases h
theorem pWo_t {m : Int} (h : toK k n T p = 2) (h1 : toE n T p - toF n T p ≤ m) (h2 : aj T (toF n T p) (toE n T p)) : pWo k n T m p = .ok ((toF n T p, toE n T p - toF n T p), toE n T p) := by unfold pWo; rw [if_pos h, if_pos ⟨h1, h2⟩]
theorem pWo_2 {m : Int} (h : toK k n T p = 2) (h1 : ¬ (toE n T p - toF n T p ≤ m ∧ aj T (toF n T p) (toE n T p))) : pWo k n T m p = .error (2, toF n T p) := by unfold pWo; rw [if_pos h, if_neg h1]
theorem pWo_1 {m : Int} (h : toK k n T p ≠ 2) : pWo k n T m p = .error (1, toF n T p) := by unfold pWo; rw [if_neg h]
/-- what a line holds -/
theorem pLn_o {dt : Int} {x : Int × Int × Int} (hp : 0 ≤ p) (p1 : p ≤ n) (h : pLn k n T dt p = .ok (x, q)) : lnB n T x ∧ p ≤ q ∧ q ≤ n := by
  unfold pLn at h
  cases h1 : pMa k n T 128 p with
  | error f => rw [h1] at h; cases h
  | ok a =>
    rw [h1] at h
    replace h : ((pDy k n T dt a).bind fun x => (pWo k n T 8 x.2).bind fun y => (pMa k n T 59 y.2).bind fun p4 => .ok ((x.1, y.1.1, y.1.2), p4)) = Except.ok (x, q) := h
    have a1 := (pMa_o h1).2
    have b1 := toE_b (T := T) p1
    have f1 := toF_b (T := T) p1
    cases h2 : pDy k n T dt a with
    | error f => rw [h2] at h; cases h
    | ok b =>
      rw [h2] at h
      replace h : ((pWo k n T 8 b.2).bind fun y => (pMa k n T 59 y.2).bind fun p4 => .ok ((b.1, y.1.1, y.1.2), p4)) = Except.ok (x, q) := h
      have b2 : 0 ≤ b.1 ∧ b.1 ≤ 999 ∧ a ≤ b.2 ∧ b.2 ≤ n := by
        unfold pDy at h2
        split at h2
        · obtain ⟨b, c⟩ := b
          have := pNu_o h2
          have e2 := toE_b (T := T) (n := n) (p := a) (by omega)
          have f2 := toF_b (T := T) (n := n) (p := a) (by omega)
          exact ⟨this.2.1, this.2.2.1, by rw [this.2.2.2.2]; omega, by rw [this.2.2.2.2]; omega⟩
        · cases h2
          exact ⟨Int.le_refl 0, by show (0 : Int) ≤ 999; decide, Int.le_refl _, by omega⟩
      cases h3 : pWo k n T 8 b.2 with
      | error f => rw [h3] at h; cases h
      | ok c =>
        rw [h3] at h
        replace h : ((pMa k n T 59 c.2).bind fun p4 => .ok ((b.1, c.1.1, c.1.2), p4)) = Except.ok (x, q) := h
        obtain ⟨c, c2⟩ := c
        have w := pWo_o h3
        have e3 := toE_b (T := T) b2.2.2.2
        have f3 := toF_b (T := T) b2.2.2.2
        have t3 := toK_2 b2.2.2.2 w.1
        have w1 : c.1 = toF n T b.2 := by rw [w.2.2.2.1]
        have w2 : c.2 = toE n T b.2 - toF n T b.2 := by rw [w.2.2.2.1]
        have w3 := w.2.2.2.2
        cases h4 : pMa k n T 59 c2 with
        | error f => rw [show ((c, c2) : (Int × Int) × Int).2 = c2 from rfl, h4] at h; cases h
        | ok e =>
          rw [show ((c, c2) : (Int × Int) × Int).2 = c2 from rfl, h4] at h
          have e4 := toE_b (T := T) (n := n) (p := c2) (by omega)
          have f4 := toF_b (T := T) (n := n) (p := c2) (by omega)
          have a4 := (pMa_o h4).2
          cases h
          exact ⟨⟨b2.1, b2.2.1, by show 0 ≤ c.1; omega, by show 1 ≤ c.2; omega, w.2.1, by show c.1 + c.2 ≤ n; omega, w.2.2.1⟩, by omega, by omega⟩
/-- the class takes them so -/
theorem u_52 {c : Int} (hd : 2 ≤ d) (hk : k < 4) (hB : TB n T) (hc : inR c) (hR : CR k n T μ p) (hy : ∀ q, pMa k n T c p = .ok q → ∀ μ', Ep Rd6 μ μ' → CR k n T μ' q → Φ (some (.inl 1)) μ') (hn : ∀ f, pMa k n T c p = .error f → ∀ μ', Ef Rd μ μ' → CF f μ' → Φ (some (.inl 0)) μ') : Ct E d 52 [.inr 1, .inl c] μ Φ :=
  t_52 hd hk hB hc hR (fun e μ' e1 c1 => hy _ (pMa_t e) μ' e1 c1) (fun e μ' e1 a1 a2 => hn _ (pMa_f e) μ' e1 ⟨a1, a2⟩)
theorem u_53 (hd : 2 ≤ d) (hk : k < 4) (hB : TB n T) (hR : CR k n T μ p) (hy : ∀ q, pMa k n T 128 p = .ok q → ∀ μ', Ep Rd8 μ μ' → CR k n T μ' q → Φ (some (.inl 1)) μ') (hn : ∀ f, pMa k n T 128 p = .error f → ∀ μ', Ef Rd μ μ' → CF f μ' → Φ (some (.inl 0)) μ') : Ct E d 53 [.inr 1, .inl 1] μ Φ :=
  t_53 hd hk hB (by decide) hR (fun e0 e1 μ' e c1 _ => hy _ (pMa_t (by omega)) μ' e c1) (fun e μ' e1 a1 a2 => hn _ (pMa_f (by omega)) μ' e1 ⟨a1, a2⟩)
theorem u_56 {a b : Int} (hd : 2 ≤ d) (hk : k < 4) (hB : TB n T) (ha : inR a) (hb : inR b) (hR : CR k n T μ p) (hy : ∀ v q, pNu k n T a b p = .ok (v, q) → ∀ μ', Ep Rd μ μ' → CR k n T μ' q → μ' 1 9 = v → Φ (some (.inl 1)) μ') (hn : ∀ f, pNu k n T a b p = .error f → ∀ μ', Ef Rd μ μ' → CF f μ' → Φ (some (.inl 0)) μ') : Ct E d 56 [.inr 1, .inl a, .inl b] μ Φ :=
  t_56 hd hk hB ha hb hR (fun e h1 h2 μ' e1 c1 v1 => hy _ _ (pNu_t e h1 h2) μ' e1 c1 v1) (fun e h1 μ' e1 a1 a2 => hn _ (pNu_2 e h1) μ' e1 ⟨a1, a2⟩) (fun e μ' e1 a1 a2 => hn _ (pNu_1 e) μ' e1 ⟨a1, a2⟩)
theorem u_57 {a : Int} (hd : 3 ≤ d) (hk : k < 4) (hB : TB n T) (ha : inR a) (hR : CR k n T μ p) (hy : ∀ x q, pWo k n T a p = .ok (x, q) → ∀ μ', Ep RdA μ μ' → CR k n T μ' q → μ' 1 10 = x.1 → μ' 1 11 = x.2 → Φ (some (.inl 1)) μ') (hn : ∀ f, pWo k n T a p = .error f → ∀ μ', Ef Rd μ μ' → CF f μ' → Φ (some (.inl 0)) μ') : Ct E d 57 [.inr 1, .inl a] μ Φ :=
  t_57 hd hk hB ha hR (fun e h1 h2 μ' e1 c1 v1 v2 => hy _ _ (pWo_t e h1 h2) μ' e1 c1 v1 v2) (fun e h1 μ' e1 a1 a2 => hn _ (pWo_2 e h1) μ' e1 ⟨a1, a2⟩) (fun e μ' e1 a1 a2 => hn _ (pWo_1 e) μ' e1 ⟨a1, a2⟩)
/-- the reference -/
def Sq : Nat → Int → Prop := fun o i => o = 123 ∧ ((9 ≤ i ∧ i ≤ 12) ∨ i = 27 ∨ i = 28)
def MX (k : Nat) (n : Int) (T : Int → Int) (μ : Mm) (p : Int) : Prop := MRd k n T μ p ∧ WD μ
theorem MX.ep {S : Nat → Int → Prop} (h : MX k n T μ p) (e : Ep S μ μ') (hs : ∀ o i, o = 128 ∨ o = 129 ∨ (o = 123 ∧ (i = 8 ∨ i = 9 ∨ i = 10 ∨ i = 11 ∨ i = 12 ∨ i = 14)) → ¬ S o i) : MX k n T μ' p :=
  ⟨h.1.ep e (fun o i k => hs o i (by omega)), fun i hi => by rw [e _ _ (hs _ _ (by omega))]; exact h.2 i hi⟩
theorem Sr_q {o : Nat} {i : Int} (h : Sr o i) : Sq o i := by unfold Sr at h; unfold Sq; omega
theorem WD.ep {S : Nat → Int → Prop} (h : WD μ) (e : Ep S μ μ') (hs : ∀ i, ¬ S 129 i) : WD μ' := fun i hi => by rw [e _ _ (hs _)]; exact h i hi
/-- on to the next token -/
theorem u_177 (hd : 4 ≤ d) (hk : k < 4) (hB : TB n T) (hM : MX k n T μ p) (h : ∀ μ', Ep Sr μ μ' → MX k n T μ' (toE n T p) → Φ none μ') : Ct E d 177 [.inr 123] μ Φ := by
  obtain ⟨⟨h1, h2, h3, h4, h5, h6, h7⟩, h8⟩ := hM
  have eb := toE_b (T := T) h6
  have fb := toF_b (T := T) h6
  exact s177 hd hk h1 hB h8 h2 (by omega) eb.2.1 h3 (fun μ' e1 m1 => h μ' e1 ⟨m1, h8.ep e1 (fun i => by unfold Sr; omega)⟩)
theorem s178 {a : Int} (hd : 1 ≤ d) (hM : MX k n T μ p) (h : ∀ μ', Ep Sq μ μ' → MF (a, toF n T p) μ' → Φ (some (.inl (-1))) μ') : Ct E d 178 [.inr 123, .inl a] μ Φ := by
  refine v178 hd (h _ ((Ep.rf.mu (by unfold Sq; omega)).mu (by unfold Sq; omega)) ⟨by rw [mu_i (by decide), mu_s], ?_⟩)
  rw [mu_s]
  exact hM.1.2.2.2.1
theorem MX.tk (hk : k < 4) (hB : TB n T) (hM : MX k n T μ p) : inR (μ 123 11) ∧ (μ 123 11 = 0 ↔ toK k n T p = 0) ∧ (μ 123 11 = 2 ↔ 128 ≤ toK k n T p) ∧ (μ 123 11 = 3 ↔ toK k n T p = 3) ∧ (μ 123 11 = 4 ↔ 3 < toK k n T p ∧ toK k n T p < 128) ∧ (μ 123 11 = 5 ↔ toK k n T p = 2) ∧ (toK k n T p = 3 → μ 123 12 = toN n T p) ∧ (3 < toK k n T p → toK k n T p < 128 → μ 123 12 = toK k n T p) ∧ (128 ≤ toK k n T p → μ 123 12 = (kb k : Nat) + (toK k n T p - 128)) := by
  obtain ⟨⟨h1, h2, h3, h4, h5, h6, t0, t1, t2, t3, t4, t5⟩, h8⟩ := hM
  have kr := toK_r (T := T) hk hB h5 h6
  rcases (by omega : toK k n T p = 0 ∨ toK k n T p = 1 ∨ toK k n T p = 2 ∨ toK k n T p = 3 ∨ (3 < toK k n T p ∧ toK k n T p < 128) ∨ 128 ≤ toK k n T p) with g | g | g | g | g | g
  · have := t0 g; exact ⟨inR_of (by omega) (by omega), by omega, by omega, by omega, by omega, by omega, by omega, by omega, by omega⟩
  · have := t1 g; exact ⟨inR_of (by omega) (by omega), by omega, by omega, by omega, by omega, by omega, by omega, by omega, by omega⟩
  · have := t2 g; exact ⟨inR_of (by omega) (by omega), by omega, by omega, by omega, by omega, by omega, by omega, by omega, by omega⟩
  · have := t3 g; exact ⟨inR_of (by omega) (by omega), by omega, by omega, by omega, by omega, by omega, by omega, by omega, by omega⟩
  · have := t5 g.1 g.2; exact ⟨inR_of (by omega) (by omega), by omega, by omega, by omega, by omega, by omega, by omega, by omega, by omega⟩
  · have := t4 g; exact ⟨inR_of (by omega) (by omega), by omega, by omega, by omega, by omega, by omega, by omega, by omega, by omega⟩
theorem kb_r (hk : k < 4) : kb k ≤ 18 := by rcases (by omega : k = 0 ∨ k = 1 ∨ k = 2 ∨ k = 3) with rfl | rfl | rfl | rfl <;> decide
theorem s179 {c : Int} (hd : 1 ≤ d) (hk : k < 4) (hB : TB n T) (hM : MX k n T μ p) (c0 : 0 ≤ c) (c1 : c ≤ 100) (h : Φ (some (.inl (b2 (toK k n T p = 128 + c)))) μ) : Ct E d 179 [.inr 123, .inl ((kb k : Nat) + c)] μ Φ := by
  have t := hM.tk hk hB
  have kr := toK_r (T := T) hk hB hM.1.2.2.2.2.1 hM.1.2.2.2.2.2.1
  have kl := kb_r hk
  refine v179 hd ⟨t.1, fun g => ff h (by omega), fun g => ?_⟩
  have v := t.2.2.2.2.2.2.2.2 (by omega)
  exact ⟨inR_of (by omega) (by omega), inR_of (by omega) (by omega), fun e => ff h (by omega), fun e => ft h (by omega)⟩
theorem s180 {c : Int} (hd : 1 ≤ d) (hk : k < 4) (hB : TB n T) (hM : MX k n T μ p) (c0 : 3 < c) (c1 : c < 128) (h : Φ (some (.inl (b2 (toK k n T p = c)))) μ) : Ct E d 180 [.inr 123, .inl c] μ Φ := by
  have t := hM.tk hk hB
  refine v180 hd ⟨t.1, fun g => ff h (by omega), fun g => ?_⟩
  have v := t.2.2.2.2.2.2.2.1 (by omega) (by omega)
  exact ⟨inR_of (by omega) (by omega), inR_of (by omega) (by omega), fun e => ff h (by omega), fun e => ft h (by omega)⟩
theorem toN_r (hk : k < 4) (p1 : p ≤ n) (h : toK k n T p = 3) : 0 ≤ toN n T p ∧ toN n T p ≤ 9999 := by
  obtain ⟨t1, t2, t3, t4⟩ := toK_3 hk p1 h
  exact nv_4 (by omega) (fun i i0 i1 => t4 i i0 (by omega))
theorem s193 {a b : Int} (hd : 5 ≤ d) (hk : k < 4) (hB : TB n T) (hM : MX k n T μ p) (ha : inR a) (hb : inR b) (hy : ∀ v q, pNu k n T a b p = .ok (v, q) → ∀ μ', Ep Sq μ μ' → MX k n T μ' q → Φ (some (.inl v)) μ') (hn : ∀ f, pNu k n T a b p = .error f → ∀ μ', Ep Sq μ μ' → MF f μ' → Φ (some (.inl (-1))) μ') : Ct E d 193 [.inr 123, .inl a, .inl b] μ Φ := by
  have t := hM.tk hk hB
  refine v193 (by omega) ⟨t.1, fun g => ?_, fun g => s178 (by omega) hM (fun μ' e1 f1 => hn _ (pNu_1 (by omega)) μ' e1 f1)⟩
  have g3 := t.2.2.2.1.mp g
  have v := t.2.2.2.2.2.2.1 g3
  have nr := toN_r (T := T) hk hM.1.2.2.2.2.2.1 g3
  rw [v]
  refine s153 (by omega) (inR_of (by omega) (by omega)) ha hb ⟨b2_in _, fun z => ?_, fun z => s178 (by omega) hM (fun μ' e1 f1 => hn _ (pNu_2 g3 (b2_0.mp z)) μ' e1 f1)⟩
  have z := b2_ne0.mp z
  refine u_177 (by omega) hk hB hM (fun μ' e1 m1 => ?_)
  rw [v]
  exact hy _ _ (pNu_t g3 z.1 z.2) μ' (e1.mono (fun o i => Sr_q)) m1
theorem s194 {c : Int} (hd : 5 ≤ d) (hk : k < 4) (hB : TB n T) (hM : MX k n T μ p) (c0 : 3 < c) (c1 : c < 128) (hy : ∀ q, pMa k n T c p = .ok q → ∀ μ', Ep Sq μ μ' → MX k n T μ' q → Φ (some (.inl 0)) μ') (hn : ∀ f, pMa k n T c p = .error f → ∀ μ', Ep Sq μ μ' → MF f μ' → Φ (some (.inl (-1))) μ') : Ct E d 194 [.inr 123, .inl c] μ Φ := by
  refine v194 (by omega) (s180 (by omega) hk hB hM c0 c1 ⟨b2_in _, fun z => ?_, fun z => s178 (by omega) hM (fun μ' e1 f1 => hn _ (pMa_f (b2_0.mp z)) μ' e1 f1)⟩)
  exact u_177 (by omega) hk hB hM (fun μ' e1 m1 => hy _ (pMa_t (b2_ne0.mp z)) μ' (e1.mono (fun o i => Sr_q)) m1)
theorem s195 {b : Int} (hd : 6 ≤ d) (hk : k < 4) (hB : TB n T) (hM : MX k n T μ p) (hb : inR b) (hy : ∀ p1 v q, pMa k n T 128 p = .ok p1 → pNu k n T 0 b p1 = .ok (v, q) → ∀ μ', Ep Sq μ μ' → MX k n T μ' q → Φ (some (.inl v)) μ') (hn : ∀ f, ((pMa k n T 128 p).bind fun p1 => (pNu k n T 0 b p1)) = .error f → ∀ μ', Ep Sq μ μ' → MF f μ' → Φ (some (.inl (-1))) μ') : Ct E d 195 [.inr 123, .inl ((kb k : Nat) + 0), .inl 0, .inl b] μ Φ := by
  refine v195 (by omega) (s179 (by omega) hk hB hM (by omega) (by omega) ⟨b2_in _, fun z => ?_, fun z => s178 (by omega) hM (fun μ' e1 f1 => hn _ (by rw [pMa_f (by have := b2_0.mp z; omega)]; rfl) μ' e1 f1)⟩)
  have z : toK k n T p = 128 := by have := b2_ne0.mp z; omega
  refine u_177 (by omega) hk hB hM (fun μ1 e1 m1 => s193 (by omega) hk hB m1 (inR_of (by decide) (by decide)) hb (fun v q h1 μ2 e2 m2 => hy _ v q (pMa_t z) h1 μ2 ((e1.mono (fun o i => Sr_q)).tr e2) m2) (fun f h1 μ2 e2 m2 => hn f ?_ μ2 ((e1.mono (fun o i => Sr_q)).tr e2) m2))
  rw [pMa_t z]
  exact h1
/-- a word goes to its place -/
def Sp (a : Int) : Nat → Int → Prop := fun o i => Sq o i ∨ (o = 138 ∧ i = a) ∨ (o = 139 ∧ 8 * a ≤ i ∧ i < 8 * a + 8)
theorem s196 {a m : Int} (hd : 5 ≤ d) (hk : k < 4) (hB : TB n T) (hM : MX k n T μ p) (a0 : 0 ≤ a) (a1 : a < 65) (m0 : 1 ≤ m) (m8 : m ≤ 8) (hy : ∀ x q, pWo k n T m p = .ok (x, q) → ∀ μ', Ep (Sp a) μ μ' → MX k n T μ' q → μ' 138 a = x.2 → (∀ i, 0 ≤ i → i < x.2 → μ' 139 (8 * a + i) = T (x.1 + i) - 97) → Φ (some (.inl 0)) μ') (hn : ∀ f, pWo k n T m p = .error f → ∀ μ', Ep (Sp a) μ μ' → MF f μ' → Φ (some (.inl (-1))) μ') : Ct E d 196 [.inr 123, .inl a, .inl m] μ Φ := by
  have t := hM.tk hk hB
  have n4 := hB.2.1
  have hp0 := hM.1.2.2.2.2.1
  have hp1 := hM.1.2.2.2.2.2.1
  have fb := toF_b (T := T) hp1
  have eb := toE_b (T := T) hp1
  have sq : ∀ {o i}, Sq o i → Sp a o i := fun h => Or.inl h
  refine v196 (by omega) ?_
  rw [hM.1.2.2.1, hM.1.2.2.2.1]
  refine ⟨t.1, fun g => ⟨inR_of (by omega) (by omega), inR_of (by omega) (by omega), fun g1 => ?_, fun g1 => s178 (by omega) hM (fun μ' e1 f1 => hn _ (pWo_2 (by omega) (by omega)) μ' (e1.mono (fun o i => sq)) f1)⟩, fun g => s178 (by omega) hM (fun μ' e1 f1 => hn _ (pWo_1 (by omega)) μ' (e1.mono (fun o i => sq)) f1)⟩
  have g2 : toK k n T p = 2 := by omega
  have key : ∀ (r c : Nat) (μ1 : Mm), c + r = (toE n T p - toF n T p).toNat → Ep (fun o i => o = 139 ∧ 8 * a ≤ i ∧ i < 8 * a + 8) μ μ1 → (∀ i : Int, 0 ≤ i → i < c → μ1 139 (8 * a + i) = T (toF n T p + i) - 97 ∧ 97 ≤ T (toF n T p + i) ∧ T (toF n T p + i) < 107) → G E d 196 Φ 22 [some (.inr 123), some (.inl a), none, some (.inl (toF n T p + (c : Int)))] [] μ1 := by
    intro r
    induction r with
    | zero =>
      intro c μ1 hc e1 h1
      have hM1 := hM.ep e1 (fun o i k => by omega)
      refine v196_22 (by omega) ?_
      rw [hM1.1.2.2.1, hM1.1.2.2.2.1]
      refine ⟨inR_of (by omega) (by omega), inR_of (by omega) (by omega), fun _ => ⟨⟨a0, a1⟩, ?_⟩, fun g => by omega⟩
      have e2 : Ep (fun o i => (o = 139 ∧ 8 * a ≤ i ∧ i < 8 * a + 8) ∨ (o = 138 ∧ i = a)) μ1 (mu μ1 138 a (toE n T p - toF n T p)) := Ep.rf.mu (by omega)
      refine u_177 (by omega) hk hB (hM1.ep e2 (fun o i k => by omega)) (fun μ3 e3 m3 => hy _ _ (pWo_t g2 g1 (fun i i0 i1 => ?_)) μ3 (((e1.mono (fun o i k => by unfold Sp; omega)).tr (e2.mono (fun o i k => by unfold Sp; omega))).tr (e3.mono (fun o i k => sq (Sr_q k)))) m3 ?_ (fun i i0 i1 => ?_))
      · have := (h1 (i - toF n T p) (by omega) (by omega)).2
        rwa [show toF n T p + (i - toF n T p) = i by omega] at this
      · rw [e3 _ _ (by unfold Sr; omega), mu_s]
      · have i1 : i < toE n T p - toF n T p := i1
        rw [e3 _ _ (by unfold Sr; omega), mu_o (by decide)]
        exact (h1 i i0 (by omega)).1
    | succ r ih =>
      intro c μ1 hc e1 h1
      have hM1 := hM.ep e1 (fun o i k => by omega)
      have rT := hB.2.2 (toF n T p + c) (by omega) (by omega)
      have tx : μ1 128 (toF n T p + (c : Int)) = T (toF n T p + c) := hM1.1.1.2 _ (by omega) (by omega)
      refine v196_22 (by omega) ?_
      rw [hM1.1.2.2.1, tx]
      refine ⟨inR_of (by omega) (by omega), inR_of (by omega) (by omega), fun g => by omega, fun _ => ⟨⟨by omega, by omega⟩, s153 (by omega) (inR_of (by omega) (by omega)) (inR_of (by decide) (by decide)) (inR_of (by decide) (by decide)) ⟨b2_in _, fun z => ?_, fun z => ?_⟩⟩⟩
      · have z := b2_ne0.mp z
        rw [hM1.1.2.2.2.1, tx]
        refine ⟨⟨by omega, by omega⟩, ⟨by omega, by omega⟩, ?_⟩
        have := ih (c + 1) (mu μ1 139 (8 * a + (toF n T p + (c : Int)) - toF n T p) (T (toF n T p + c) - 97)) (by omega) (e1.mu (by omega)) (fun i i0 i1 => ?_)
        · rwa [show toF n T p + ((c + 1 : Nat) : Int) = toF n T p + (c : Int) + 1 by omega] at this
        · by_cases gi : i = c
          · subst gi
            rw [show 8 * a + (toF n T p + (c : Int)) - toF n T p = 8 * a + (c : Int) by omega, mu_s]
            omega
          · rw [mu_i (by omega)]
            exact h1 i i0 (by omega)
      · have z := b2_0.mp z
        exact s178 (by omega) hM1 (fun μ' e2 f1 => hn _ (pWo_2 g2 (fun y => z (by have := y.2 (toF n T p + c) (by omega) (by omega); omega))) μ' ((e1.mono (fun o i k => by unfold Sp; omega)).tr (e2.mono (fun o i => sq))) f1)
  have := key (toE n T p - toF n T p).toNat 0 μ (by omega) Ep.rf (fun i i0 i1 => by omega)
  rwa [show toF n T p + ((0 : Nat) : Int) = toF n T p by omega] at this
end S59
