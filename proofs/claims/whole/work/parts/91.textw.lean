/-! a text is heard, in the class -/
def W0 : Nat → Int → Prop := fun o i => (3 ≤ o ∧ o ≤ 22) ∨ (o = 1 ∧ (i = 1 ∨ (5 ≤ i ∧ i ≤ 13)))
def XL : Nat → Int → Prop := fun o _ => 28 ≤ o ∧ o ≤ 33
def XJ : Nat → Int → Prop := fun o i => (36 ≤ o ∧ o ≤ 39) ∨ (o = 25 ∧ i = 2) ∨ (o = 100 ∧ i = 2)
def XB : Nat → Int → Prop := fun o i => (40 ≤ o ∧ o ≤ 43) ∨ (o = 100 ∧ i = 2)
def XC : Nat → Int → Prop := fun o i => (44 ≤ o ∧ o ≤ 48) ∨ (o = 100 ∧ i = 2)
def YW (S : Nat → Int → Prop) (μ μ' : Mm) : Prop := Ep (fun o i => W0 o i ∨ S o i) μ μ' ∧ μ' 1 1 = 0 ∧ μ' 1 12 = 0 ∧ μ' 1 13 = -1
def NW (f : Flt) (μ μ' : Mm) : Prop := Ep W0 μ μ' ∧ μ' 1 1 = 0 ∧ μ' 1 12 = f.1 ∧ μ' 1 13 = f.2
section S76
variable {E : En} {d : Nat} {Φ : Option AV → Mm → Prop} {μ μ' μ0 : Mm} {n p q c : Int} {T : Int → Int} {l : Cd}
theorem coD_0 {D : Int → Int × Int × Int × Int} {i : Int} : coD D 0 i = (D i).1 := if_pos rfl
theorem coD_1 {D : Int → Int × Int × Int × Int} {i : Int} : coD D 1 i = (D i).2.1 := by
  unfold coD
  rw [if_neg (by decide), if_pos rfl]
theorem coD_2 {D : Int → Int × Int × Int × Int} {i : Int} : coD D 2 i = (D i).2.2.1 := by
  unfold coD
  rw [if_neg (by decide), if_neg (by decide), if_pos rfl]
theorem coD_3 {D : Int → Int × Int × Int × Int} {i : Int} : coD D 3 i = (D i).2.2.2 := by
  unfold coD
  rw [if_neg (by decide), if_neg (by decide), if_neg (by decide)]
theorem W0_r {o : Nat} {i : Int} (h : RW0 o i) : W0 o i := by unfold RW0 at h; unfold W0; omega
/-- no fault at first -/
theorem e40 : Ep W0 μ (mu (mu μ 1 12 0) 1 13 (-1)) ∧ Ep (fun o i => o = 1 ∧ (i = 12 ∨ i = 13)) μ (mu (mu μ 1 12 0) 1 13 (-1)) ∧ mu (mu μ 1 12 0) 1 13 (-1) 1 12 = 0 ∧ mu (mu μ 1 12 0) 1 13 (-1) 1 13 = -1 :=
  ⟨(Ep.rf.mu (by unfold W0; omega)).mu (by unfold W0; omega), (Ep.rf.mu (by omega)).mu (by omega), by rw [mu_i (by decide), mu_s], mu_s _ _ _ _⟩
theorem NW_i {f : Flt} {μ1 μ2 : Mm} (e1 : Ep W0 μ μ1) (e : Ef RW0 μ1 μ2) (h : CF f μ2) : NW f μ (mu μ2 1 1 0) := by
  have e' : Ep W0 μ1 μ2 := Ep.mono e (fun o i k => by unfold RW0 at k; unfold W0; omega)
  exact ⟨(e1.tr e').mu (by unfold W0; omega), mu_s _ _ _ _, by rw [mu_i (by decide)]; exact h.1, by rw [mu_i (by decide)]; exact h.2⟩
theorem YW_i {S : Nat → Int → Prop} {μ1 μ2 μ3 : Mm} (e1 : Ep W0 μ μ1) (a0 : μ1 1 12 = 0) (a1 : μ1 1 13 = -1) (e : Ep RW0 μ1 μ2) (e2 : Ep S μ2 μ3) (hs : ∀ i, ¬ S 1 i) : YW S μ (mu μ3 1 1 0) := by
  refine ⟨(((e1.tr (e.mono (fun o i => W0_r))).mono (fun o i => Or.inl)).tr (e2.mono (fun o i => Or.inr))).mu (Or.inl (by unfold W0; omega)), mu_s _ _ _ _, ?_, ?_⟩
  · rw [mu_i (by decide), e2 _ _ (hs _), e _ _ (by unfold RW0; omega)]; exact a0
  · rw [mu_i (by decide), e2 _ _ (hs _), e _ _ (by unfold RW0; omega)]; exact a1
theorem c0_118 (hd : 18 ≤ d) (hT : TaW μ n T) (hB : TB n T) (hy : ∀ c D l, pLL n T 16 0 (fun _ => (0, 0, 0, 0)) 0 [] = .ok (c, D, l) → ∀ μ', YW XL μ μ' → LW μ' 28 c (coD D) l → LOK c (coD D) l → Φ (some (.inl c)) μ') (hn : ∀ f, pLL n T 16 0 (fun _ => (0, 0, 0, 0)) 0 [] = .error f → ∀ μ', NW f μ μ' → Φ (some (.inl (-1))) μ') : Ct E d 118 [.inr 0, .inl 0] μ Φ := by
  obtain ⟨e1, e1', w12, w13⟩ := e40 (μ := μ)
  refine v118 (by omega) (v40 (by omega) ?_)
  simp only [rV]
  generalize mu (mu μ 1 12 0) 1 13 (-1) = μ1 at *
  have t1 : TaW μ1 n T := ⟨by rw [e1' _ _ (by omega)]; exact hT.1, fun i i0 i1 => by rw [e1' _ _ (by omega)]; exact hT.2 i i0 i1⟩
  have i0 : inR (0 : Int) := inR_of (by decide) (by decide)
  refine ⟨i0, fun _ => s4 (by omega) t1 hB (fun c D l e2 μ2 e3 c0 c16 v0 hL hl h2 => ⟨inR_of (by decide) (by decide), fun g => absurd g (by decide), fun _ => ?_⟩) (fun f e2 μ2 e3 f2 => ⟨i0, fun _ => hn f e2 _ (NW_i e1 e3 f2), fun g => absurd rfl g⟩), fun g => absurd g (by decide), fun g => absurd g (by decide), fun g => absurd g (by decide), fun g => absurd rfl g⟩
  refine s3c (by omega) (Or.inr (Or.inr ⟨rfl, rfl⟩)) (fun μ3 e4 w0 w6 wk w5 => ?_)
  have q : μ3 28 0 = c := by rw [w0]; exact v0
  simp only [rV]
  rw [q]
  refine hy c D l e2 _ (YW_i e1 w12 w13 e3 (S := XL) (e4.mono (fun o i k => by unfold XL; omega)) (fun i => by unfold XL; omega)) ⟨?_, ?_, fun i j0 j1 => ?_, ?_⟩ ⟨c0, c16, hl, fun i j0 j1 => ?_⟩
  · rw [mu_o (by decide)]; exact q
  · rw [mu_o (by decide), w6]; exact hL.1
  · obtain ⟨⟨p1, p2, p3, p4⟩, -⟩ := h2 i j0 j1
    have k1 := wk 1 i (by decide) (by decide) j0 (by omega)
    have k2 := wk 2 i (by decide) (by decide) j0 (by omega)
    have k3 := wk 3 i (by decide) (by decide) j0 (by omega)
    have k4 := wk 4 i (by decide) (by decide) j0 (by omega)
    rw [coD_0, coD_1, coD_2, coD_3]
    exact ⟨by rw [mu_o (by decide), k1]; exact p1, by rw [mu_o (by decide), k2]; exact p2, by rw [mu_o (by decide), k3]; exact p3, by rw [mu_o (by decide), k4]; exact p4⟩
  · exact cod_c l 0 (fun j j0 j1 => by rw [mu_o (by decide)]; exact w5 j j0 (by omega)) hL.2
  · obtain ⟨-, p1, p2, p3, p4, p5, p6, p7, p8⟩ := h2 i j0 j1
    rw [coD_0, coD_1, coD_2, coD_3]
    exact ⟨⟨p1, p2⟩, p3, p4, p5, p6, p7, p8⟩
theorem c1_118 (hd : 18 ≤ d) (hT : TaW μ n T) (hB : TB n T) (hy : ∀ c D, pLs 1 n T 1 16 0 (fun _ => (0, 0, 0)) 0 = .ok (c, D) → 0 ≤ c → c ≤ 16 → (∀ i, 0 ≤ i → i < c → lnB n T (D i)) → ∀ μ', YW XJ μ μ' → μ' 36 0 = c → μ' 25 2 = 0 → μ' 100 2 = 0 → (∀ i, 0 ≤ i → i < c → μ' 37 i = (D i).1 ∧ μ' 38 i = (D i).2.2 ∧ ∀ k, 0 ≤ k → k < (D i).2.2 → μ' 39 (8 * i + k) = T ((D i).2.1 + k) - 97) → Φ (some (.inl c)) μ') (hn : ∀ f, pLs 1 n T 1 16 0 (fun _ => (0, 0, 0)) 0 = .error f → ∀ μ', NW f μ μ' → Φ (some (.inl (-1))) μ') : Ct E d 118 [.inr 0, .inl 1] μ Φ := by
  obtain ⟨e1, e1', w12, w13⟩ := e40 (μ := μ)
  refine v118 (by omega) (v40 (by omega) ?_)
  simp only [rV]
  generalize mu (mu μ 1 12 0) 1 13 (-1) = μ1 at *
  have t1 : TaW μ1 n T := ⟨by rw [e1' _ _ (by omega)]; exact hT.1, fun i i0 i1 => by rw [e1' _ _ (by omega)]; exact hT.2 i i0 i1⟩
  have i0 : inR (0 : Int) := inR_of (by decide) (by decide)
  refine ⟨inR_of (by decide) (by decide), fun g => absurd g (by decide), fun _ => s101 (k := 1) (by omega) t1 hB (Or.inl ⟨rfl, rfl⟩) (fun c D e2 μ2 e3 c0 c16 v0 h2 => ⟨inR_of (by decide) (by decide), fun g => absurd g (by decide), fun _ => ?_⟩) (fun f e2 μ2 e3 f2 => ⟨i0, fun _ => hn f e2 _ (NW_i e1 e3 f2), fun g => absurd rfl g⟩), fun g => absurd g (by decide), fun g => absurd g (by decide), fun _ g => absurd rfl g⟩
  refine s100c (by omega) (Or.inr (Or.inr (Or.inr (Or.inr (Or.inl ⟨rfl, rfl⟩))))) (fun μ3 e4 w0 k1 k2 k3 => ?_)
  refine s20 (by omega) ?_
  have e5 : Ep (fun o i => (o = 25 ∧ i = 2) ∨ (o = 100 ∧ i = 2)) μ3 (mu (mu μ3 25 2 0) 100 2 0) := (Ep.rf.mu (by omega)).mu (by omega)
  have x1 : mu (mu μ3 25 2 0) 100 2 0 25 2 = 0 := by rw [mu_o (by decide), mu_s]
  have x2 : mu (mu μ3 25 2 0) 100 2 0 100 2 = 0 := mu_s _ _ _ _
  simp only [rV]
  generalize mu (mu μ3 25 2 0) 100 2 0 = μ4 at *
  have q : μ4 36 0 = c := by rw [e5 _ _ (by omega), w0]; exact v0
  rw [q]
  refine hy c D e2 c0 c16 (fun i j0 j1 => (h2 i j0 j1).2) _ (YW_i e1 w12 w13 e3 (S := XJ) ((e4.mono (fun o i k => by unfold XJ; omega)).tr (e5.mono (fun o i k => by unfold XJ; omega))) (fun i => by unfold XJ; omega)) (by rw [mu_o (by decide)]; exact q) (by rw [mu_o (by decide)]; exact x1) (by rw [mu_o (by decide)]; exact x2) (fun i j0 j1 => ?_)
  obtain ⟨⟨p1, p2, p3⟩, p4⟩ := h2 i j0 j1
  have := p4.2.2.2.2.1
  exact ⟨by rw [mu_o (by decide), e5 _ _ (by omega), k1 i j0 (by omega)]; exact p1, by rw [mu_o (by decide), e5 _ _ (by omega), k2 i j0 (by omega)]; exact p2, fun k m0 m1 => by rw [mu_o (by decide), e5 _ _ (by omega), k3 _ (by omega) (by omega)]; exact p3 k m0 m1⟩
theorem c2_118 (hd : 18 ≤ d) (hT : TaW μ n T) (hB : TB n T) (hy : ∀ c D, pLs 2 n T 0 16 0 (fun _ => (0, 0, 0)) 0 = .ok (c, D) → 0 ≤ c → c ≤ 16 → (∀ i, 0 ≤ i → i < c → lnB n T (D i)) → ∀ μ', YW XB μ μ' → μ' 40 0 = c → μ' 100 2 = 0 → (∀ i, 0 ≤ i → i < c → μ' 42 i = (D i).2.2 ∧ ∀ k, 0 ≤ k → k < (D i).2.2 → μ' 43 (8 * i + k) = T ((D i).2.1 + k) - 97) → Φ (some (.inl c)) μ') (hn : ∀ f, pLs 2 n T 0 16 0 (fun _ => (0, 0, 0)) 0 = .error f → ∀ μ', NW f μ μ' → Φ (some (.inl (-1))) μ') : Ct E d 118 [.inr 0, .inl 2] μ Φ := by
  obtain ⟨e1, e1', w12, w13⟩ := e40 (μ := μ)
  refine v118 (by omega) (v40 (by omega) ?_)
  simp only [rV]
  generalize mu (mu μ 1 12 0) 1 13 (-1) = μ1 at *
  have t1 : TaW μ1 n T := ⟨by rw [e1' _ _ (by omega)]; exact hT.1, fun i i0 i1 => by rw [e1' _ _ (by omega)]; exact hT.2 i i0 i1⟩
  have i0 : inR (0 : Int) := inR_of (by decide) (by decide)
  refine ⟨inR_of (by decide) (by decide), fun g => absurd g (by decide), fun g => absurd g (by decide), fun _ => s101 (k := 2) (by omega) t1 hB (Or.inr ⟨rfl, rfl⟩) (fun c D e2 μ2 e3 c0 c16 v0 h2 => ⟨inR_of (by decide) (by decide), fun g => absurd g (by decide), fun _ => ?_⟩) (fun f e2 μ2 e3 f2 => ⟨i0, fun _ => hn f e2 _ (NW_i e1 e3 f2), fun g => absurd rfl g⟩), fun g => absurd g (by decide), fun _ _ g => absurd rfl g⟩
  refine s100c (by omega) (Or.inr (Or.inr (Or.inr (Or.inr (Or.inr ⟨rfl, rfl⟩))))) (fun μ3 e4 w0 k1 k2 k3 => ?_)
  refine s20 (by omega) ?_
  have e5 : Ep (fun o i => o = 100 ∧ i = 2) μ3 (mu μ3 100 2 0) := Ep.rf.mu ⟨rfl, rfl⟩
  have x2 : mu μ3 100 2 0 100 2 = 0 := mu_s _ _ _ _
  simp only [rV]
  generalize mu μ3 100 2 0 = μ4 at *
  have q : μ4 40 0 = c := by rw [e5 _ _ (by omega), w0]; exact v0
  rw [q]
  refine hy c D e2 c0 c16 (fun i j0 j1 => (h2 i j0 j1).2) _ (YW_i e1 w12 w13 e3 (S := XB) ((e4.mono (fun o i k => by unfold XB; omega)).tr (e5.mono (fun o i k => by unfold XB; omega))) (fun i => by unfold XB; omega)) (by rw [mu_o (by decide)]; exact q) (by rw [mu_o (by decide)]; exact x2) (fun i j0 j1 => ?_)
  obtain ⟨⟨p1, p2, p3⟩, p4⟩ := h2 i j0 j1
  have := p4.2.2.2.2.1
  exact ⟨by rw [mu_o (by decide), e5 _ _ (by omega), k2 i j0 (by omega)]; exact p2, fun k m0 m1 => by rw [mu_o (by decide), e5 _ _ (by omega), k3 _ (by omega) (by omega)]; exact p3 k m0 m1⟩
theorem c3_118 (hd : 18 ≤ d) (hT : TaW μ n T) (hB : TB n T) (hy : ∀ c D, pCs 3 n T 16 0 (fun _ => (0, 0, 0, 0)) 0 = .ok (c, D) → 0 ≤ c → c ≤ 16 → (∀ i, 0 ≤ i → i < c → chB (D i)) → ∀ μ', YW XC μ μ' → μ' 44 0 = c → μ' 100 2 = 0 → (∀ i, 0 ≤ i → i < c → μ' 45 i = (D i).1 ∧ μ' 46 i = (D i).2.1 + 1 ∧ μ' 47 i = (D i).2.2.1 ∧ μ' 48 i = (D i).2.2.2) → Φ (some (.inl c)) μ') (hn : ∀ f, pCs 3 n T 16 0 (fun _ => (0, 0, 0, 0)) 0 = .error f → ∀ μ', NW f μ μ' → Φ (some (.inl (-1))) μ') : Ct E d 118 [.inr 0, .inl 3] μ Φ := by
  obtain ⟨e1, e1', w12, w13⟩ := e40 (μ := μ)
  refine v118 (by omega) (v40 (by omega) ?_)
  simp only [rV]
  generalize mu (mu μ 1 12 0) 1 13 (-1) = μ1 at *
  have t1 : TaW μ1 n T := ⟨by rw [e1' _ _ (by omega)]; exact hT.1, fun i i0 i1 => by rw [e1' _ _ (by omega)]; exact hT.2 i i0 i1⟩
  have i0 : inR (0 : Int) := inR_of (by decide) (by decide)
  refine ⟨inR_of (by decide) (by decide), fun g => absurd g (by decide), fun g => absurd g (by decide), fun g => absurd g (by decide), fun _ => s1c (by omega) t1 hB (fun c D e2 μ2 e3 c0 c16 v0 h2 => ⟨inR_of (by decide) (by decide), fun g => absurd g (by decide), fun _ => ?_⟩) (fun f e2 μ2 e3 f2 => ⟨i0, fun _ => hn f e2 _ (NW_i e1 e3 f2), fun g => absurd rfl g⟩), fun _ _ _ g => absurd rfl g⟩
  refine s0c (by omega) (Or.inr (Or.inr ⟨rfl, rfl⟩)) (fun μ3 e4 w0 wk => ?_)
  refine s20 (by omega) ?_
  have e5 : Ep (fun o i => o = 100 ∧ i = 2) μ3 (mu μ3 100 2 0) := Ep.rf.mu ⟨rfl, rfl⟩
  have x2 : mu μ3 100 2 0 100 2 = 0 := mu_s _ _ _ _
  simp only [rV]
  generalize mu μ3 100 2 0 = μ4 at *
  have q : μ4 44 0 = c := by rw [e5 _ _ (by omega), w0]; exact v0
  rw [q]
  refine hy c D e2 c0 c16 (fun i j0 j1 => (h2 i j0 j1).2) _ (YW_i e1 w12 w13 e3 (S := XC) ((e4.mono (fun o i k => by unfold XC; omega)).tr (e5.mono (fun o i k => by unfold XC; omega))) (fun i => by unfold XC; omega)) (by rw [mu_o (by decide)]; exact q) (by rw [mu_o (by decide)]; exact x2) (fun i j0 j1 => ?_)
  obtain ⟨⟨p1, p2, p3, p4⟩, -⟩ := h2 i j0 j1
  have k1 := wk 1 i (by decide) (by decide) j0 (by omega)
  have k2 := wk 2 i (by decide) (by decide) j0 (by omega)
  have k3 := wk 3 i (by decide) (by decide) j0 (by omega)
  have k4 := wk 4 i (by decide) (by decide) j0 (by omega)
  exact ⟨by rw [mu_o (by decide), e5 _ _ (by omega), k1]; exact p1, by rw [mu_o (by decide), e5 _ _ (by omega), k2]; exact p2, by rw [mu_o (by decide), e5 _ _ (by omega), k3]; exact p3, by rw [mu_o (by decide), e5 _ _ (by omega), k4]; exact p4⟩
theorem cx_118 {a : Int} (hd : 18 ≤ d) (ha : inR a) (hk : ¬ (0 ≤ a ∧ a ≤ 3)) (h : ∀ μ', Ep W0 μ μ' → μ' 1 1 = 0 → μ' 1 12 = 0 → μ' 1 13 = -1 → Φ (some (.inl (-1))) μ') : Ct E d 118 [.inr 0, .inl a] μ Φ := by
  obtain ⟨e1, e1', w12, w13⟩ := e40 (μ := μ)
  refine v118 (by omega) (v40 (by omega) ⟨ha, fun g => by omega, fun g => by omega, fun g => by omega, fun g => by omega, fun _ _ _ _ => h _ (e1.mu (by unfold W0; omega)) (mu_s _ _ _ _) ?_ ?_⟩)
  · rw [mu_i (by decide)]; exact w12
  · rw [mu_i (by decide)]; exact w13
end S76
