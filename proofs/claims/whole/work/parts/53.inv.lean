/-! what class and reference have in common -/
/-- what counts of the class' shop, of the reference's -/
def supW (o : Nat) (i : Int) : Prop := (25 ≤ o ∧ o ≤ 34) ∨ (36 ≤ o ∧ o ≤ 48) ∨ (o = 49 ∧ i = 3) ∨ (o = 50 ∧ i = 1) ∨ o = 51 ∨ (55 ≤ o ∧ o ≤ 58)
def kmS (o : Nat) (i : Int) : Prop := (o = 123 ∧ (i = 31 ∨ i = 32 ∨ i = 36)) ∨ (o = 130 ∧ i = 0) ∨ (131 ≤ o ∧ o ≤ 134 ∧ 0 ≤ i ∧ i < 16) ∨ (135 ≤ o ∧ o ≤ 136 ∧ 0 ≤ i ∧ i < 400) ∨ (o = 138 ∧ 0 ≤ i ∧ i < 32) ∨ (o = 139 ∧ 0 ≤ i ∧ i < 256) ∨ (o = 140 ∧ 0 ≤ i ∧ i < 16) ∨ (o = 141 ∧ 0 ≤ i ∧ i < 64)
def supM (o : Nat) (i : Int) : Prop := kmS o i ∨ (o = 123 ∧ (i = 42 ∨ i = 46)) ∨ (o = 124 ∧ 0 ≤ i ∧ i < 28) ∨ (o = 127 ∧ 0 ≤ i ∧ i < 600) ∨ (o = 146 ∧ 0 ≤ i ∧ i < 12) ∨ (o = 147 ∧ 0 ≤ i ∧ i < 25) ∨ (o = 149 ∧ 0 ≤ i ∧ i < 8) ∨ (o = 155 ∧ 0 ≤ i ∧ i < 10)
/-- not beyond the last day, and no job printed that is not told -/
def DP (c : Int) (s : Int → Int) : Prop := s 0 ≤ 9999 ∧ s 7 < ((2 ^ c.toNat : Nat) : Int)
def Sh (κ ν : Mm) : Prop := (∃ K, KOK K ∧ KW κ K ∧ KM ν K) ∧ (∃ s, StB s ∧ DP (κ 36 0) s ∧ StW κ 25 s ∧ StM ν 124 0 s) ∧ (∀ i, 0 ≤ i → i < 600 → κ 58 i = ν 127 i) ∧ (∃ n f, RW κ n f ∧ RM ν n f) ∧ (∃ q, PW κ q ∧ PM ν q) ∧ (∃ c g, SW κ c g ∧ SM ν c g) ∧ ∃ v, VW κ v ∧ VM ν v
/-- what can be undone: the class' ring of six, the reference's rows -/
def QW (μ : Mm) (u nx : Nat) (R : Nat → Int → Int) : Prop := μ 100 2 = u ∧ μ 100 1 = nx ∧ u ≤ 6 ∧ nx < 6 ∧ ∀ j, j < u → StW μ (102 + 3 * ((nx + 6 - u + j) % 6)) (R j)
def QR (μ : Mm) (u : Nat) (R : Nat → Int → Int) : Prop := μ 123 3 = u ∧ ∀ j, j < u → StM μ 125 (28 * (j : Int)) (R j)
def QB (c : Int) (u : Nat) (R : Nat → Int → Int) : Prop := ∀ j, j < u → StB (R j) ∧ DP c (R j)
def Pt (μ : Mm) : Prop := ∃ u nx R, QW μ u nx R ∧ QR μ u R ∧ QB (μ 36 0) u R
def Tp (μ : Mm) : Prop := ∃ (n : Int) (T : Int → Int), μ 1 1 = n ∧ μ 123 8 = n ∧ 0 ≤ n ∧ n ≤ 400 ∧ ∀ i, 0 ≤ i → i < n → μ 2 i = T i ∧ μ 128 i = T i ∧ 0 ≤ T i ∧ T i ≤ 255
def Fl (μ : Mm) : Prop := μ 1 12 = μ 123 29 ∧ μ 1 13 = μ 123 30
def sh41 (μ : Mm) : Mm := fun o i => μ (o + 41) i
/-- where a number of the reference lies in its image -/
def slt (o : Nat) (i : Int) : Int := if o = 124 then i else if o = 123 then (if i = 31 then 28 else if i = 32 then 29 else if i = 36 then 30 else if i = 42 then 31 else 32) else if o = 138 then 33 + i else if o = 139 then 65 + i else if o = 140 then 321 + i else if o = 141 then 337 + i else if o = 147 then 401 + i else if o = 146 then 426 + i else if o = 149 then 438 + i else if o = 155 then 446 + i else if o = 127 then 456 + i else if o = 130 then 1056 else if o = 131 then 1057 + 4 * i else if o = 132 then 1058 + 4 * i else if o = 133 then 1059 + 4 * i else if o = 134 then 1060 + 4 * i else if o = 135 then 1121 + 2 * i else 1122 + 2 * i
def iv (μ : Mm) : Mm := fun o i => μ 157 (slt o i)
def Im (μ : Mm) : Prop := μ 0 7 = μ 123 56 ∧ (μ 0 7 = 0 ∨ μ 0 7 = 1) ∧ (μ 0 7 = 1 → Sh (sh41 μ) (iv μ))
def wdL : List Nat := [32, 115, 101, 116, 115, 32, 98, 114, 101, 97, 107, 115, 32, 100, 97, 114, 101, 115, 32, 119, 104, 101, 110, 32, 111, 114, 32, 97, 110, 100, 32, 110, 111, 116, 32, 108, 101, 110, 103, 116, 104, 32, 108, 101, 97, 115, 116, 32, 114, 101, 115, 116, 32, 100, 97, 114, 105, 110, 103, 32, 115, 97, 105, 100, 32, 100, 111, 110, 101, 32, 119, 97, 105, 116, 115, 32, 98, 108, 97, 110, 107, 115, 32, 100, 97, 121, 32, 102, 114, 111, 109, 32, 119, 111, 114, 100, 32, 111, 110, 32, 99, 97, 115, 116, 32, 109, 101, 108, 116, 32, 100, 97, 114, 101, 32, 99, 97, 108, 109, 32]
def Ms (μ : Mm) : Prop := μ 123 5 = 0 ∧ ∀ i : Nat, i < 120 → μ 129 i = (wdL.getD i 0 : Nat)
def Inv (μ : Mm) : Prop := Sh μ μ ∧ Pt μ ∧ RI μ ∧ Tp μ ∧ Fl μ ∧ Im μ ∧ Ms μ
section S37
variable {κ κ' ν ν' μ μ' : Mm} {K : Kt} {n c : Int} {f g q v s : Int → Int} {L : Int → Int} {X D : Int → Int → Int} {l : Cd} {S : Nat → Int → Prop}
/-- memories that agree on what counts -/
theorem Ep.sup {T : Nat → Int → Prop} (h : ∀ o i, T o i → μ' o i = μ o i) : Ep (fun o i => ¬ T o i) μ μ' := fun o i hn => h o i (Classical.not_not.mp hn)
theorem KW.cg (h : KW κ K) (e : ∀ o i, supW o i → κ' o i = κ o i) : KW κ' K := h.ep (Ep.sup e) fun k i k0 k1 k2 hn => hn (by unfold supW; omega)
theorem coM_c {m m' g g' : Int → Int} : ∀ (l : Cd) (i : Int), (∀ j, i ≤ j → j < i + l.length → m' j = m j ∧ g' j = g j) → coM m g i l → coM m' g' i l
  | [], _, _, _ => trivial
  | c :: l, i, e, h => by
    rw [List.length_cons] at e
    have e0 := e i (by omega) (by omega)
    exact ⟨by rw [e0.1]; exact h.1, by rw [e0.2]; exact h.2.1, coM_c l (i + 1) (fun j j0 j1 => e j (by omega) (by omega)) h.2.2⟩
theorem KM.cg (ok : KOK K) (h : KM ν K) (e : ∀ o i, kmS o i → ν' o i = ν o i) : KM ν' K := by
  obtain ⟨h1, h2, h3, h4, h5, h6⟩ := h
  obtain ⟨⟨o1, o2, o3, o4⟩, o5, -, o7, o8, o9, -⟩ := ok
  have p5 := o5.2.1
  have p7 := o7.2.1
  refine ⟨⟨by rw [e 130 0 (by unfold kmS; omega)]; exact h1.1, fun i i0 i1 => ?_, coM_c _ _ (fun j j0 j1 => ?_) h1.2.2⟩, ⟨by rw [e 123 31 (by unfold kmS; omega)]; exact h2.1, h2.2.1, h2.2.2.1, fun i i0 i1 => ?_, fun i k i0 i1 k0 k1 => ?_⟩, fun i i0 i1 => ?_, ⟨by rw [e 123 32 (by unfold kmS; omega)]; exact h4.1, h4.2.1, h4.2.2.1, fun i i0 i1 => ?_, fun i k i0 i1 k0 k1 => ?_⟩, by rw [e 123 36 (by unfold kmS; omega)]; exact h5, fun i i0 i1 => ?_⟩
  · rw [e 131 _ (by unfold kmS; omega), e 132 _ (by unfold kmS; omega), e 133 _ (by unfold kmS; omega), e 134 _ (by unfold kmS; omega)]; exact h1.2.1 i i0 i1
  · exact ⟨e 135 _ (by unfold kmS; omega), e 136 _ (by unfold kmS; omega)⟩
  · rw [e 138 _ (by unfold kmS; omega)]; exact h2.2.2.2.1 i i0 i1
  · have := (h2.2.2.2.1 i i0 i1).2
    rw [e 139 _ (by unfold kmS; omega)]; exact h2.2.2.2.2 i k i0 i1 k0 k1
  · rw [e 140 _ (by unfold kmS; omega)]; exact h3 i i0 i1
  · rw [e 138 _ (by unfold kmS; omega)]; exact h4.2.2.2.1 i i0 i1
  · have := (h4.2.2.2.1 i i0 i1).2
    rw [e 139 _ (by unfold kmS; omega)]; exact h4.2.2.2.2 i k i0 i1 k0 k1
  · rw [e 141 _ (by unfold kmS; omega), e 141 _ (by unfold kmS; omega), e 141 _ (by unfold kmS; omega), e 141 _ (by unfold kmS; omega)]; exact h6 i i0 i1
theorem StW.cg {o : Nat} (h : StW κ o s) (e : ∀ k i, k < 3 → κ' (o + k) i = κ (o + k) i) : StW κ' o s := h.ep (Ep.sup (T := fun a i => o ≤ a ∧ a < o + 3) (fun a i ha => by have := e (a - o) i (by omega); rwa [show o + (a - o) = a by omega] at this)) fun k i hk hn => hn (by omega)
theorem StM.cg {a : Nat} {b : Int} (h : StM ν a b s) (e : ∀ i, b ≤ i → i < b + 28 → ν' a i = ν a i) : StM ν' a b s := fun i i0 i1 => by rw [e _ (by omega) (by omega)]; exact h i i0 i1
theorem RW.cg (h : RW κ n f) (e : ∀ i, κ' 51 i = κ 51 i) (e1 : κ' 50 1 = κ 50 1) : RW κ' n f := ⟨by rw [e1]; exact h.1, h.2.1, h.2.2.1, fun i i0 i1 => by rw [e]; exact h.2.2.2.1 i i0 i1, h.2.2.2.2⟩
theorem RM.cg (h : RM ν n f) (e : ∀ i, 0 ≤ i → i < 12 → ν' 146 i = ν 146 i) (e1 : ν' 123 42 = ν 123 42) : RM ν' n f := ⟨by rw [e1]; exact h.1, h.2.1, h.2.2.1, fun i i0 i1 => by have := h.2.2.1; rw [e i i0 (by omega)]; exact h.2.2.2.1 i i0 i1, h.2.2.2.2⟩
theorem PW.cg (h : PW κ q) (e : ∀ i, κ' 55 i = κ 55 i) : PW κ' q := ⟨fun i i0 i1 => by rw [e]; exact h.1 i i0 i1, h.2⟩
theorem PM.cg (h : PM ν q) (e : ∀ i, 0 ≤ i → i < 25 → ν' 147 i = ν 147 i) : PM ν' q := ⟨fun i i0 i1 => by rw [e i i0 i1]; exact h.1 i i0 i1, h.2⟩
theorem SW.cg (h : SW κ c g) (e : ∀ i, κ' 56 i = κ 56 i) (e1 : κ' 49 3 = κ 49 3) : SW κ' c g := ⟨by rw [e1]; exact h.1, h.2.1, h.2.2.1, fun i i0 i1 => by rw [e]; exact h.2.2.2.1 i i0 i1, h.2.2.2.2⟩
theorem SM.cg (h : SM ν c g) (e : ∀ i, 0 ≤ i → i < 8 → ν' 149 i = ν 149 i) (e1 : ν' 123 46 = ν 123 46) : SM ν' c g := ⟨by rw [e1]; exact h.1, h.2.1, h.2.2.1, fun i i0 i1 => by have := h.2.2.1; rw [e i i0 (by omega)]; exact h.2.2.2.1 i i0 i1, h.2.2.2.2⟩
theorem VW.cg (h : VW κ v) (e : ∀ i, κ' 57 i = κ 57 i) : VW κ' v := ⟨fun i i0 i1 => by rw [e]; exact h.1 i i0 i1, h.2⟩
theorem VM.cg (h : VM ν v) (e : ∀ i, 0 ≤ i → i < 10 → ν' 155 i = ν 155 i) : VM ν' v := ⟨fun i i0 i1 => by rw [e i i0 i1]; exact h.1 i i0 i1, h.2⟩
theorem Sh.cg (h : Sh κ ν) (e : ∀ o i, supW o i → κ' o i = κ o i) (e' : ∀ o i, supM o i → ν' o i = ν o i) : Sh κ' ν' := by
  obtain ⟨⟨K, k1, k2, k3⟩, ⟨s, s1, s2, s3, s4⟩, h3, ⟨n, f, r1, r2⟩, ⟨q, q1, q2⟩, ⟨c, g, g1, g2⟩, v, v1, v2⟩ := h
  refine ⟨⟨K, k1, k2.cg e, k3.cg k1 (fun o i hs => e' o i (Or.inl hs))⟩, ⟨s, s1, by rw [e 36 0 (by unfold supW; omega)]; exact s2, s3.cg (fun k i hk => e _ _ (by unfold supW; omega)), s4.cg (fun i i0 i1 => e' _ _ (by unfold supM; omega))⟩, fun i i0 i1 => ?_, ⟨n, f, r1.cg (fun i => e _ _ (by unfold supW; omega)) (e _ _ (by unfold supW; omega)), r2.cg (fun i i0 i1 => e' _ _ (by unfold supM; omega)) (e' _ _ (by unfold supM; omega))⟩, ⟨q, q1.cg (fun i => e _ _ (by unfold supW; omega)), q2.cg (fun i i0 i1 => e' _ _ (by unfold supM; omega))⟩, ⟨c, g, g1.cg (fun i => e _ _ (by unfold supW; omega)) (e _ _ (by unfold supW; omega)), g2.cg (fun i i0 i1 => e' _ _ (by unfold supM; omega)) (e' _ _ (by unfold supM; omega))⟩, v, v1.cg (fun i => e _ _ (by unfold supW; omega)), v2.cg (fun i i0 i1 => e' _ _ (by unfold supM; omega))⟩
  rw [e 58 i (by unfold supW; omega), e' 127 i (by unfold supM; omega)]
  exact h3 i i0 i1
theorem QW.cg {u nx : Nat} {R : Nat → Int → Int} (h : QW μ u nx R) (e : ∀ o i, (o = 100 ∧ (i = 1 ∨ i = 2)) ∨ (102 ≤ o ∧ o < 120) → μ' o i = μ o i) : QW μ' u nx R :=
  ⟨by rw [e _ _ (by omega)]; exact h.1, by rw [e _ _ (by omega)]; exact h.2.1, h.2.2.1, h.2.2.2.1, fun j hj => (h.2.2.2.2 j hj).cg (fun k i hk => e _ _ (by omega))⟩
theorem QR.cg {u : Nat} {R : Nat → Int → Int} (h : QR μ u R) (e : ∀ o i, (o = 123 ∧ i = 3) ∨ o = 125 → μ' o i = μ o i) : QR μ' u R :=
  ⟨by rw [e _ _ (by omega)]; exact h.1, fun j hj => (h.2 j hj).cg (fun i _ _ => e _ _ (by omega))⟩
theorem Pt.cg (h : Pt μ) (e : ∀ o i, (o = 100 ∧ (i = 1 ∨ i = 2)) ∨ (102 ≤ o ∧ o < 120) ∨ (o = 123 ∧ i = 3) ∨ o = 125 → μ' o i = μ o i) (e36 : μ' 36 0 = μ 36 0) : Pt μ' := by
  obtain ⟨u, nx, R, h1, h2, h3⟩ := h
  exact ⟨u, nx, R, h1.cg (fun o i k => e o i (by omega)), h2.cg (fun o i k => e o i (by omega)), by rw [e36]; exact h3⟩
theorem RI.cg (h : RI μ) (e : ∀ o i, 120 ≤ o → o < 123 → μ' o i = μ o i) : RI μ' := by
  obtain ⟨o, h1, h2, h3⟩ := h
  refine ⟨o, by rw [e _ _ (by omega) (by omega)]; exact h1, h2, fun k => ?_⟩
  obtain ⟨r, r1, r2, r3⟩ := h3 k
  exact ⟨r, r1, by rw [e _ _ (by omega) (by omega)]; exact r2, fun j hj => by rw [e _ _ (by omega) (by omega)]; exact r3 j hj⟩
theorem Tp.cg (h : Tp μ) (e : ∀ o i, (o = 1 ∧ i = 1) ∨ o = 2 ∨ (o = 123 ∧ i = 8) ∨ o = 128 → μ' o i = μ o i) : Tp μ' := by
  obtain ⟨n, T, h1, h2, h3, h4, h5⟩ := h
  exact ⟨n, T, by rw [e _ _ (by omega)]; exact h1, by rw [e _ _ (by omega)]; exact h2, h3, h4, fun i i0 i1 => by rw [e 2 _ (by omega), e 128 _ (by omega)]; exact h5 i i0 i1⟩
theorem Fl.cg (h : Fl μ) (e : ∀ o i, (o = 1 ∧ (i = 12 ∨ i = 13)) ∨ (o = 123 ∧ (i = 29 ∨ i = 30)) → μ' o i = μ o i) : Fl μ' := by
  unfold Fl
  rw [e 1 12 (by omega), e 1 13 (by omega), e 123 29 (by omega), e 123 30 (by omega)]
  exact h
theorem Im.cg (h : Im μ) (e : ∀ o i, (o = 0 ∧ i = 7) ∨ (o = 123 ∧ i = 56) ∨ (66 ≤ o ∧ o < 100) ∨ o = 157 → μ' o i = μ o i) : Im μ' := by
  unfold Im
  rw [e 0 7 (by omega), e 123 56 (by omega)]
  exact ⟨h.1, h.2.1, fun k => (h.2.2 k).cg (fun o i hs => e _ _ (by unfold supW at hs; omega)) (fun o i _ => e _ _ (by omega))⟩
theorem Ms.cg (h : Ms μ) (e : ∀ o i, (o = 123 ∧ i = 5) ∨ o = 129 → μ' o i = μ o i) : Ms μ' := ⟨by rw [e _ _ (by omega)]; exact h.1, fun i hi => by rw [e _ _ (by omega)]; exact h.2 i hi⟩
end S37
