/-! what is asked of the law -/
theorem Ep.tr {S : Nat → Int → Prop} {a b c : Mm} (h : Ep S a b) (k : Ep S b c) : Ep S a c := fun o i hn => by rw [k o i hn]; exact h o i hn
theorem Ep.mono {S T : Nat → Int → Prop} {a b : Mm} (h : Ep S a b) (hs : ∀ o i, S o i → T o i) : Ep T a b := fun o i hn => h o i (fun k => hn (hs o i k))
theorem Ep.eo {S : Nat → Int → Prop} {o : Nat} {a b c : Mm} (h : Ep S a b) (k : Eo o b c) (hs : ∀ i, S o i) : Ep S a c := fun x i hn => by rw [k x i (fun e => hn (e ▸ hs i))]; exact h x i hn
theorem Ep.mcp {S : Nat → Int → Prop} {a b : Mm} {s t : Nat} {p q n : Int} (h : Ep S a b) (hs : ∀ i, S t i) : Ep S a (mcp b s p t q n) := fun x i hn => by
  have e : x ≠ t := fun e => hn (by rw [e]; exact hs i)
  rw [mcp_o e]; exact h x i hn
/-- how things stand: in the class, in the reference; bounds -/
def StW (μ : Mm) (o : Nat) (s : Int → Int) : Prop := μ o 7 = s 0 ∧ μ o 8 = s 1 ∧ μ o 9 = s 2 ∧ μ o 3 = s 3 + 5 ∧ μ o 4 = s 4 ∧ μ o 5 = s 5 ∧ μ o 6 = s 6 ∧ μ o 2 = s 7 ∧ (∀ i, 0 ≤ i → i < 10 → μ (o + 1) i = s (8 + i)) ∧ ∀ i, 0 ≤ i → i < 10 → μ (o + 2) i = s (18 + i)
def StM (μ : Mm) (a : Nat) (b : Int) (s : Int → Int) : Prop := ∀ i, 0 ≤ i → i < 28 → μ a (b + i) = s i
def StB (s : Int → Int) : Prop := (0 ≤ s 0 ∧ s 0 ≤ 20000) ∧ (0 ≤ s 2 ∧ s 2 ≤ 150) ∧ (-5 ≤ s 3 ∧ s 3 ≤ 4) ∧ (0 ≤ s 7 ∧ s 7 < 65536) ∧ ∀ i, 0 ≤ i → i < 10 → 0 ≤ s (8 + i) ∧ s (8 + i) ≤ 99
/-- the least box of a word -/
def mnZ (X : Int → Int → Int) (i : Int) (g : Int → Int) (b : Int) : Nat → Int
  | 0 => b
  | m + 1 => min (mnZ X i g b m) (g (X i m))
noncomputable def fcZ (s g : Int → Int) (cj len least : Int) (k : Int) : Int := if k = 0 then len else if k = 1 then least else if k = 2 then su (fun i => g i) 10 else if k = 3 then s 3 + 5 else if k = 4 then s 4 else if k = 5 then s 5 else if k = 6 then cj - onZ (s 7) else if k = 7 then s 6 else s 0
theorem mnZ_b {X : Int → Int → Int} {i : Int} {g : Int → Int} {b : Int} : ∀ m : Nat, (0 ≤ b) → (∀ k : Int, 0 ≤ k → k < m → 0 ≤ g (X i k)) → 0 ≤ mnZ X i g b m ∧ mnZ X i g b m ≤ b
  | 0, hb, _ => ⟨hb, Int.le_refl _⟩
  | m + 1, hb, h => by
    have h1 := mnZ_b (X := X) (i := i) (g := g) (b := b) m hb (fun k k0 k1 => h k k0 (by omega))
    have h2 := h m (by omega) (by omega)
    show 0 ≤ min _ _ ∧ min _ _ ≤ b
    omega
theorem mnZ_e {X : Int → Int → Int} {i : Int} {g : Int → Int} {a b : Int} (h0 : g (X i 0) ≤ a) (h1 : g (X i 0) ≤ b) : ∀ m : Nat, 1 ≤ m → mnZ X i g a m = mnZ X i g b m
  | 0, h => by omega
  | 1, _ => by
    show min a (g (X i 0)) = min b (g (X i 0))
    omega
  | m + 2, _ => by
    have := mnZ_e h0 h1 (m + 1) (by omega)
    show min (mnZ X i g a (m + 1)) _ = min (mnZ X i g b (m + 1)) _
    rw [this]
section S31
variable {E : En} {d : Nat} {f : Int → Mm → Prop} {Φ : Option AV → Mm → Prop} {μ : Mm} {n w c cj : Int} {L : Int → Int} {X D : Int → Int → Int} {l : Cd} {s : Int → Int}
theorem LW.ep {S : Nat → Int → Prop} {μ μ' : Mm} {o : Nat} (h : LW μ o n D l) (e : Ep S μ μ') (h0 : ∀ k i, k < 7 → ¬ S (o + k) i) : LW μ' o n D l := by
  obtain ⟨q1, q2, q3, q4⟩ := h
  have g0 : ∀ i, μ' o i = μ o i := fun i => e o i (h0 0 i (by omega))
  refine ⟨by rw [g0]; exact q1, by rw [g0]; exact q2, fun i i0 i1 => ?_, ?_⟩
  · rw [e _ _ (h0 1 _ (by omega)), e _ _ (h0 2 _ (by omega)), e _ _ (h0 3 _ (by omega)), e _ _ (h0 4 _ (by omega))]; exact q3 i i0 i1
  · have e5 : μ' (o + 5) = μ (o + 5) := funext fun i => e _ _ (h0 5 _ (by omega))
    rw [e5]; exact q4
theorem s32j {o : Nat} {i : Int} (hd : 4 ≤ d) (hW : WW μ 36 c L X) (i0 : 0 ≤ i) (i1 : i < c) (hl : 1 ≤ L i) (hcj : μ 36 0 = cj) (ho : o = 25 ∨ o = 59) (hN : μ 23 5 = o) (hS : StW μ o s) (hb : StB s) (hB : ∀ z, 0 ≤ z → z < 10 → 0 ≤ μ 62 z ∧ μ 62 z ≤ 99) (hLW : LW μ 28 n D l) (hL : LOK n D l) (w0 : 0 ≤ w) (w2 : w ≤ 2)
    (h : ∀ μ', Ep (fun o _ => o = 35 ∨ o = 63) μ μ' → f (lwt n D l (fcZ s (μ 62) cj (L i) (mnZ X i (μ 62) 99 (L i).toNat)) w) μ') : Ct E d 32 [.inr 23, .inl w, .inr 36, .inl i] μ (rI f) := by
  have w3 := hW.2.2.1
  have wl := hW.2.2.2.1 i i0 i1
  have e1 : μ 38 i = L i := wl.1
  have hNo : (μ 23 5).toNat = o := by rw [hN]; simp
  have ho9 : cls o = 9 := by rcases ho with rfl | rfl <;> decide
  have o63 : o ≠ 63 := by rcases ho with rfl | rfl <;> decide
  obtain ⟨t1, t2, t3, t4, t5, t6, t7, t8, t9, t10⟩ := hS
  have tail : ∀ (m x : Nat), x + m = 10 → G E d 32 (rI f) 31 [some (.inr 23), some (.inl w), some (.inr 36), some (.inl i), some (.inl (mnZ X i (μ 62) 99 (L i).toNat)), some (.inl (su (fun z => μ 62 z) x)), some (.inl (x : Int))] [] μ := by
    intro m
    induction m with
    | zero =>
      intro x hx
      have : x = 10 := by omega
      subst this
      refine v32_36_31 (by omega) ⟨inR_of (by omega) (by omega), fun _ => ⟨⟨i0, by omega⟩, ?_⟩, fun k => by omega⟩
      rw [hNo, e1]
      simp only [mu_o o63]
      refine ⟨ho9, ho9, ho9, ho9, ?_⟩
      rw [t8]
      refine s285 (by omega) hb.2.2.2.1.1 hb.2.2.2.1.2 ?_
      simp only [rI]
      have hNo2 : ∀ v0 v1 v2 v3 v4 v5 : Int, (mu (mu (mu (mu (mu (mu μ 63 0 v0) 63 1 v1) 63 2 v2) 63 3 v3) 63 4 v4) 63 5 v5 23 5).toNat = o := fun v0 v1 v2 v3 v4 v5 => by
        rw [mu_o (by decide), mu_o (by decide), mu_o (by decide), mu_o (by decide), mu_o (by decide), mu_o (by decide)]; exact hNo
      rw [hNo2]
      simp only [mu_o o63, t1, t4, t5, t6, t7, hcj]
      refine ⟨ho9, ho9, ?_⟩
      generalize hμ : mu (mu (mu (mu (mu (mu (mu (mu (mu μ 63 0 (L i)) 63 1 (mnZ X i (μ 62) 99 (L i).toNat)) 63 2 (su (fun z => μ 62 z) 10)) 63 3 (s 3 + 5)) 63 4 (s 4)) 63 5 (s 5)) 63 6 (cj - onZ (s 7))) 63 7 (s 6)) 63 8 (s 0) = μf
      have hE : Ep (fun o _ => o = 35 ∨ o = 63) μ μf := by
        rw [← hμ]
        exact ((((((((Ep.rf.mu (Or.inr rfl)).mu (Or.inr rfl)).mu (Or.inr rfl)).mu (Or.inr rfl)).mu (Or.inr rfl)).mu (Or.inr rfl)).mu (Or.inr rfl)).mu (Or.inr rfl)).mu (Or.inr rfl)
      have hE2 : Eo 63 μ μf := by
        rw [← hμ]
        exact Eo.rf.mu.mu.mu.mu.mu.mu.mu.mu.mu
      have hF : ∀ k, 0 ≤ k → k < 9 → μf 63 k = fcZ s (μ 62) cj (L i) (mnZ X i (μ 62) 99 (L i).toNat) k := fun k k0 k1 => by
        rw [← hμ]
        unfold fcZ
        rcases (by omega : k = 0 ∨ k = 1 ∨ k = 2 ∨ k = 3 ∨ k = 4 ∨ k = 5 ∨ k = 6 ∨ k = 7 ∨ k = 8) with rfl | rfl | rfl | rfl | rfl | rfl | rfl | rfl | rfl <;> simp [mu]
      have h3 : 0 ≤ μf 63 3 ∧ μf 63 3 ≤ 9 := by
        rw [hF 3 (by omega) (by omega)]
        show 0 ≤ s 3 + 5 ∧ s 3 + 5 ≤ 9
        have := hb.2.2.1
        omega
      have hLf : LW μf 28 n D l := hLW.ep (S := fun o _ => o = 63) (fun o i hn => hE2 o i hn) (fun k i hk => by show ¬ (28 + k = 63); omega)
      refine s15 (by omega) hLf hL w0 w2 h3 (fun μ' h4 => ?_)
      rw [lwt_c hL hF]
      exact h μ' (hE.eo h4 (fun _ => Or.inl rfl))
    | succ m ih =>
      intro x hx
      refine v32_36_31 (by omega) ⟨inR_of (by omega) (by omega), fun k => by omega, fun _ => ⟨⟨by omega, by omega⟩, ih (x + 1) (by omega)⟩⟩
  have key : ∀ (m j : Nat), j + m = (L i).toNat → G E d 32 (rI f) 4 [some (.inr 23), some (.inl w), some (.inr 36), some (.inl i), some (.inl (mnZ X i (μ 62) 99 j)), some (.inl (j : Int)), none] [] μ := by
    intro m
    induction m with
    | zero =>
      intro j hj
      refine v32_36_4 (by omega) ?_
      rw [e1]
      refine ⟨⟨i0, by omega⟩, inR_of (by omega) (by omega), inR_of (by omega) (by omega), fun _ => ?_, fun k => by omega⟩
      rw [show j = (L i).toNat by omega]
      exact tail 10 0 (by omega)
    | succ m ih =>
      intro j hj
      have wx := hW.2.2.2.2 i j i0 i1 (by omega) (by omega)
      have nx := ih (j + 1) (by omega)
      have bx := hB (X i j) (by omega) (by omega)
      have mb := mnZ_b (X := X) (i := i) (g := μ 62) (b := 99) j (by omega) (fun k k0 k1 => (hB _ (hW.2.2.2.2 i k i0 i1 k0 (by omega)).2.1 (by have := (hW.2.2.2.2 i k i0 i1 k0 (by omega)).2.2; omega)).1)
      refine v32_36_4 (by omega) ?_
      rw [e1]
      refine ⟨⟨i0, by omega⟩, inR_of (by omega) (by omega), inR_of (by omega) (by omega), fun k => by omega, fun _ => s104j (by omega) hW i0 i1 (by omega) (by omega) (s152 (by omega) (inR_of (by omega) (by omega)) ⟨b2_in _, fun h2 => absurd (by omega) (b2_0.mp h2), fun _ => ⟨by omega, ?_⟩⟩)⟩
      rw [iMin_eq (inR_of (by omega) (by omega)) (inR_of (by omega) (by omega))]
      exact nx
  exact v32_36 (by omega) (key (L i).toNat 0 (by omega))
theorem s32 {o : Nat} {i : Int} (hd : 4 ≤ d) (hW : WW μ 40 c L X) (i0 : 0 ≤ i) (i1 : i < c) (hl : 1 ≤ L i) (hcj : μ 36 0 = cj) (ho : o = 25 ∨ o = 59) (hN : μ 23 5 = o) (hS : StW μ o s) (hb : StB s) (hB : ∀ z, 0 ≤ z → z < 10 → 0 ≤ μ 62 z ∧ μ 62 z ≤ 99) (hLW : LW μ 28 n D l) (hL : LOK n D l) (w0 : 0 ≤ w) (w2 : w ≤ 2)
    (h : ∀ μ', Ep (fun o _ => o = 35 ∨ o = 63) μ μ' → f (lwt n D l (fcZ s (μ 62) cj (L i) (mnZ X i (μ 62) 99 (L i).toNat)) w) μ') : Ct E d 32 [.inr 23, .inl w, .inr 40, .inl i] μ (rI f) := by
  have w3 := hW.2.2.1
  have wl := hW.2.2.2.1 i i0 i1
  have e1 : μ 42 i = L i := wl.1
  have hNo : (μ 23 5).toNat = o := by rw [hN]; simp
  have ho9 : cls o = 9 := by rcases ho with rfl | rfl <;> decide
  have o63 : o ≠ 63 := by rcases ho with rfl | rfl <;> decide
  obtain ⟨t1, t2, t3, t4, t5, t6, t7, t8, t9, t10⟩ := hS
  have tail : ∀ (m x : Nat), x + m = 10 → G E d 32 (rI f) 31 [some (.inr 23), some (.inl w), some (.inr 40), some (.inl i), some (.inl (mnZ X i (μ 62) 99 (L i).toNat)), some (.inl (su (fun z => μ 62 z) x)), some (.inl (x : Int))] [] μ := by
    intro m
    induction m with
    | zero =>
      intro x hx
      have : x = 10 := by omega
      subst this
      refine v32_40_31 (by omega) ⟨inR_of (by omega) (by omega), fun _ => ⟨⟨i0, by omega⟩, ?_⟩, fun k => by omega⟩
      rw [hNo, e1]
      simp only [mu_o o63]
      refine ⟨ho9, ho9, ho9, ho9, ?_⟩
      rw [t8]
      refine s285 (by omega) hb.2.2.2.1.1 hb.2.2.2.1.2 ?_
      simp only [rI]
      have hNo2 : ∀ v0 v1 v2 v3 v4 v5 : Int, (mu (mu (mu (mu (mu (mu μ 63 0 v0) 63 1 v1) 63 2 v2) 63 3 v3) 63 4 v4) 63 5 v5 23 5).toNat = o := fun v0 v1 v2 v3 v4 v5 => by
        rw [mu_o (by decide), mu_o (by decide), mu_o (by decide), mu_o (by decide), mu_o (by decide), mu_o (by decide)]; exact hNo
      rw [hNo2]
      simp only [mu_o o63, t1, t4, t5, t6, t7, hcj]
      refine ⟨ho9, ho9, ?_⟩
      generalize hμ : mu (mu (mu (mu (mu (mu (mu (mu (mu μ 63 0 (L i)) 63 1 (mnZ X i (μ 62) 99 (L i).toNat)) 63 2 (su (fun z => μ 62 z) 10)) 63 3 (s 3 + 5)) 63 4 (s 4)) 63 5 (s 5)) 63 6 (cj - onZ (s 7))) 63 7 (s 6)) 63 8 (s 0) = μf
      have hE : Ep (fun o _ => o = 35 ∨ o = 63) μ μf := by
        rw [← hμ]
        exact ((((((((Ep.rf.mu (Or.inr rfl)).mu (Or.inr rfl)).mu (Or.inr rfl)).mu (Or.inr rfl)).mu (Or.inr rfl)).mu (Or.inr rfl)).mu (Or.inr rfl)).mu (Or.inr rfl)).mu (Or.inr rfl)
      have hE2 : Eo 63 μ μf := by
        rw [← hμ]
        exact Eo.rf.mu.mu.mu.mu.mu.mu.mu.mu.mu
      have hF : ∀ k, 0 ≤ k → k < 9 → μf 63 k = fcZ s (μ 62) cj (L i) (mnZ X i (μ 62) 99 (L i).toNat) k := fun k k0 k1 => by
        rw [← hμ]
        unfold fcZ
        rcases (by omega : k = 0 ∨ k = 1 ∨ k = 2 ∨ k = 3 ∨ k = 4 ∨ k = 5 ∨ k = 6 ∨ k = 7 ∨ k = 8) with rfl | rfl | rfl | rfl | rfl | rfl | rfl | rfl | rfl <;> simp [mu]
      have h3 : 0 ≤ μf 63 3 ∧ μf 63 3 ≤ 9 := by
        rw [hF 3 (by omega) (by omega)]
        show 0 ≤ s 3 + 5 ∧ s 3 + 5 ≤ 9
        have := hb.2.2.1
        omega
      have hLf : LW μf 28 n D l := hLW.ep (S := fun o _ => o = 63) (fun o i hn => hE2 o i hn) (fun k i hk => by show ¬ (28 + k = 63); omega)
      refine s15 (by omega) hLf hL w0 w2 h3 (fun μ' h4 => ?_)
      rw [lwt_c hL hF]
      exact h μ' (hE.eo h4 (fun _ => Or.inl rfl))
    | succ m ih =>
      intro x hx
      refine v32_40_31 (by omega) ⟨inR_of (by omega) (by omega), fun k => by omega, fun _ => ⟨⟨by omega, by omega⟩, ih (x + 1) (by omega)⟩⟩
  have key : ∀ (m j : Nat), j + m = (L i).toNat → G E d 32 (rI f) 4 [some (.inr 23), some (.inl w), some (.inr 40), some (.inl i), some (.inl (mnZ X i (μ 62) 99 j)), some (.inl (j : Int)), none] [] μ := by
    intro m
    induction m with
    | zero =>
      intro j hj
      refine v32_40_4 (by omega) ?_
      rw [e1]
      refine ⟨⟨i0, by omega⟩, inR_of (by omega) (by omega), inR_of (by omega) (by omega), fun _ => ?_, fun k => by omega⟩
      rw [show j = (L i).toNat by omega]
      exact tail 10 0 (by omega)
    | succ m ih =>
      intro j hj
      have wx := hW.2.2.2.2 i j i0 i1 (by omega) (by omega)
      have nx := ih (j + 1) (by omega)
      have bx := hB (X i j) (by omega) (by omega)
      have mb := mnZ_b (X := X) (i := i) (g := μ 62) (b := 99) j (by omega) (fun k k0 k1 => (hB _ (hW.2.2.2.2 i k i0 i1 k0 (by omega)).2.1 (by have := (hW.2.2.2.2 i k i0 i1 k0 (by omega)).2.2; omega)).1)
      refine v32_40_4 (by omega) ?_
      rw [e1]
      refine ⟨⟨i0, by omega⟩, inR_of (by omega) (by omega), inR_of (by omega) (by omega), fun k => by omega, fun _ => s104 (by omega) hW i0 i1 (by omega) (by omega) (s152 (by omega) (inR_of (by omega) (by omega)) ⟨b2_in _, fun h2 => absurd (by omega) (b2_0.mp h2), fun _ => ⟨by omega, ?_⟩⟩)⟩
      rw [iMin_eq (inR_of (by omega) (by omega)) (inR_of (by omega) (by omega))]
      exact nx
  exact v32_40 (by omega) (key (L i).toNat 0 (by omega))
theorem s165 {x : Int} (hd : 1 ≤ d) (hS : μ 124 3 = x) (h : Φ (some (.inl (x + 5))) μ) : Ct E d 165 [.inr 123] μ Φ :=
  v165 hd (by rw [hS]; exact h)
theorem s215 {b q : Int} {i : Nat} (hd : 2 ≤ d) (b0 : 0 ≤ b) (b1 : b ≤ 16) (hW : WM μ q b c L X) (i1 : (i : Int) < c) (hl : 1 ≤ L i) (hcj : μ 123 31 = cj) (hS : StM μ 124 0 s) (hb : StB s) (hB : ∀ z, 0 ≤ z → z < 10 → 0 ≤ μ 144 z ∧ μ 144 z ≤ 99)
    (h : ∀ μ', Eo 142 μ μ' → (∀ k, 0 ≤ k → k < 9 → μ' 142 k = fcZ s (μ 144) cj (L i) (mnZ X i (μ 144) 99 (L i).toNat) k) → Φ none μ') : Ct E d 215 [.inr 123, .inl (b + i)] μ Φ := by
  have w3 := hW.2.2.1
  have wl := hW.2.2.2.1 i (by omega) i1
  have st : ∀ k, 0 ≤ k → k < 28 → μ 124 k = s k := fun k k0 k1 => by have := hS k k0 k1; rwa [Int.zero_add] at this
  have tail : ∀ (m x : Nat), x + m = 10 → G E d 215 Φ 27 [some (.inr 123), some (.inl (b + i)), some (.inl (mnZ X i (μ 144) 99 (L i).toNat)), some (.inl (su (fun z => μ 144 z) x)), some (.inl (x : Int))] [] μ := by
    intro m
    induction m with
    | zero =>
      intro x hx
      have : x = 10 := by omega
      subst this
      refine v215_27 (by omega) ⟨inR_of (by omega) (by omega), fun _ => ⟨⟨by omega, by omega⟩, ?_⟩, fun k => by omega⟩
      rw [wl.1]
      refine s165 (x := s 3) (by omega) (by rw [mu_o (by decide), mu_o (by decide), mu_o (by decide)]; exact st 3 (by omega) (by omega)) ?_
      simp only [rI]
      simp only [mu_o (show (124 : Nat) ≠ 142 by decide), mu_o (show (123 : Nat) ≠ 142 by decide), st 7 (by omega) (by omega), st 4 (by omega) (by omega), st 5 (by omega) (by omega)]
      refine s157 (by omega) hb.2.2.2.1.1 hb.2.2.2.1.2 ?_
      simp only [rI]
      simp only [mu_o (show (124 : Nat) ≠ 142 by decide), mu_o (show (123 : Nat) ≠ 142 by decide), st 6 (by omega) (by omega), st 0 (by omega) (by omega), hcj]
      refine h _ (Eo.rf.mu.mu.mu.mu.mu.mu.mu.mu.mu) (fun k k0 k1 => ?_)
      unfold fcZ
      rcases (by omega : k = 0 ∨ k = 1 ∨ k = 2 ∨ k = 3 ∨ k = 4 ∨ k = 5 ∨ k = 6 ∨ k = 7 ∨ k = 8) with rfl | rfl | rfl | rfl | rfl | rfl | rfl | rfl | rfl <;> simp [mu]
    | succ m ih =>
      intro x hx
      refine v215_27 (by omega) ⟨inR_of (by omega) (by omega), fun k => by omega, fun _ => ⟨⟨by omega, by omega⟩, ih (x + 1) (by omega)⟩⟩
  have key : ∀ (m j : Nat), j + m = (L i).toNat → G E d 215 Φ 6 [some (.inr 123), some (.inl (b + i)), some (.inl (mnZ X i (μ 144) 100000000 j)), some (.inl 0), some (.inl (j : Int))] [] μ := by
    intro m
    induction m with
    | zero =>
      intro j hj
      have wx := hW.2.2.2.2 i 0 (by omega) i1 (by omega) (by omega)
      have bx := hB (X i 0) (by omega) (by omega)
      refine v215_6 (by omega) ?_
      rw [wl.1]
      refine ⟨⟨by omega, by omega⟩, inR_of (by omega) (by omega), inR_of (by omega) (by omega), fun _ => ?_, fun k => by omega⟩
      rw [show j = (L i).toNat by omega, mnZ_e (b := 99) (by omega) (by omega) _ (by omega)]
      exact tail 10 0 (by omega)
    | succ m ih =>
      intro j hj
      have wx := hW.2.2.2.2 i j (by omega) i1 (by omega) (by omega)
      have nx := ih (j + 1) (by omega)
      have bx := hB (X i j) (by omega) (by omega)
      have mb := mnZ_b (X := X) (i := i) (g := μ 144) (b := 100000000) j (by omega) (fun k k0 k1 => (hB _ (hW.2.2.2.2 i k (by omega) i1 k0 (by omega)).2.1 (by have := (hW.2.2.2.2 i k (by omega) i1 k0 (by omega)).2.2; omega)).1)
      refine v215_6 (by omega) ?_
      rw [wl.1]
      refine ⟨⟨by omega, by omega⟩, inR_of (by omega) (by omega), inR_of (by omega) (by omega), fun k => by omega, fun _ => v210 (by omega) ⟨by omega, ?_⟩⟩
      rw [wx.1]
      exact ⟨by omega, s156 (by omega) (inR_of (by omega) (by omega)) (inR_of (by omega) (by omega)) nx⟩
  exact v215 (by omega) (key (L i).toNat 0 (by omega))
theorem LM.ep {S : Nat → Int → Prop} {μ μ' : Mm} (h : LM μ n D l) (e : Ep S μ μ') (h0 : ∀ k i, 130 ≤ k → k < 137 → ¬ S k i) : LM μ' n D l := by
  obtain ⟨q1, q3, q4⟩ := h
  refine ⟨by rw [e _ _ (h0 130 _ (by omega) (by omega))]; exact q1, fun i i0 i1 => ?_, ?_⟩
  · rw [e _ _ (h0 131 _ (by omega) (by omega)), e _ _ (h0 132 _ (by omega) (by omega)), e _ _ (h0 133 _ (by omega) (by omega)), e _ _ (h0 134 _ (by omega) (by omega))]; exact q3 i i0 i1
  · have e5 : μ' 135 = μ 135 := funext fun i => e _ _ (h0 135 _ (by omega) (by omega))
    have e6 : μ' 136 = μ 136 := funext fun i => e _ _ (h0 136 _ (by omega) (by omega))
    rw [e5, e6]; exact q4
theorem s217 {b q : Int} {i : Nat} (hd : 5 ≤ d) (b0 : 0 ≤ b) (b1 : b ≤ 16) (hW : WM μ q b c L X) (i1 : (i : Int) < c) (hl : 1 ≤ L i) (hcj : μ 123 31 = cj) (hS : StM μ 124 0 s) (hb : StB s) (hB : ∀ z, 0 ≤ z → z < 10 → 0 ≤ μ 144 z ∧ μ 144 z ≤ 99) (hLM : LM μ n D l) (hL : LOK n D l)
    (h : ∀ μ', Ep (fun o _ => o = 142 ∨ o = 143) μ μ' → f (lwt n D l (fcZ s (μ 144) cj (L i) (mnZ X i (μ 144) 99 (L i).toNat)) 0) μ') : Ct E d 217 [.inr 123, .inl (b + i)] μ (rI f) := by
  refine v217 (by omega) (s215 (by omega) b0 b1 hW i1 hl hcj hS hb hB (fun μ1 h1 hF => ?_))
  have hb3 := hb.2.2.1
  have h3 : μ1 142 3 = s 3 + 5 := hF 3 (by omega) (by omega)
  have hE : Ep (fun o _ => o = 142 ∨ o = 143) μ μ1 := fun o i hn => h1 o i (fun e => hn (Or.inl e))
  refine s216 (w := 0) (by omega) (hLM.ep (S := fun o _ => o = 142) (fun o i hn => h1 o i hn) (fun k i k0 k1 => by show ¬ (k = 142); omega)) hL (by omega) (by omega) (by rw [h3]; omega) (by rw [if_neg (by omega), if_pos rfl]) (by rw [if_neg (by omega)]) (fun μ' h4 => ?_)
  rw [lwt_c hL hF]
  exact h μ' (hE.eo h4 (fun _ => Or.inr rfl))
theorem s218 {b q : Int} {i : Nat} (hd : 5 ≤ d) (b0 : 0 ≤ b) (b1 : b ≤ 16) (hW : WM μ q b c L X) (i1 : (i : Int) < c) (hl : 1 ≤ L i) (hcj : μ 123 31 = cj) (hS : StM μ 124 0 s) (hb : StB s) (hB : ∀ z, 0 ≤ z → z < 10 → 0 ≤ μ 144 z ∧ μ 144 z ≤ 99) (hLM : LM μ n D l) (hL : LOK n D l)
    (h : ∀ μ', Ep (fun o _ => o = 142 ∨ o = 143) μ μ' → f (lwt n D l (fcZ s (μ 144) cj (L i) (mnZ X i (μ 144) 99 (L i).toNat)) 1) μ') : Ct E d 218 [.inr 123, .inl (b + i)] μ (rI f) := by
  refine v218 (by omega) (s215 (by omega) b0 b1 hW i1 hl hcj hS hb hB (fun μ1 h1 hF => ?_))
  have hb3 := hb.2.2.1
  have h3 : μ1 142 3 = s 3 + 5 := hF 3 (by omega) (by omega)
  have hE : Ep (fun o _ => o = 142 ∨ o = 143) μ μ1 := fun o i hn => h1 o i (fun e => hn (Or.inl e))
  refine s216 (w := 1) (by omega) (hLM.ep (S := fun o _ => o = 142) (fun o i hn => h1 o i hn) (fun k i k0 k1 => by show ¬ (k = 142); omega)) hL (by omega) (by omega) (by rw [h3]; omega) (by rw [if_neg (by omega), if_neg (by omega)]) (by rw [if_pos rfl]) (fun μ' h4 => ?_)
  rw [lwt_c hL hF]
  exact h μ' (hE.eo h4 (fun _ => Or.inr rfl))
theorem s219 {b q : Int} {i : Nat} (hd : 5 ≤ d) (b0 : 0 ≤ b) (b1 : b ≤ 16) (hW : WM μ q b c L X) (i1 : (i : Int) < c) (hl : 1 ≤ L i) (hcj : μ 123 31 = cj) (hS : StM μ 124 0 s) (hb : StB s) (hB : ∀ z, 0 ≤ z → z < 10 → 0 ≤ μ 144 z ∧ μ 144 z ≤ 99) (hLM : LM μ n D l) (hL : LOK n D l)
    (h : ∀ μ', Ep (fun o _ => o = 142 ∨ o = 143) μ μ' → f (lwt n D l (fcZ s (μ 144) cj (L i) (mnZ X i (μ 144) 99 (L i).toNat)) 2) μ') : Ct E d 219 [.inr 123, .inl (b + i)] μ (rI f) := by
  refine v219 (by omega) (s215 (by omega) b0 b1 hW i1 hl hcj hS hb hB (fun μ1 h1 hF => ?_))
  have hb3 := hb.2.2.1
  have h3 : μ1 142 3 = s 3 + 5 := hF 3 (by omega) (by omega)
  have hE : Ep (fun o _ => o = 142 ∨ o = 143) μ μ1 := fun o i hn => h1 o i (fun e => hn (Or.inl e))
  refine s216 (w := 2) (by omega) (hLM.ep (S := fun o _ => o = 142) (fun o i hn => h1 o i hn) (fun k i k0 k1 => by show ¬ (k = 142); omega)) hL (by omega) (by omega) (by rw [h3]; omega) (by rw [if_pos rfl]) (by rw [if_neg (by omega)]) (fun μ' h4 => ?_)
  rw [lwt_c hL hF]
  exact h μ' (hE.eo h4 (fun _ => Or.inr rfl))
end S31
