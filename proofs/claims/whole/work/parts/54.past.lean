/-! how things stand, copied; what can be undone -/
def kpU (u : Nat) : Nat := min (u + 1) 6
def kpR (u : Nat) (R : Nat → Int → Int) (s : Int → Int) : Nat → Int → Int := fun j => if j + 1 = kpU u then s else if u = 6 then R (j + 1) else R j
theorem kpB {c : Int} {u : Nat} {R : Nat → Int → Int} {s : Int → Int} (h : QB c u R) (hb : StB s) (h0 : DP c s) : QB c (kpU u) (kpR u R s) := fun j hj => by
  unfold kpR
  unfold kpU at *
  split
  · exact ⟨hb, h0⟩
  · split
    · exact h _ (by omega)
    · exact h _ (by omega)
section S38
variable {E : En} {d : Nat} {Φ : Option AV → Mm → Prop} {μ μ' : Mm} {s : Int → Int} {u nx : Nat} {R : Nat → Int → Int}
def oSt (o : Nat) : Prop := o = 25 ∨ o = 59 ∨ o = 102 ∨ o = 105 ∨ o = 108 ∨ o = 111 ∨ o = 114 ∨ o = 117
theorem oSt_c {o : Nat} (h : oSt o) : cls o = 9 ∧ cls (o + 1) = 100 ∧ cls (o + 2) = 100 ∧ aln (o + 1) = 10 ∧ aln (o + 2) = 10 := by
  rcases h with rfl | rfl | rfl | rfl | rfl | rfl | rfl | rfl <;> decide
theorem s95 {a b : Nat} (hd : 1 ≤ d) (ha : oSt a) (hb : oSt b) (hab : a ≠ b) (h : ∀ μ', Ep (fun o _ => o = b ∨ o = b + 1 ∨ o = b + 2) μ μ' → (∀ st, StW μ a st → StW μ' b st) → Φ none μ') : Ct E d 95 [.inr b, .inr a] μ Φ := by
  obtain ⟨a1, a2, a3, a4, a5⟩ := oSt_c ha
  obtain ⟨b1, b2, b3, b4, b5⟩ := oSt_c hb
  have far : a + 3 ≤ b ∨ b + 3 ≤ a := by
    unfold oSt at ha hb
    omega
  refine v95 hd ?_
  simp only [mu_o hab, mcp_o (show a ≠ b + 1 by omega), mcp_o (show a ≠ b + 2 by omega), a4, a5, b4, b5]
  have bd : ((0 : Int) ≤ 0 ∧ (0 : Int) + 10 ≤ ((10 : Nat) : Int)) ∧ ((0 : Int) ≤ 0 ∧ (0 : Int) + 10 ≤ ((10 : Nat) : Int)) ∧ (0 : Int) ≤ 10 := ⟨⟨by decide, by decide⟩, ⟨by decide, by decide⟩, by decide⟩
  refine ⟨a1, b1, a2, b2, bd, a1, b1, a3, b3, bd, a1, b1, a1, b1, a1, b1, a1, b1, a1, b1, a1, b1, a1, b1, a1, b1, h _ ?_ (fun st hs => ?_)⟩
  · exact ((((((((((Ep.rf.mcp (fun _ => Or.inr (Or.inl rfl))).mcp (fun _ => Or.inr (Or.inr rfl))).mu (Or.inl rfl)).mu (Or.inl rfl)).mu (Or.inl rfl)).mu (Or.inl rfl)).mu (Or.inl rfl)).mu (Or.inl rfl)).mu (Or.inl rfl)).mu (Or.inl rfl))
  · obtain ⟨h1, h2, h3, h4, h5, h6, h7, h8, h9, h10⟩ := hs
    refine ⟨?_, ?_, ?_, ?_, ?_, ?_, ?_, ?_, fun i i0 i1 => ?_, fun i i0 i1 => ?_⟩
    · simp [mu, h1]
    · simp [mu, h2]
    · simp [mu, h3]
    · simp [mu, h4]
    · simp [mu, h5]
    · simp [mu, h6]
    · simp [mu, h7]
    · simp [mu, h8]
    · simp only [mu_o (show b + 1 ≠ b by omega), mcp_o (show b + 1 ≠ b + 2 by omega)]
      rw [mcp_in (by omega) (by omega), show 0 + (i - 0) = i by omega]
      exact h9 i i0 i1
    · simp only [mu_o (show b + 2 ≠ b by omega)]
      rw [mcp_in (by omega) (by omega), show 0 + (i - 0) = i by omega, mcp_o (by omega)]
      exact h10 i i0 i1
theorem oSt_k {k : Nat} (h : k < 6) : oSt (102 + 3 * k) := by
  unfold oSt
  omega
/-- one more is kept, the latest goes back, none is kept -/
theorem s18 (hd : 2 ≤ d) (hQ : QW μ u nx R) (hS : StW μ 25 s) (h : ∀ μ' nx', Ep (fun o i => (102 ≤ o ∧ o < 120) ∨ (o = 100 ∧ (i = 1 ∨ i = 2))) μ μ' → QW μ' (kpU u) nx' (kpR u R s) → Φ none μ') : Ct E d 18 [.inr 100, .inr 25] μ Φ := by
  obtain ⟨h1, h2, h3, h4, h5⟩ := hQ
  refine v18 (by omega) ?_
  rw [h2]
  have e1 : ((nx : Int)).toNat = nx := by omega
  rw [e1, show 101 + 1 + 3 * nx = 102 + 3 * nx by omega]
  refine ⟨⟨by omega, by omega⟩, (oSt_c (oSt_k h4)).1, s95 (by omega) (Or.inl rfl) (oSt_k h4) (by omega) (fun μ1 hE hC => ?_)⟩
  simp only [rV]
  have e2 : μ1 100 1 = nx := by rw [hE _ _ (by omega)]; exact h2
  have e3 : μ1 100 2 = u := by rw [hE _ _ (by omega)]; exact h1
  rw [e2, e3, iRem_eq (by omega) (inR_of (by omega) (by omega)) (by omega) (inR_of (by omega) (by omega)), iMin_eq (inR_of (by omega) (by omega)) (inR_of (by omega) (by omega))]
  refine h _ ((nx + 1) % 6) (((hE.mono (fun o i k => by omega)).mu (by omega)).mu (by omega)) ⟨?_, ?_, ?_, ?_, fun j hj => ?_⟩
  · rw [mu_s]; unfold kpU; omega
  · rw [mu_i (by decide), mu_s]; omega
  · unfold kpU; omega
  · omega
  · have fr : ∀ {o : Nat} {st : Int → Int}, 102 ≤ o → StW μ1 o st → StW (mu (mu μ1 100 1 (((nx : Int) + 1) % 6)) 100 2 (min ((u : Int) + 1) 6)) o st := fun ho hs => hs.cg (fun k i hk => by rw [mu_o (by omega), mu_o (by omega)])
    have ol : ∀ j, j < u → (nx + 6 - u + j) % 6 ≠ nx → StW μ1 (102 + 3 * ((nx + 6 - u + j) % 6)) (R j) := fun j hj hn => (h5 j hj).cg (fun k i hk => hE _ _ (by omega))
    refine fr (by omega) ?_
    unfold kpR
    unfold kpU at *
    split
    · rename_i k
      rw [show (((nx + 1) % 6 + 6 - min (u + 1) 6 + j) % 6) = nx by omega]
      exact hC s hS
    · rename_i k
      split
      · rename_i k2
        have := ol (j + 1) (by omega) (by omega)
        rwa [show (nx + 6 - u + (j + 1)) % 6 = ((nx + 1) % 6 + 6 - min (u + 1) 6 + j) % 6 by omega] at this
      · rename_i k2
        have := ol j (by omega) (by omega)
        rwa [show (nx + 6 - u + j) % 6 = ((nx + 1) % 6 + 6 - min (u + 1) 6 + j) % 6 by omega] at this
theorem s19 (hd : 2 ≤ d) (hQ : QW μ u nx R) (h0 : u = 0 → Φ (some (.inl 0)) μ) (h : 0 < u → ∀ μ' nx', Ep (fun o i => o = 25 ∨ o = 26 ∨ o = 27 ∨ (o = 100 ∧ (i = 1 ∨ i = 2))) μ μ' → StW μ' 25 (R (u - 1)) → QW μ' (u - 1) nx' R → Φ (some (.inl 1)) μ') : Ct E d 19 [.inr 100, .inr 25] μ Φ := by
  obtain ⟨h1, h2, h3, h4, h5⟩ := hQ
  refine v19 (by omega) ?_
  rw [h1, h2, iRem_eq (by omega) (inR_of (by omega) (by omega)) (by omega) (inR_of (by omega) (by omega))]
  have e1 : (((nx : Int) + 6 - 1) % 6).toNat = (nx + 5) % 6 := by omega
  rw [e1, show 101 + 1 + 3 * ((nx + 5) % 6) = 102 + 3 * ((nx + 5) % 6) by omega]
  refine ⟨inR_of (by omega) (by omega), fun k => ⟨⟨by omega, by omega⟩, s95 (by omega) (oSt_k (by omega)) (Or.inl rfl) (by omega) (fun μ1 hE hC => ?_)⟩, fun k => h0 (by omega)⟩
  have fr : ∀ {o : Nat} {st : Int → Int}, 102 ≤ o → StW μ o st → StW (mu (mu μ 100 1 (((nx : Int) + 6 - 1) % 6)) 100 2 ((u : Int) - 1)) o st := fun ho hs => hs.cg (fun k i hk => by rw [mu_o (by omega), mu_o (by omega)])
  have h6 := h5 (u - 1) (by omega)
  rw [show (nx + 6 - u + (u - 1)) % 6 = (nx + 5) % 6 by omega] at h6
  have hE0 : Ep (fun o i => o = 25 ∨ o = 26 ∨ o = 27 ∨ (o = 100 ∧ (i = 1 ∨ i = 2))) μ (mu (mu μ 100 1 (((nx : Int) + 6 - 1) % 6)) 100 2 ((u : Int) - 1)) := (Ep.rf.mu (by omega)).mu (by omega)
  refine h (by omega) μ1 ((nx + 5) % 6) (hE0.tr (hE.mono (fun o i k => by omega))) (hC _ (fr (by omega) h6)) ⟨?_, ?_, by omega, by omega, fun j hj => ?_⟩
  · rw [hE _ _ (by omega), mu_s]; omega
  · rw [hE _ _ (by omega), mu_i (by decide), mu_s]; omega
  · have h7 := fr (by omega) (h5 j (by omega))
    rw [show ((nx + 5) % 6 + 6 - (u - 1) + j) % 6 = (nx + 6 - u + j) % 6 by omega]
    exact h7.cg (fun k i hk => hE _ _ (by omega))
theorem s20 (hd : 1 ≤ d) (h : Φ none (mu μ 100 2 0)) : Ct E d 20 [.inr 100] μ Φ := v20 hd h
theorem QW.zero (hQ : QW μ u nx R) : QW (mu μ 100 2 0) 0 nx R := ⟨mu_s _ _ _ _, by rw [mu_i (by decide)]; exact hQ.2.1, by omega, hQ.2.2.2.1, fun j hj => absurd hj (Nat.not_lt_zero _)⟩
/-! the reference -/
theorem s159 (hd : 1 ≤ d) (hQ : QR μ u R) (hu : u ≤ 6) (hS : StM μ 124 0 s) (h : ∀ μ', Ep (fun o i => o = 125 ∨ (o = 123 ∧ i = 3)) μ μ' → QR μ' (kpU u) (kpR u R s) → Φ none μ') : Ct E d 159 [.inr 123] μ Φ := by
  obtain ⟨h1, h2⟩ := hQ
  have fin : ∀ (w : Nat) (R' : Nat → Int → Int), w + 1 = kpU u → (∀ j, j < w → R' j = kpR u R s j) → ∀ (m k : Nat) (μ1 : Mm), k + m = 28 → Ep (fun o i => o = 125 ∨ (o = 123 ∧ i = 3)) μ μ1 → μ1 123 3 = w → (∀ j, j < w → StM μ1 125 (28 * (j : Int)) (R' j)) → (∀ i : Int, 0 ≤ i → i < k → μ1 125 (28 * (w : Int) + i) = s i) → G E d 159 Φ 32 [some (.inr 123), some (.inl (k : Int))] [] μ1 := by
    intro w R' hw hR m
    have hw5 : w < 6 := by unfold kpU at hw; omega
    induction m with
    | zero =>
      intro k μ1 hk hE h3 hr hc
      refine v159_32 hd ?_
      rw [h3]
      refine ⟨inR_of (by omega) (by omega), fun _ => h _ (hE.mu (by omega)) ⟨?_, fun j hj => ?_⟩, fun k1 => by omega⟩
      · rw [mu_s]; omega
      · by_cases e : j = w
        · have : kpR u R s j = s := by unfold kpR; rw [if_pos (by omega)]
          rw [this, e]
          intro i i0 i1
          rw [mu_o (by decide)]
          exact hc i i0 (by omega)
        · rw [← hR j (by omega)]
          exact (hr j (by omega)).cg (fun i _ _ => mu_o (by decide))
    | succ m ih =>
      intro k μ1 hk hE h3 hr hc
      refine v159_32 hd ?_
      rw [h3]
      refine ⟨inR_of (by omega) (by omega), fun k1 => by omega, fun _ => ⟨⟨by omega, by omega⟩, ⟨by omega, by omega⟩, ih (k + 1) _ (by omega) (hE.mu (by omega)) (by rw [mu_o (by decide)]; exact h3) (fun j hj => (hr j hj).cg (fun i i0 i1 => mu_i (by omega))) (fun i i0 i1 => ?_)⟩⟩
      by_cases e : i = k
      · rw [e, mu_s, hE _ _ (by omega)]
        have := hS k (by omega) (by omega)
        rwa [Int.zero_add] at this
      · rw [mu_i (by omega)]; exact hc i i0 (by omega)
  refine v159 hd ?_
  rw [h1]
  refine ⟨inR_of (by omega) (by omega), fun k => ?_, fun k => ?_⟩
  · exact fin u R (by unfold kpU; omega) (fun j hj => by unfold kpR kpU; rw [if_neg (by omega), if_neg (by omega)]) 28 0 μ (by omega) Ep.rf h1 h2 (fun i i0 i1 => by omega)
  · have hu6 : u = 6 := by omega
    subst hu6
    have sh : ∀ (m k : Nat) (μ1 : Mm), k + m = 140 → Ep (fun o i => o = 125 ∨ (o = 123 ∧ i = 3)) μ μ1 → μ1 123 3 = 5 → (∀ i : Int, 0 ≤ i → i < k → μ1 125 i = μ 125 (i + 28)) → (∀ i : Int, k ≤ i → μ1 125 i = μ 125 i) → G E d 159 Φ 12 [some (.inr 123), some (.inl (k : Int))] [] μ1 := by
      intro m
      induction m with
      | zero =>
        intro k μ1 hk hE h3 hl hg
        refine v159_12 hd ?_
        rw [h3]
        refine ⟨inR_of (by omega) (by omega), inR_of (by omega) (by omega), fun _ => ?_, fun k1 => by omega⟩
        refine fin 5 (fun j => R (j + 1)) (by unfold kpU; omega) (fun j hj => by unfold kpR kpU; rw [if_neg (by omega), if_pos rfl]) 28 0 μ1 (by omega) hE h3 (fun j hj i i0 i1 => ?_) (fun i i0 i1 => by omega)
        rw [hl _ (by omega) (by omega)]
        have := h2 (j + 1) (by omega) i i0 i1
        rwa [show 28 * ((j + 1 : Nat) : Int) + i = 28 * (j : Int) + i + 28 by omega] at this
      | succ m ih =>
        intro k μ1 hk hE h3 hl hg
        refine v159_12 hd ?_
        rw [h3]
        refine ⟨inR_of (by omega) (by omega), inR_of (by omega) (by omega), fun k1 => by omega, fun _ => ⟨⟨by omega, by omega⟩, ⟨by omega, by omega⟩, ih (k + 1) _ (by omega) (hE.mu (by omega)) (by rw [mu_o (by decide)]; exact h3) (fun i i0 i1 => ?_) (fun i i0 => ?_)⟩⟩
        · by_cases e : i = k
          · rw [e, mu_s, hg _ (by omega)]
          · rw [mu_i (by omega)]; exact hl i i0 (by omega)
        · rw [mu_i (by omega)]; exact hg i (by omega)
    refine sh 140 0 _ (by omega) (Ep.rf.mu (by omega)) (by rw [mu_s]; omega) (fun i i0 i1 => by omega) (fun i _ => mu_o (by decide))
theorem s160 (hd : 1 ≤ d) (hQ : QR μ u R) (hu : u ≤ 6) (h0 : u = 0 → Φ (some (.inl 0)) (mu μ 123 0 0)) (h : 0 < u → ∀ μ', Ep (fun o i => (o = 124 ∧ 0 ≤ i ∧ i < 28) ∨ (o = 123 ∧ (i = 0 ∨ i = 3))) μ μ' → StM μ' 124 0 (R (u - 1)) → QR μ' (u - 1) R → Φ (some (.inl 1)) μ') : Ct E d 160 [.inr 123] μ Φ := by
  obtain ⟨h1, h2⟩ := hQ
  have fin : 0 < u → ∀ (m k : Nat) (μ1 : Mm), k + m = 28 → Ep (fun o i => (o = 124 ∧ 0 ≤ i ∧ i < 28) ∨ (o = 123 ∧ (i = 0 ∨ i = 3))) μ μ1 → μ1 123 3 = (u - 1 : Nat) → (∀ i : Int, 0 ≤ i → i < k → μ1 124 i = R (u - 1) i) → G E d 160 Φ 16 [some (.inr 123), some (.inl (k : Int))] [] μ1 := by
    intro hu0 m
    induction m with
    | zero =>
      intro k μ1 hk hE h3 hc
      refine v160_16 hd ⟨inR_of (by omega) (by omega), fun _ => h hu0 μ1 hE (fun i i0 i1 => by rw [Int.zero_add]; exact hc i i0 (by omega)) ⟨h3, fun j hj => (h2 j (by omega)).cg (fun i _ _ => hE _ _ (by omega))⟩, fun k1 => by omega⟩
    | succ m ih =>
      intro k μ1 hk hE h3 hc
      refine v160_16 hd ?_
      rw [h3]
      refine ⟨inR_of (by omega) (by omega), fun k1 => by omega, fun _ => ⟨⟨by omega, by omega⟩, ⟨by omega, by omega⟩, ih (k + 1) _ (by omega) (hE.mu (by omega)) (by rw [mu_o (by decide)]; exact h3) (fun i i0 i1 => ?_)⟩⟩
      by_cases e : i = k
      · rw [e, mu_s, hE _ _ (by omega)]
        exact h2 (u - 1) (by omega) k (by omega) (by omega)
      · rw [mu_i (by omega)]; exact hc i i0 (by omega)
  refine v160 hd ?_
  rw [h1]
  refine ⟨inR_of (by omega) (by omega), fun k => ?_, fun k => h0 (by omega)⟩
  exact fin (by omega) 28 0 _ (by omega) ((Ep.rf.mu (by omega)).mu (by omega)) (by rw [mu_s]; omega) (fun i i0 i1 => by omega)
/-- a thought begins, and ends -/
theorem s161 (hd : 1 ≤ d) (h : ∀ μ', Ep (fun o i => o = 126 ∨ (o = 123 ∧ i = 5)) μ μ' → (∀ i, 0 ≤ i → i < 28 → μ' 126 i = μ 124 i) → μ' 123 5 = 1 → Φ none μ') : Ct E d 161 [.inr 123] μ Φ := by
  have fin : ∀ (m k : Nat) (μ1 : Mm), k + m = 28 → Eo 126 μ μ1 → (∀ i : Int, 0 ≤ i → i < k → μ1 126 i = μ 124 i) → G E d 161 Φ 2 [some (.inr 123), some (.inl (k : Int))] [] μ1 := by
    intro m
    induction m with
    | zero =>
      intro k μ1 hk hE hc
      refine v161_2 hd ⟨inR_of (by omega) (by omega), fun _ => h _ ((Ep.of hE (fun _ => Or.inl rfl)).mu (by omega)) (fun i i0 i1 => by rw [mu_o (by decide)]; exact hc i i0 (by omega)) (mu_s _ _ _ _), fun k1 => by omega⟩
    | succ m ih =>
      intro k μ1 hk hE hc
      refine v161_2 hd ⟨inR_of (by omega) (by omega), fun k1 => by omega, fun _ => ⟨⟨by omega, by omega⟩, ⟨by omega, by omega⟩, ih (k + 1) _ (by omega) hE.mu (fun i i0 i1 => ?_)⟩⟩
      by_cases e : i = k
      · rw [e, mu_s, hE _ _ (by decide)]
      · rw [mu_i (by omega)]; exact hc i i0 (by omega)
  exact v161 hd (fin 28 0 μ (by omega) Eo.rf (fun i i0 i1 => by omega))
theorem s162 (hd : 1 ≤ d) (h : ∀ μ', Ep (fun o i => (o = 124 ∧ 0 ≤ i ∧ i < 28) ∨ (o = 123 ∧ i = 5)) μ μ' → (∀ i, 0 ≤ i → i < 28 → μ' 124 i = μ 126 i) → μ' 123 5 = 0 → Φ none μ') : Ct E d 162 [.inr 123] μ Φ := by
  have fin : ∀ (m k : Nat) (μ1 : Mm), k + m = 28 → Ep (fun o i => (o = 124 ∧ 0 ≤ i ∧ i < 28) ∨ (o = 123 ∧ i = 5)) μ μ1 → (∀ i : Int, 0 ≤ i → i < k → μ1 124 i = μ 126 i) → G E d 162 Φ 2 [some (.inr 123), some (.inl (k : Int))] [] μ1 := by
    intro m
    induction m with
    | zero =>
      intro k μ1 hk hE hc
      refine v162_2 hd ⟨inR_of (by omega) (by omega), fun _ => h _ (hE.mu (by omega)) (fun i i0 i1 => by rw [mu_o (by decide)]; exact hc i i0 (by omega)) (mu_s _ _ _ _), fun k1 => by omega⟩
    | succ m ih =>
      intro k μ1 hk hE hc
      refine v162_2 hd ⟨inR_of (by omega) (by omega), fun k1 => by omega, fun _ => ⟨⟨by omega, by omega⟩, ⟨by omega, by omega⟩, ih (k + 1) _ (by omega) (hE.mu (by omega)) (fun i i0 i1 => ?_)⟩⟩
      by_cases e : i = k
      · rw [e, mu_s, hE _ _ (by omega)]
      · rw [mu_i (by omega)]; exact hc i i0 (by omega)
  exact v162 hd (fin 28 0 μ (by omega) Ep.rf (fun i i0 i1 => by omega))
end S38
