/-! one shop copied over another -/
section S49
variable {E : En} {d : Nat} {Φ : Option AV → Mm → Prop} {μ μ' : Mm}
theorem bd16 {n : Int} (h : 0 ≤ n) : ((0 : Int) ≤ 0 ∧ (0 : Int) + n ≤ n) ∧ ((0 : Int) ≤ 0 ∧ (0 : Int) + n ≤ n) ∧ (0 : Int) ≤ n := by omega
/-- a cell of a copy, and one beside it -/
theorem mcp_0 {ν : Mm} {s t : Nat} {n i : Int} (i0 : 0 ≤ i) (i1 : i < n) : mcp ν s 0 t 0 n t i = ν s i := by
  rw [mcp_in (by omega) (by omega), show 0 + (i - 0) = i by omega]
theorem s95c66 (hd : 1 ≤ d) (h : ∀ μ', Ep (fun o _ => 66 ≤ o ∧ o < 66 + 3) μ μ' → (∀ i, 2 ≤ i → i ≤ 9 → μ' 66 i = μ 25 i) → (∀ i, 0 ≤ i → i < 10 → μ' (66 + 1) i = μ (25 + 1) i) → (∀ i, 0 ≤ i → i < 10 → μ' (66 + 2) i = μ (25 + 2) i) → Φ none μ') : Ct E d 95 [.inr 66, .inr 25] μ Φ := by
  refine v95 hd ?_
  simp only [mu_o (show (25 : Nat) ≠ 66 by decide), mcp_o (show (25 : Nat) ≠ 66 + 1 by decide), mcp_o (show (25 : Nat) ≠ 66 + 2 by decide)]
  have c : cls 25 = 9 := rfl
  have c' : cls 66 = 9 := rfl
  refine ⟨c, c', rfl, rfl, bd16 (by decide), c, c', rfl, rfl, bd16 (by decide), c, c', c, c', c, c', c, c', c, c', c, c', c, c', c, c', h _ ?_ (fun i i0 i1 => ?_) (fun i i0 i1 => ?_) (fun i i0 i1 => ?_)⟩
  · exact ((((((((((Ep.rf.mcp (fun _ => by decide)).mcp (fun _ => by decide)).mu (by decide)).mu (by decide)).mu (by decide)).mu (by decide)).mu (by decide)).mu (by decide)).mu (by decide)).mu (by decide))
  · rcases (by omega : i = 2 ∨ i = 3 ∨ i = 4 ∨ i = 5 ∨ i = 6 ∨ i = 7 ∨ i = 8 ∨ i = 9) with rfl | rfl | rfl | rfl | rfl | rfl | rfl | rfl <;> simp [mu]
  · simp only [mu_o (show (66 + 1 : Nat) ≠ 66 by decide), mcp_o (show (66 + 1 : Nat) ≠ 66 + 2 by decide)]
    exact mcp_0 i0 i1
  · simp only [mu_o (show (66 + 2 : Nat) ≠ 66 by decide)]
    rw [mcp_0 i0 i1, mcp_o (by decide)]
theorem s95c25 (hd : 1 ≤ d) (h : ∀ μ', Ep (fun o _ => 25 ≤ o ∧ o < 25 + 3) μ μ' → (∀ i, 2 ≤ i → i ≤ 9 → μ' 25 i = μ 66 i) → (∀ i, 0 ≤ i → i < 10 → μ' (25 + 1) i = μ (66 + 1) i) → (∀ i, 0 ≤ i → i < 10 → μ' (25 + 2) i = μ (66 + 2) i) → Φ none μ') : Ct E d 95 [.inr 25, .inr 66] μ Φ := by
  refine v95 hd ?_
  simp only [mu_o (show (66 : Nat) ≠ 25 by decide), mcp_o (show (66 : Nat) ≠ 25 + 1 by decide), mcp_o (show (66 : Nat) ≠ 25 + 2 by decide)]
  have c : cls 66 = 9 := rfl
  have c' : cls 25 = 9 := rfl
  refine ⟨c, c', rfl, rfl, bd16 (by decide), c, c', rfl, rfl, bd16 (by decide), c, c', c, c', c, c', c, c', c, c', c, c', c, c', c, c', h _ ?_ (fun i i0 i1 => ?_) (fun i i0 i1 => ?_) (fun i i0 i1 => ?_)⟩
  · exact ((((((((((Ep.rf.mcp (fun _ => by decide)).mcp (fun _ => by decide)).mu (by decide)).mu (by decide)).mu (by decide)).mu (by decide)).mu (by decide)).mu (by decide)).mu (by decide)).mu (by decide))
  · rcases (by omega : i = 2 ∨ i = 3 ∨ i = 4 ∨ i = 5 ∨ i = 6 ∨ i = 7 ∨ i = 8 ∨ i = 9) with rfl | rfl | rfl | rfl | rfl | rfl | rfl | rfl <;> simp [mu]
  · simp only [mu_o (show (25 + 1 : Nat) ≠ 25 by decide), mcp_o (show (25 + 1 : Nat) ≠ 25 + 2 by decide)]
    exact mcp_0 i0 i1
  · simp only [mu_o (show (25 + 2 : Nat) ≠ 25 by decide)]
    rw [mcp_0 i0 i1, mcp_o (by decide)]
theorem s100c (hd : 1 ≤ d) {t s : Nat} (ht : (t = 77 ∧ s = 36) ∨ (t = 81 ∧ s = 40) ∨ (t = 36 ∧ s = 77) ∨ (t = 40 ∧ s = 81) ∨ (t = 36 ∧ s = 14) ∨ (t = 40 ∧ s = 14)) (h : ∀ μ', Ep (fun o _ => t ≤ o ∧ o < t + 4) μ μ' → μ' t 0 = μ s 0 → (∀ i, 0 ≤ i → i < 16 → μ' (t + 1) i = μ (s + 1) i) → (∀ i, 0 ≤ i → i < 16 → μ' (t + 2) i = μ (s + 2) i) → (∀ i, 0 ≤ i → i < 128 → μ' (t + 3) i = μ (s + 3) i) → Φ none μ') : Ct E d 100 [.inr t, .inr s] μ Φ := by
  have c : cls s = 10 ∧ cls t = 10 ∧ cls (s + 1) = 100 ∧ cls (t + 1) = 100 ∧ cls (s + 2) = 100 ∧ cls (t + 2) = 100 ∧ cls (s + 3) = 100 ∧ cls (t + 3) = 100 ∧ aln (s + 1) = 16 ∧ aln (t + 1) = 16 ∧ aln (s + 2) = 16 ∧ aln (t + 2) = 16 ∧ aln (s + 3) = 128 ∧ aln (t + 3) = 128 := by
    rcases ht with ⟨rfl, rfl⟩ | ⟨rfl, rfl⟩ | ⟨rfl, rfl⟩ | ⟨rfl, rfl⟩ | ⟨rfl, rfl⟩ | ⟨rfl, rfl⟩ <;> decide
  obtain ⟨c1, c2, c3, c4, c5, c6, c7, c8, a1, a2, a3, a4, a5, a6⟩ := c
  have far : t + 4 ≤ s ∨ s + 4 ≤ t := by omega
  refine v100 hd ?_
  rw [a1, a2, a3, a4, a5, a6]
  refine ⟨c1, c2, c1, c2, c3, c4, bd16 (by decide), c1, c2, c5, c6, bd16 (by decide), c1, c2, c7, c8, bd16 (by decide), h _ ?_ ?_ (fun i i0 i1 => ?_) (fun i i0 i1 => ?_) (fun i i0 i1 => ?_)⟩
  · exact (((Ep.rf.mu (by omega)).mcp (fun _ => by omega)).mcp (fun _ => by omega)).mcp (fun _ => by omega)
  · rw [mcp_o (by omega), mcp_o (by omega), mcp_o (by omega), mu_s]
  · rw [mcp_o (by omega), mcp_o (by omega), mcp_0 i0 i1, mu_o (by omega)]
  · rw [mcp_o (by omega), mcp_0 i0 i1, mcp_o (by omega), mu_o (by omega)]
  · rw [mcp_0 i0 i1, mcp_o (by omega), mcp_o (by omega), mu_o (by omega)]
theorem s0c (hd : 1 ≤ d) {t s : Nat} (ht : (t = 85 ∧ s = 44) ∨ (t = 44 ∧ s = 85) ∨ (t = 44 ∧ s = 18)) (h : ∀ μ', Ep (fun o _ => t ≤ o ∧ o < t + 5) μ μ' → μ' t 0 = μ s 0 → (∀ k i, 1 ≤ k → k < 5 → 0 ≤ i → i < 16 → μ' (t + k) i = μ (s + k) i) → Φ none μ') : Ct E d 0 [.inr t, .inr s] μ Φ := by
  have c : cls s = 0 ∧ cls t = 0 ∧ cls (s + 1) = 100 ∧ cls (t + 1) = 100 ∧ cls (s + 2) = 100 ∧ cls (t + 2) = 100 ∧ cls (s + 3) = 100 ∧ cls (t + 3) = 100 ∧ cls (s + 4) = 100 ∧ cls (t + 4) = 100 ∧ aln (s + 1) = 16 ∧ aln (t + 1) = 16 ∧ aln (s + 2) = 16 ∧ aln (t + 2) = 16 ∧ aln (s + 3) = 16 ∧ aln (t + 3) = 16 ∧ aln (s + 4) = 16 ∧ aln (t + 4) = 16 := by
    rcases ht with ⟨rfl, rfl⟩ | ⟨rfl, rfl⟩ | ⟨rfl, rfl⟩ <;> decide
  obtain ⟨c1, c2, c3, c4, c5, c6, c7, c8, c9, c10, a1, a2, a3, a4, a5, a6, a7, a8⟩ := c
  have far : t + 5 ≤ s ∨ s + 5 ≤ t := by omega
  refine v0 hd ?_
  rw [a1, a2, a3, a4, a5, a6, a7, a8]
  refine ⟨c1, c2, c1, c2, c3, c4, bd16 (by decide), c1, c2, c5, c6, bd16 (by decide), c1, c2, c7, c8, bd16 (by decide), c1, c2, c9, c10, bd16 (by decide), h _ ?_ ?_ (fun k i k0 k1 i0 i1 => ?_)⟩
  · exact ((((Ep.rf.mu (by omega)).mcp (fun _ => by omega)).mcp (fun _ => by omega)).mcp (fun _ => by omega)).mcp (fun _ => by omega)
  · rw [mcp_o (by omega), mcp_o (by omega), mcp_o (by omega), mcp_o (by omega), mu_s]
  · rcases (by omega : k = 1 ∨ k = 2 ∨ k = 3 ∨ k = 4) with rfl | rfl | rfl | rfl
    · rw [mcp_o (by omega), mcp_o (by omega), mcp_o (by omega), mcp_0 i0 i1, mu_o (by omega)]
    · rw [mcp_o (by omega), mcp_o (by omega), mcp_0 i0 i1, mcp_o (by omega), mu_o (by omega)]
    · rw [mcp_o (by omega), mcp_0 i0 i1, mcp_o (by omega), mcp_o (by omega), mu_o (by omega)]
    · rw [mcp_0 i0 i1, mcp_o (by omega), mcp_o (by omega), mcp_o (by omega), mu_o (by omega)]
theorem s3c (hd : 1 ≤ d) {t s : Nat} (ht : (t = 69 ∧ s = 28) ∨ (t = 28 ∧ s = 69) ∨ (t = 28 ∧ s = 6)) (h : ∀ μ', Ep (fun o _ => t ≤ o ∧ o < t + 6) μ μ' → μ' t 0 = μ s 0 → μ' t 6 = μ s 6 → (∀ k i, 1 ≤ k → k < 5 → 0 ≤ i → i < 16 → μ' (t + k) i = μ (s + k) i) → (∀ i, 0 ≤ i → i < 400 → μ' (t + 5) i = μ (s + 5) i) → Φ none μ') : Ct E d 3 [.inr t, .inr s] μ Φ := by
  have c : cls s = 1 ∧ cls t = 1 ∧ cls (s + 1) = 100 ∧ cls (t + 1) = 100 ∧ cls (s + 2) = 100 ∧ cls (t + 2) = 100 ∧ cls (s + 3) = 100 ∧ cls (t + 3) = 100 ∧ cls (s + 4) = 100 ∧ cls (t + 4) = 100 ∧ cls (s + 5) = 100 ∧ cls (t + 5) = 100 := by
    rcases ht with ⟨rfl, rfl⟩ | ⟨rfl, rfl⟩ | ⟨rfl, rfl⟩ <;> decide
  have a : aln (s + 1) = 16 ∧ aln (t + 1) = 16 ∧ aln (s + 2) = 16 ∧ aln (t + 2) = 16 ∧ aln (s + 3) = 16 ∧ aln (t + 3) = 16 ∧ aln (s + 4) = 16 ∧ aln (t + 4) = 16 ∧ aln (s + 5) = 400 ∧ aln (t + 5) = 400 := by
    rcases ht with ⟨rfl, rfl⟩ | ⟨rfl, rfl⟩ | ⟨rfl, rfl⟩ <;> decide
  obtain ⟨c1, c2, c3, c4, c5, c6, c7, c8, c9, c10, c11, c12⟩ := c
  obtain ⟨a1, a2, a3, a4, a5, a6, a7, a8, a9, a10⟩ := a
  have far : t + 6 ≤ s ∨ s + 6 ≤ t := by omega
  refine v3 hd ?_
  rw [a1, a2, a3, a4, a5, a6, a7, a8, a9, a10, mu_o (show s ≠ t by omega)]
  refine ⟨c1, c2, c1, c2, c1, c2, c3, c4, bd16 (by decide), c1, c2, c5, c6, bd16 (by decide), c1, c2, c7, c8, bd16 (by decide), c1, c2, c9, c10, bd16 (by decide), c1, c2, c11, c12, bd16 (by decide), h _ ?_ ?_ ?_ (fun k i k0 k1 i0 i1 => ?_) (fun i i0 i1 => ?_)⟩
  · exact ((((((Ep.rf.mu (by omega)).mu (by omega)).mcp (fun _ => by omega)).mcp (fun _ => by omega)).mcp (fun _ => by omega)).mcp (fun _ => by omega)).mcp (fun _ => by omega)
  · rw [mcp_o (by omega), mcp_o (by omega), mcp_o (by omega), mcp_o (by omega), mcp_o (by omega), mu_i (by decide), mu_s]
  · rw [mcp_o (by omega), mcp_o (by omega), mcp_o (by omega), mcp_o (by omega), mcp_o (by omega), mu_s]
  · rcases (by omega : k = 1 ∨ k = 2 ∨ k = 3 ∨ k = 4) with rfl | rfl | rfl | rfl
    · rw [mcp_o (by omega), mcp_o (by omega), mcp_o (by omega), mcp_o (by omega), mcp_0 i0 i1, mu_o (by omega), mu_o (by omega)]
    · rw [mcp_o (by omega), mcp_o (by omega), mcp_o (by omega), mcp_0 i0 i1, mcp_o (by omega), mu_o (by omega), mu_o (by omega)]
    · rw [mcp_o (by omega), mcp_o (by omega), mcp_0 i0 i1, mcp_o (by omega), mcp_o (by omega), mu_o (by omega), mu_o (by omega)]
    · rw [mcp_o (by omega), mcp_0 i0 i1, mcp_o (by omega), mcp_o (by omega), mcp_o (by omega), mu_o (by omega), mu_o (by omega)]
  · rw [mcp_0 i0 i1, mcp_o (by omega), mcp_o (by omega), mcp_o (by omega), mcp_o (by omega), mu_o (by omega), mu_o (by omega)]
theorem s59c (hd : 2 ≤ d) {t s : Nat} (ht : (t = 90 ∧ s = 49) ∨ (t = 49 ∧ s = 90)) (h : ∀ μ', Ep (fun o _ => t ≤ o ∧ o < t + 9) μ μ' → μ' t 3 = μ s 3 → μ' (t + 1) 1 = μ (s + 1) 1 → (∀ i, 0 ≤ i → i < 12 → μ' (t + 2) i = μ (s + 2) i) → (∀ i, 0 ≤ i → i < 25 → μ' (t + 6) i = μ (s + 6) i) → (∀ i, 0 ≤ i → i < 8 → μ' (t + 7) i = μ (s + 7) i) → (∀ i, 0 ≤ i → i < 10 → μ' (t + 8) i = μ (s + 8) i) → Φ none μ') : Ct E d 59 [.inr t, .inr s] μ Φ := by
  have c : cls s = 5 ∧ cls t = 5 ∧ cls (s + 1) = 7 ∧ cls (t + 1) = 7 ∧ cls (s + 1 + 1) = 100 ∧ cls (t + 1 + 1) = 100 ∧ cls (s + 6) = 100 ∧ cls (t + 6) = 100 ∧ cls (s + 7) = 100 ∧ cls (t + 7) = 100 ∧ cls (s + 8) = 100 ∧ cls (t + 8) = 100 := by
    rcases ht with ⟨rfl, rfl⟩ | ⟨rfl, rfl⟩ <;> decide
  have a : aln (s + 1 + 1) = 12 ∧ aln (t + 1 + 1) = 12 ∧ aln (s + 6) = 25 ∧ aln (t + 6) = 25 ∧ aln (s + 7) = 8 ∧ aln (t + 7) = 8 ∧ aln (s + 8) = 10 ∧ aln (t + 8) = 10 := by
    rcases ht with ⟨rfl, rfl⟩ | ⟨rfl, rfl⟩ <;> decide
  obtain ⟨c1, c2, c3, c4, c5, c6, c7, c8, c9, c10, c11, c12⟩ := c
  obtain ⟨a1, a2, a3, a4, a5, a6, a7, a8⟩ := a
  have far : t + 9 ≤ s ∨ s + 9 ≤ t := by omega
  refine v59 (by omega) ⟨c2, c1, c4, v74 (by omega) ?_⟩
  rw [a1, a2, mcp_o (show s + 1 ≠ t + 1 + 1 by omega)]
  refine ⟨c3, c4, c5, c6, bd16 (by decide), c3, c4, ?_⟩
  simp only [rV]
  rw [a3, a4, a5, a6, a7, a8, mcp_o (show s ≠ t + 7 by omega), mcp_o (show s ≠ t + 6 by omega), mu_o (show s ≠ t + 1 by omega), mcp_o (show s ≠ t + 1 + 1 by omega)]
  refine ⟨c1, c2, c7, c8, bd16 (by decide), c1, c2, c9, c10, bd16 (by decide), c1, c2, c1, c2, c11, c12, bd16 (by decide), h _ ?_ ?_ ?_ (fun i i0 i1 => ?_) (fun i i0 i1 => ?_) (fun i i0 i1 => ?_) (fun i i0 i1 => ?_)⟩
  · exact (((((Ep.rf.mcp (fun _ => by omega)).mu (by omega)).mcp (fun _ => by omega)).mcp (fun _ => by omega)).mu (by omega)).mcp (fun _ => by omega)
  · rw [mcp_o (by omega), mu_s]
  · rw [mcp_o (by omega), mu_o (by omega), mcp_o (by omega), mcp_o (by omega), mu_s]
  · rw [mcp_o (by omega), mu_o (by omega), mcp_o (by omega), mcp_o (by omega), mu_o (by omega)]
    exact mcp_0 i0 i1
  · rw [mcp_o (by omega), mu_o (by omega), mcp_o (by omega), mcp_0 i0 i1, mu_o (by omega), mcp_o (by omega)]
  · rw [mcp_o (by omega), mu_o (by omega), mcp_0 i0 i1, mcp_o (by omega), mu_o (by omega), mcp_o (by omega)]
  · rw [mcp_0 i0 i1, mu_o (by omega), mcp_o (by omega), mcp_o (by omega), mu_o (by omega), mcp_o (by omega)]
/-- what counts of a shop, within bounds -/
def supB (o : Nat) (i : Int) : Prop := (o = 25 ∧ 2 ≤ i ∧ i ≤ 9) ∨ (26 ≤ o ∧ o ≤ 27 ∧ 0 ≤ i ∧ i < 10) ∨ (o = 28 ∧ (i = 0 ∨ i = 6)) ∨ (29 ≤ o ∧ o ≤ 32 ∧ 0 ≤ i ∧ i < 16) ∨ (o = 33 ∧ 0 ≤ i ∧ i < 400) ∨ ((o = 36 ∨ o = 40 ∨ o = 44) ∧ i = 0) ∨ ((o = 37 ∨ o = 38 ∨ o = 41 ∨ o = 42) ∧ 0 ≤ i ∧ i < 16) ∨ ((o = 39 ∨ o = 43) ∧ 0 ≤ i ∧ i < 128) ∨ (45 ≤ o ∧ o ≤ 48 ∧ 0 ≤ i ∧ i < 16) ∨ (o = 49 ∧ i = 3) ∨ (o = 50 ∧ i = 1) ∨ (o = 51 ∧ 0 ≤ i ∧ i < 12) ∨ (o = 55 ∧ 0 ≤ i ∧ i < 25) ∨ (o = 56 ∧ 0 ≤ i ∧ i < 8) ∨ (o = 57 ∧ 0 ≤ i ∧ i < 10) ∨ (o = 58 ∧ 0 ≤ i ∧ i < 600)
theorem s94_65 (hd : 4 ≤ d) (h : ∀ μ', Ep (fun o _ => 66 ≤ o ∧ o < 100) μ μ' → (∀ o i, supB o i → μ' (o + 41) i = μ (o) i) → Φ none μ') : Ct E d 94 [.inr 65, .inr 24] μ Φ := by
  refine v94_65 (by omega) (s95c66 (by omega) (fun μ1 e1 p1 p2 p3 => s3c (by omega) (by omega) (fun μ2 e2 q1 q2 q3 q4 => s100c (by omega) (by omega) (fun μ3 e3 r1 r2 r3 r4 => s100c (by omega) (by omega) (fun μ4 e4 t1 t2 t3 t4 => s0c (by omega) (by omega) (fun μ5 e5 u1 u2 => s59c (by omega) (by omega) (fun μ6 e6 w1 w2 w3 w4 w5 w6 => h _ ?_ (fun o i hs => ?_))))))))
  · exact ((((((e1.mono (fun o i k => by omega)).tr (e2.mono (fun o i k => by omega))).tr (e3.mono (fun o i k => by omega))).tr (e4.mono (fun o i k => by omega))).tr (e5.mono (fun o i k => by omega))).tr (e6.mono (fun o i k => by omega))).mcp (fun _ => by omega)
  · have f6 : ∀ (a : Nat) (i : Int), ¬ (90 ≤ a ∧ a < 90 + 9) → μ6 a i = μ5 a i := fun a i k => e6 a i k
    have f5 : ∀ (a : Nat) (i : Int), ¬ (85 ≤ a ∧ a < 85 + 5) → μ5 a i = μ4 a i := fun a i k => e5 a i k
    have f4 : ∀ (a : Nat) (i : Int), ¬ (81 ≤ a ∧ a < 81 + 4) → μ4 a i = μ3 a i := fun a i k => e4 a i k
    have f3 : ∀ (a : Nat) (i : Int), ¬ (77 ≤ a ∧ a < 77 + 4) → μ3 a i = μ2 a i := fun a i k => e3 a i k
    have f2 : ∀ (a : Nat) (i : Int), ¬ (69 ≤ a ∧ a < 69 + 6) → μ2 a i = μ1 a i := fun a i k => e2 a i k
    have f1 : ∀ (a : Nat) (i : Int), ¬ (66 ≤ a ∧ a < 66 + 3) → μ1 a i = μ a i := fun a i k => e1 a i k
    rcases hs with ⟨rfl, k0, k1⟩ | ⟨k2, k3, k0, k1⟩ | ⟨rfl, k⟩ | ⟨k2, k3, k0, k1⟩ | ⟨rfl, k0, k1⟩ | ⟨k, rfl⟩ | ⟨k, k0, k1⟩ | ⟨k, k0, k1⟩ | ⟨k2, k3, k0, k1⟩ | ⟨rfl, rfl⟩ | ⟨rfl, rfl⟩ | ⟨rfl, k0, k1⟩ | ⟨rfl, k0, k1⟩ | ⟨rfl, k0, k1⟩ | ⟨rfl, k0, k1⟩ | ⟨rfl, k0, k1⟩
    · rw [mcp_o (by decide), f6 _ _ (by decide), f5 _ _ (by decide), f4 _ _ (by decide), f3 _ _ (by decide), f2 _ _ (by decide)]
      exact p1 i k0 k1
    · rcases (by omega : o = 26 ∨ o = 27) with rfl | rfl
      · rw [mcp_o (by decide), f6 _ _ (by decide), f5 _ _ (by decide), f4 _ _ (by decide), f3 _ _ (by decide), f2 _ _ (by decide)]
        exact p2 i k0 k1
      · rw [mcp_o (by decide), f6 _ _ (by decide), f5 _ _ (by decide), f4 _ _ (by decide), f3 _ _ (by decide), f2 _ _ (by decide)]
        exact p3 i k0 k1
    · rcases k with rfl | rfl
      · rw [mcp_o (by decide), f6 _ _ (by decide), f5 _ _ (by decide), f4 _ _ (by decide), f3 _ _ (by decide), ← f1 _ _ (by decide)]
        exact q1
      · rw [mcp_o (by decide), f6 _ _ (by decide), f5 _ _ (by decide), f4 _ _ (by decide), f3 _ _ (by decide), ← f1 _ _ (by decide)]
        exact q2
    · rcases (by omega : o = 29 ∨ o = 30 ∨ o = 31 ∨ o = 32) with rfl | rfl | rfl | rfl
      · rw [mcp_o (by decide), f6 _ _ (by decide), f5 _ _ (by decide), f4 _ _ (by decide), f3 _ _ (by decide), ← f1 _ _ (by decide)]
        exact q3 1 i (by decide) (by decide) k0 k1
      · rw [mcp_o (by decide), f6 _ _ (by decide), f5 _ _ (by decide), f4 _ _ (by decide), f3 _ _ (by decide), ← f1 _ _ (by decide)]
        exact q3 2 i (by decide) (by decide) k0 k1
      · rw [mcp_o (by decide), f6 _ _ (by decide), f5 _ _ (by decide), f4 _ _ (by decide), f3 _ _ (by decide), ← f1 _ _ (by decide)]
        exact q3 3 i (by decide) (by decide) k0 k1
      · rw [mcp_o (by decide), f6 _ _ (by decide), f5 _ _ (by decide), f4 _ _ (by decide), f3 _ _ (by decide), ← f1 _ _ (by decide)]
        exact q3 4 i (by decide) (by decide) k0 k1
    · rw [mcp_o (by decide), f6 _ _ (by decide), f5 _ _ (by decide), f4 _ _ (by decide), f3 _ _ (by decide), ← f1 _ _ (by decide)]
      exact q4 i k0 k1
    · rcases k with rfl | rfl | rfl
      · rw [mcp_o (by decide), f6 _ _ (by decide), f5 _ _ (by decide), f4 _ _ (by decide), ← f1 _ _ (by decide), ← f2 _ _ (by decide)]
        exact r1
      · rw [mcp_o (by decide), f6 _ _ (by decide), f5 _ _ (by decide), ← f1 _ _ (by decide), ← f2 _ _ (by decide), ← f3 _ _ (by decide)]
        exact t1
      · rw [mcp_o (by decide), f6 _ _ (by decide), ← f1 _ _ (by decide), ← f2 _ _ (by decide), ← f3 _ _ (by decide), ← f4 _ _ (by decide)]
        exact u1
    · rcases k with rfl | rfl | rfl | rfl
      · rw [mcp_o (by decide), f6 _ _ (by decide), f5 _ _ (by decide), f4 _ _ (by decide), ← f1 _ _ (by decide), ← f2 _ _ (by decide)]
        exact r2 i k0 k1
      · rw [mcp_o (by decide), f6 _ _ (by decide), f5 _ _ (by decide), f4 _ _ (by decide), ← f1 _ _ (by decide), ← f2 _ _ (by decide)]
        exact r3 i k0 k1
      · rw [mcp_o (by decide), f6 _ _ (by decide), f5 _ _ (by decide), ← f1 _ _ (by decide), ← f2 _ _ (by decide), ← f3 _ _ (by decide)]
        exact t2 i k0 k1
      · rw [mcp_o (by decide), f6 _ _ (by decide), f5 _ _ (by decide), ← f1 _ _ (by decide), ← f2 _ _ (by decide), ← f3 _ _ (by decide)]
        exact t3 i k0 k1
    · rcases k with rfl | rfl
      · rw [mcp_o (by decide), f6 _ _ (by decide), f5 _ _ (by decide), f4 _ _ (by decide), ← f1 _ _ (by decide), ← f2 _ _ (by decide)]
        exact r4 i k0 k1
      · rw [mcp_o (by decide), f6 _ _ (by decide), f5 _ _ (by decide), ← f1 _ _ (by decide), ← f2 _ _ (by decide), ← f3 _ _ (by decide)]
        exact t4 i k0 k1
    · rcases (by omega : o = 45 ∨ o = 46 ∨ o = 47 ∨ o = 48) with rfl | rfl | rfl | rfl
      · rw [mcp_o (by decide), f6 _ _ (by decide), ← f1 _ _ (by decide), ← f2 _ _ (by decide), ← f3 _ _ (by decide), ← f4 _ _ (by decide)]
        exact u2 1 i (by decide) (by decide) k0 k1
      · rw [mcp_o (by decide), f6 _ _ (by decide), ← f1 _ _ (by decide), ← f2 _ _ (by decide), ← f3 _ _ (by decide), ← f4 _ _ (by decide)]
        exact u2 2 i (by decide) (by decide) k0 k1
      · rw [mcp_o (by decide), f6 _ _ (by decide), ← f1 _ _ (by decide), ← f2 _ _ (by decide), ← f3 _ _ (by decide), ← f4 _ _ (by decide)]
        exact u2 3 i (by decide) (by decide) k0 k1
      · rw [mcp_o (by decide), f6 _ _ (by decide), ← f1 _ _ (by decide), ← f2 _ _ (by decide), ← f3 _ _ (by decide), ← f4 _ _ (by decide)]
        exact u2 4 i (by decide) (by decide) k0 k1
    · rw [mcp_o (by decide), ← f1 _ _ (by decide), ← f2 _ _ (by decide), ← f3 _ _ (by decide), ← f4 _ _ (by decide), ← f5 _ _ (by decide)]
      exact w1
    · rw [mcp_o (by decide), ← f1 _ _ (by decide), ← f2 _ _ (by decide), ← f3 _ _ (by decide), ← f4 _ _ (by decide), ← f5 _ _ (by decide)]
      exact w2
    · rw [mcp_o (by decide), ← f1 _ _ (by decide), ← f2 _ _ (by decide), ← f3 _ _ (by decide), ← f4 _ _ (by decide), ← f5 _ _ (by decide)]
      exact w3 i k0 k1
    · rw [mcp_o (by decide), ← f1 _ _ (by decide), ← f2 _ _ (by decide), ← f3 _ _ (by decide), ← f4 _ _ (by decide), ← f5 _ _ (by decide)]
      exact w4 i k0 k1
    · rw [mcp_o (by decide), ← f1 _ _ (by decide), ← f2 _ _ (by decide), ← f3 _ _ (by decide), ← f4 _ _ (by decide), ← f5 _ _ (by decide)]
      exact w5 i k0 k1
    · rw [mcp_o (by decide), ← f1 _ _ (by decide), ← f2 _ _ (by decide), ← f3 _ _ (by decide), ← f4 _ _ (by decide), ← f5 _ _ (by decide)]
      exact w6 i k0 k1
    · refine (mcp_0 k0 k1).trans ?_
      rw [f6 _ _ (by decide), f5 _ _ (by decide), f4 _ _ (by decide), f3 _ _ (by decide), f2 _ _ (by decide), f1 _ _ (by decide)]
theorem s94_24 (hd : 4 ≤ d) (h : ∀ μ', Ep (fun o _ => 25 ≤ o ∧ o < 59) μ μ' → (∀ o i, supB o i → μ' (o) i = μ (o + 41) i) → Φ none μ') : Ct E d 94 [.inr 24, .inr 65] μ Φ := by
  refine v94_24 (by omega) (s95c25 (by omega) (fun μ1 e1 p1 p2 p3 => s3c (by omega) (by omega) (fun μ2 e2 q1 q2 q3 q4 => s100c (by omega) (by omega) (fun μ3 e3 r1 r2 r3 r4 => s100c (by omega) (by omega) (fun μ4 e4 t1 t2 t3 t4 => s0c (by omega) (by omega) (fun μ5 e5 u1 u2 => s59c (by omega) (by omega) (fun μ6 e6 w1 w2 w3 w4 w5 w6 => h _ ?_ (fun o i hs => ?_))))))))
  · exact ((((((e1.mono (fun o i k => by omega)).tr (e2.mono (fun o i k => by omega))).tr (e3.mono (fun o i k => by omega))).tr (e4.mono (fun o i k => by omega))).tr (e5.mono (fun o i k => by omega))).tr (e6.mono (fun o i k => by omega))).mcp (fun _ => by omega)
  · have f6 : ∀ (a : Nat) (i : Int), ¬ (49 ≤ a ∧ a < 49 + 9) → μ6 a i = μ5 a i := fun a i k => e6 a i k
    have f5 : ∀ (a : Nat) (i : Int), ¬ (44 ≤ a ∧ a < 44 + 5) → μ5 a i = μ4 a i := fun a i k => e5 a i k
    have f4 : ∀ (a : Nat) (i : Int), ¬ (40 ≤ a ∧ a < 40 + 4) → μ4 a i = μ3 a i := fun a i k => e4 a i k
    have f3 : ∀ (a : Nat) (i : Int), ¬ (36 ≤ a ∧ a < 36 + 4) → μ3 a i = μ2 a i := fun a i k => e3 a i k
    have f2 : ∀ (a : Nat) (i : Int), ¬ (28 ≤ a ∧ a < 28 + 6) → μ2 a i = μ1 a i := fun a i k => e2 a i k
    have f1 : ∀ (a : Nat) (i : Int), ¬ (25 ≤ a ∧ a < 25 + 3) → μ1 a i = μ a i := fun a i k => e1 a i k
    rcases hs with ⟨rfl, k0, k1⟩ | ⟨k2, k3, k0, k1⟩ | ⟨rfl, k⟩ | ⟨k2, k3, k0, k1⟩ | ⟨rfl, k0, k1⟩ | ⟨k, rfl⟩ | ⟨k, k0, k1⟩ | ⟨k, k0, k1⟩ | ⟨k2, k3, k0, k1⟩ | ⟨rfl, rfl⟩ | ⟨rfl, rfl⟩ | ⟨rfl, k0, k1⟩ | ⟨rfl, k0, k1⟩ | ⟨rfl, k0, k1⟩ | ⟨rfl, k0, k1⟩ | ⟨rfl, k0, k1⟩
    · rw [mcp_o (by decide), f6 _ _ (by decide), f5 _ _ (by decide), f4 _ _ (by decide), f3 _ _ (by decide), f2 _ _ (by decide)]
      exact p1 i k0 k1
    · rcases (by omega : o = 26 ∨ o = 27) with rfl | rfl
      · rw [mcp_o (by decide), f6 _ _ (by decide), f5 _ _ (by decide), f4 _ _ (by decide), f3 _ _ (by decide), f2 _ _ (by decide)]
        exact p2 i k0 k1
      · rw [mcp_o (by decide), f6 _ _ (by decide), f5 _ _ (by decide), f4 _ _ (by decide), f3 _ _ (by decide), f2 _ _ (by decide)]
        exact p3 i k0 k1
    · rcases k with rfl | rfl
      · rw [mcp_o (by decide), f6 _ _ (by decide), f5 _ _ (by decide), f4 _ _ (by decide), f3 _ _ (by decide), ← f1 _ _ (by decide)]
        exact q1
      · rw [mcp_o (by decide), f6 _ _ (by decide), f5 _ _ (by decide), f4 _ _ (by decide), f3 _ _ (by decide), ← f1 _ _ (by decide)]
        exact q2
    · rcases (by omega : o = 29 ∨ o = 30 ∨ o = 31 ∨ o = 32) with rfl | rfl | rfl | rfl
      · rw [mcp_o (by decide), f6 _ _ (by decide), f5 _ _ (by decide), f4 _ _ (by decide), f3 _ _ (by decide), ← f1 _ _ (by decide)]
        exact q3 1 i (by decide) (by decide) k0 k1
      · rw [mcp_o (by decide), f6 _ _ (by decide), f5 _ _ (by decide), f4 _ _ (by decide), f3 _ _ (by decide), ← f1 _ _ (by decide)]
        exact q3 2 i (by decide) (by decide) k0 k1
      · rw [mcp_o (by decide), f6 _ _ (by decide), f5 _ _ (by decide), f4 _ _ (by decide), f3 _ _ (by decide), ← f1 _ _ (by decide)]
        exact q3 3 i (by decide) (by decide) k0 k1
      · rw [mcp_o (by decide), f6 _ _ (by decide), f5 _ _ (by decide), f4 _ _ (by decide), f3 _ _ (by decide), ← f1 _ _ (by decide)]
        exact q3 4 i (by decide) (by decide) k0 k1
    · rw [mcp_o (by decide), f6 _ _ (by decide), f5 _ _ (by decide), f4 _ _ (by decide), f3 _ _ (by decide), ← f1 _ _ (by decide)]
      exact q4 i k0 k1
    · rcases k with rfl | rfl | rfl
      · rw [mcp_o (by decide), f6 _ _ (by decide), f5 _ _ (by decide), f4 _ _ (by decide), ← f1 _ _ (by decide), ← f2 _ _ (by decide)]
        exact r1
      · rw [mcp_o (by decide), f6 _ _ (by decide), f5 _ _ (by decide), ← f1 _ _ (by decide), ← f2 _ _ (by decide), ← f3 _ _ (by decide)]
        exact t1
      · rw [mcp_o (by decide), f6 _ _ (by decide), ← f1 _ _ (by decide), ← f2 _ _ (by decide), ← f3 _ _ (by decide), ← f4 _ _ (by decide)]
        exact u1
    · rcases k with rfl | rfl | rfl | rfl
      · rw [mcp_o (by decide), f6 _ _ (by decide), f5 _ _ (by decide), f4 _ _ (by decide), ← f1 _ _ (by decide), ← f2 _ _ (by decide)]
        exact r2 i k0 k1
      · rw [mcp_o (by decide), f6 _ _ (by decide), f5 _ _ (by decide), f4 _ _ (by decide), ← f1 _ _ (by decide), ← f2 _ _ (by decide)]
        exact r3 i k0 k1
      · rw [mcp_o (by decide), f6 _ _ (by decide), f5 _ _ (by decide), ← f1 _ _ (by decide), ← f2 _ _ (by decide), ← f3 _ _ (by decide)]
        exact t2 i k0 k1
      · rw [mcp_o (by decide), f6 _ _ (by decide), f5 _ _ (by decide), ← f1 _ _ (by decide), ← f2 _ _ (by decide), ← f3 _ _ (by decide)]
        exact t3 i k0 k1
    · rcases k with rfl | rfl
      · rw [mcp_o (by decide), f6 _ _ (by decide), f5 _ _ (by decide), f4 _ _ (by decide), ← f1 _ _ (by decide), ← f2 _ _ (by decide)]
        exact r4 i k0 k1
      · rw [mcp_o (by decide), f6 _ _ (by decide), f5 _ _ (by decide), ← f1 _ _ (by decide), ← f2 _ _ (by decide), ← f3 _ _ (by decide)]
        exact t4 i k0 k1
    · rcases (by omega : o = 45 ∨ o = 46 ∨ o = 47 ∨ o = 48) with rfl | rfl | rfl | rfl
      · rw [mcp_o (by decide), f6 _ _ (by decide), ← f1 _ _ (by decide), ← f2 _ _ (by decide), ← f3 _ _ (by decide), ← f4 _ _ (by decide)]
        exact u2 1 i (by decide) (by decide) k0 k1
      · rw [mcp_o (by decide), f6 _ _ (by decide), ← f1 _ _ (by decide), ← f2 _ _ (by decide), ← f3 _ _ (by decide), ← f4 _ _ (by decide)]
        exact u2 2 i (by decide) (by decide) k0 k1
      · rw [mcp_o (by decide), f6 _ _ (by decide), ← f1 _ _ (by decide), ← f2 _ _ (by decide), ← f3 _ _ (by decide), ← f4 _ _ (by decide)]
        exact u2 3 i (by decide) (by decide) k0 k1
      · rw [mcp_o (by decide), f6 _ _ (by decide), ← f1 _ _ (by decide), ← f2 _ _ (by decide), ← f3 _ _ (by decide), ← f4 _ _ (by decide)]
        exact u2 4 i (by decide) (by decide) k0 k1
    · rw [mcp_o (by decide), ← f1 _ _ (by decide), ← f2 _ _ (by decide), ← f3 _ _ (by decide), ← f4 _ _ (by decide), ← f5 _ _ (by decide)]
      exact w1
    · rw [mcp_o (by decide), ← f1 _ _ (by decide), ← f2 _ _ (by decide), ← f3 _ _ (by decide), ← f4 _ _ (by decide), ← f5 _ _ (by decide)]
      exact w2
    · rw [mcp_o (by decide), ← f1 _ _ (by decide), ← f2 _ _ (by decide), ← f3 _ _ (by decide), ← f4 _ _ (by decide), ← f5 _ _ (by decide)]
      exact w3 i k0 k1
    · rw [mcp_o (by decide), ← f1 _ _ (by decide), ← f2 _ _ (by decide), ← f3 _ _ (by decide), ← f4 _ _ (by decide), ← f5 _ _ (by decide)]
      exact w4 i k0 k1
    · rw [mcp_o (by decide), ← f1 _ _ (by decide), ← f2 _ _ (by decide), ← f3 _ _ (by decide), ← f4 _ _ (by decide), ← f5 _ _ (by decide)]
      exact w5 i k0 k1
    · rw [mcp_o (by decide), ← f1 _ _ (by decide), ← f2 _ _ (by decide), ← f3 _ _ (by decide), ← f4 _ _ (by decide), ← f5 _ _ (by decide)]
      exact w6 i k0 k1
    · refine (mcp_0 k0 k1).trans ?_
      rw [f6 _ _ (by decide), f5 _ _ (by decide), f4 _ _ (by decide), f3 _ _ (by decide), f2 _ _ (by decide), f1 _ _ (by decide)]
end S49
