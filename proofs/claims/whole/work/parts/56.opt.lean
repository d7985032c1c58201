/-! call by call: what is told for thought -/
section S40
variable {E : En} {d : Nat} {μ μ' μ'' : Mm} {f : Int → Mm → Prop}
theorem Sh.row (h : Sh μ μ) (eT : Ep (fun o i => o = 51 ∨ (o = 50 ∧ i = 1) ∨ o = 146 ∨ (o = 123 ∧ (i = 0 ∨ i = 42))) μ μ') (hN : ∃ n f, RW μ' n f ∧ RM μ' n f) : Sh μ' μ' := by
  obtain ⟨⟨K, k1, k2, k3⟩, ⟨s, s1, s2, s3, s4⟩, h3, ⟨n, f, r1, r2⟩, ⟨q, q1, q2⟩, ⟨c, g0, g1, g2⟩, v, v1, v2⟩ := h
  have g : ∀ (o : Nat) (i : Int), ¬ (o = 51 ∨ (o = 50 ∧ i = 1) ∨ o = 146 ∨ (o = 123 ∧ (i = 0 ∨ i = 42))) → μ' o i = μ o i := fun o i hn => eT o i hn
  exact ⟨⟨K, k1, k2.ep eT (fun o i a b c hn => by omega), k3.cg k1 (fun o i k => g o i (by unfold kmS at k; omega))⟩, ⟨s, s1, by rw [g 36 0 (by omega)]; exact s2, s3.cg (fun k i hk => g _ _ (by omega)), s4.cg (fun i i0 i1 => g _ _ (by omega))⟩, fun i i0 i1 => by rw [g 58 i (by omega), g 127 i (by omega)]; exact h3 i i0 i1, hN, ⟨q, q1.cg (fun i => g _ _ (by omega)), q2.cg (fun i i0 i1 => g _ _ (by omega))⟩, ⟨c, g0, g1.cg (fun i => g _ _ (by omega)) (g _ _ (by omega)), g2.cg (fun i i0 i1 => g _ _ (by omega)) (g _ _ (by omega))⟩, ⟨v, v1.cg (fun i => g _ _ (by omega)), v2.cg (fun i i0 i1 => g _ _ (by omega))⟩⟩
theorem Sh.plc (h : Sh μ μ) (eT : Ep (fun o i => o = 55 ∨ o = 147 ∨ (o = 123 ∧ i = 0)) μ μ') (hN : ∃ q, PW μ' q ∧ PM μ' q) : Sh μ' μ' := by
  obtain ⟨⟨K, k1, k2, k3⟩, ⟨s, s1, s2, s3, s4⟩, h3, ⟨n, f, r1, r2⟩, ⟨q, q1, q2⟩, ⟨c, g0, g1, g2⟩, v, v1, v2⟩ := h
  have g : ∀ (o : Nat) (i : Int), ¬ (o = 55 ∨ o = 147 ∨ (o = 123 ∧ i = 0)) → μ' o i = μ o i := fun o i hn => eT o i hn
  exact ⟨⟨K, k1, k2.ep eT (fun o i a b c hn => by omega), k3.cg k1 (fun o i k => g o i (by unfold kmS at k; omega))⟩, ⟨s, s1, by rw [g 36 0 (by omega)]; exact s2, s3.cg (fun k i hk => g _ _ (by omega)), s4.cg (fun i i0 i1 => g _ _ (by omega))⟩, fun i i0 i1 => by rw [g 58 i (by omega), g 127 i (by omega)]; exact h3 i i0 i1, ⟨n, f, r1.cg (fun i => g _ _ (by omega)) (g _ _ (by omega)), r2.cg (fun i i0 i1 => g _ _ (by omega)) (g _ _ (by omega))⟩, hN, ⟨c, g0, g1.cg (fun i => g _ _ (by omega)) (g _ _ (by omega)), g2.cg (fun i i0 i1 => g _ _ (by omega)) (g _ _ (by omega))⟩, ⟨v, v1.cg (fun i => g _ _ (by omega)), v2.cg (fun i i0 i1 => g _ _ (by omega))⟩⟩
theorem Sh.sgn (h : Sh μ μ) (eT : Ep (fun o i => o = 56 ∨ (o = 49 ∧ i = 3) ∨ o = 149 ∨ (o = 123 ∧ (i = 0 ∨ i = 46))) μ μ') (hN : ∃ c g, SW μ' c g ∧ SM μ' c g) : Sh μ' μ' := by
  obtain ⟨⟨K, k1, k2, k3⟩, ⟨s, s1, s2, s3, s4⟩, h3, ⟨n, f, r1, r2⟩, ⟨q, q1, q2⟩, ⟨c, g0, g1, g2⟩, v, v1, v2⟩ := h
  have g : ∀ (o : Nat) (i : Int), ¬ (o = 56 ∨ (o = 49 ∧ i = 3) ∨ o = 149 ∨ (o = 123 ∧ (i = 0 ∨ i = 46))) → μ' o i = μ o i := fun o i hn => eT o i hn
  exact ⟨⟨K, k1, k2.ep eT (fun o i a b c hn => by omega), k3.cg k1 (fun o i k => g o i (by unfold kmS at k; omega))⟩, ⟨s, s1, by rw [g 36 0 (by omega)]; exact s2, s3.cg (fun k i hk => g _ _ (by omega)), s4.cg (fun i i0 i1 => g _ _ (by omega))⟩, fun i i0 i1 => by rw [g 58 i (by omega), g 127 i (by omega)]; exact h3 i i0 i1, ⟨n, f, r1.cg (fun i => g _ _ (by omega)) (g _ _ (by omega)), r2.cg (fun i i0 i1 => g _ _ (by omega)) (g _ _ (by omega))⟩, ⟨q, q1.cg (fun i => g _ _ (by omega)), q2.cg (fun i i0 i1 => g _ _ (by omega))⟩, hN, ⟨v, v1.cg (fun i => g _ _ (by omega)), v2.cg (fun i i0 i1 => g _ _ (by omega))⟩⟩
theorem Sh.val (h : Sh μ μ) (eT : Ep (fun o i => o = 57 ∨ o = 155 ∨ (o = 123 ∧ i = 0)) μ μ') (hN : ∃ v, VW μ' v ∧ VM μ' v) : Sh μ' μ' := by
  obtain ⟨⟨K, k1, k2, k3⟩, ⟨s, s1, s2, s3, s4⟩, h3, ⟨n, f, r1, r2⟩, ⟨q, q1, q2⟩, ⟨c, g0, g1, g2⟩, v, v1, v2⟩ := h
  have g : ∀ (o : Nat) (i : Int), ¬ (o = 57 ∨ o = 155 ∨ (o = 123 ∧ i = 0)) → μ' o i = μ o i := fun o i hn => eT o i hn
  exact ⟨⟨K, k1, k2.ep eT (fun o i a b c hn => by omega), k3.cg k1 (fun o i k => g o i (by unfold kmS at k; omega))⟩, ⟨s, s1, by rw [g 36 0 (by omega)]; exact s2, s3.cg (fun k i hk => g _ _ (by omega)), s4.cg (fun i i0 i1 => g _ _ (by omega))⟩, fun i i0 i1 => by rw [g 58 i (by omega), g 127 i (by omega)]; exact h3 i i0 i1, ⟨n, f, r1.cg (fun i => g _ _ (by omega)) (g _ _ (by omega)), r2.cg (fun i i0 i1 => g _ _ (by omega)) (g _ _ (by omega))⟩, ⟨q, q1.cg (fun i => g _ _ (by omega)), q2.cg (fun i i0 i1 => g _ _ (by omega))⟩, ⟨c, g0, g1.cg (fun i => g _ _ (by omega)) (g _ _ (by omega)), g2.cg (fun i i0 i1 => g _ _ (by omega)) (g _ _ (by omega))⟩, hN⟩
theorem Sh.sta (h : Sh μ μ) (eT : Ep (fun o i => o = 25 ∨ o = 26 ∨ o = 27 ∨ o = 124 ∨ (o = 100 ∧ (i = 1 ∨ i = 2)) ∨ (o = 123 ∧ (i = 0 ∨ i = 3)) ∨ o = 62 ∨ o = 63 ∨ o = 64 ∨ o = 35 ∨ o = 23 ∨ (142 ≤ o ∧ o ≤ 145) ∨ (102 ≤ o ∧ o < 120) ∨ o = 125) μ μ') (hN : ∃ s, StB s ∧ DP (μ' 36 0) s ∧ StW μ' 25 s ∧ StM μ' 124 0 s) : Sh μ' μ' := by
  obtain ⟨⟨K, k1, k2, k3⟩, ⟨s, s1, s2, s3, s4⟩, h3, ⟨n, f, r1, r2⟩, ⟨q, q1, q2⟩, ⟨c, g0, g1, g2⟩, v, v1, v2⟩ := h
  have g : ∀ (o : Nat) (i : Int), ¬ (o = 25 ∨ o = 26 ∨ o = 27 ∨ o = 124 ∨ (o = 100 ∧ (i = 1 ∨ i = 2)) ∨ (o = 123 ∧ (i = 0 ∨ i = 3)) ∨ o = 62 ∨ o = 63 ∨ o = 64 ∨ o = 35 ∨ o = 23 ∨ (142 ≤ o ∧ o ≤ 145) ∨ (102 ≤ o ∧ o < 120) ∨ o = 125) → μ' o i = μ o i := fun o i hn => eT o i hn
  exact ⟨⟨K, k1, k2.ep eT (fun o i a b c hn => by omega), k3.cg k1 (fun o i k => g o i (by unfold kmS at k; omega))⟩, hN, fun i i0 i1 => by rw [g 58 i (by omega), g 127 i (by omega)]; exact h3 i i0 i1, ⟨n, f, r1.cg (fun i => g _ _ (by omega)) (g _ _ (by omega)), r2.cg (fun i i0 i1 => g _ _ (by omega)) (g _ _ (by omega))⟩, ⟨q, q1.cg (fun i => g _ _ (by omega)), q2.cg (fun i i0 i1 => g _ _ (by omega))⟩, ⟨c, g0, g1.cg (fun i => g _ _ (by omega)) (g _ _ (by omega)), g2.cg (fun i i0 i1 => g _ _ (by omega)) (g _ _ (by omega))⟩, ⟨v, v1.cg (fun i => g _ _ (by omega)), v2.cg (fun i i0 i1 => g _ _ (by omega))⟩⟩
theorem Inv.s1 (hI : Inv μ) (e : Cg [0, 1] μ μ') (e36 : μ' 36 0 = μ 36 0) (h : Sh μ' μ') : Inv μ' := ⟨h, hI.2.1.cs e (by decide) e36, hI.2.2.1.cs e (by decide), hI.2.2.2.1.cs e (by decide), hI.2.2.2.2.1.cs e (by decide), hI.2.2.2.2.2.1.cs e (by decide), hI.2.2.2.2.2.2.cs e (by decide)⟩
theorem Inv.s12 (hI : Inv μ) (e : Cg [0, 1, 2] μ μ') (h : Sh μ' μ') (h2 : Pt μ') : Inv μ' := ⟨h, h2, hI.2.2.1.cs e (by decide), hI.2.2.2.1.cs e (by decide), hI.2.2.2.2.1.cs e (by decide), hI.2.2.2.2.2.1.cs e (by decide), hI.2.2.2.2.2.2.cs e (by decide)⟩
theorem m01 {o : Nat} {i : Int} (h : cnt o i = 0 ∨ cnt o i = 1) : cnt o i ∈ [0, 1] := by rcases h with h | h <;> rw [h] <;> decide
theorem c0i {a i : Int} {k : Nat} : cnt0 i a k = 0 ∨ cnt0 i a k = k := by
  unfold cnt0
  split
  · exact Or.inr rfl
  · exact Or.inl rfl
theorem row_c {o : Nat} {i : Int} (h : o = 51 ∨ (o = 50 ∧ i = 1) ∨ o = 146 ∨ (o = 123 ∧ (i = 0 ∨ i = 42))) : cnt o i ∈ [0, 1] := by
  rcases h with rfl | ⟨rfl, rfl⟩ | rfl | ⟨rfl, rfl | rfl⟩
  · exact m01 (Or.inr rfl)
  · exact m01 (Or.inr rfl)
  · exact m01 c0i
  · exact m01 (Or.inl rfl)
  · exact m01 (Or.inr rfl)
theorem plc_c {o : Nat} {i : Int} (h : o = 55 ∨ o = 147 ∨ (o = 123 ∧ i = 0)) : cnt o i ∈ [0, 1] := by
  rcases h with rfl | rfl | ⟨rfl, rfl⟩
  · exact m01 (Or.inr rfl)
  · exact m01 c0i
  · exact m01 (Or.inl rfl)
theorem sgn_c {o : Nat} {i : Int} (h : o = 56 ∨ (o = 49 ∧ i = 3) ∨ o = 149 ∨ (o = 123 ∧ (i = 0 ∨ i = 46))) : cnt o i ∈ [0, 1] := by
  rcases h with rfl | ⟨rfl, rfl⟩ | rfl | ⟨rfl, rfl | rfl⟩
  · exact m01 (Or.inr rfl)
  · exact m01 (Or.inr rfl)
  · exact m01 c0i
  · exact m01 (Or.inl rfl)
  · exact m01 (Or.inr rfl)
theorem val_c {o : Nat} {i : Int} (h : o = 57 ∨ o = 155 ∨ (o = 123 ∧ i = 0)) : cnt o i ∈ [0, 1] := by
  rcases h with rfl | rfl | ⟨rfl, rfl⟩
  · exact m01 (Or.inr rfl)
  · exact m01 c0i
  · exact m01 (Or.inl rfl)
theorem o14 {a b c : Int} (hd : 20 ≤ d) (ha : inR a) (hb : inR b) (hc : inR c) (hI : Inv μ) : OP E d 127 242 [.inl a, .inl b, .inl c] μ := by
  obtain ⟨q, q1, q2⟩ := hI.1.2.2.2.2.1
  refine s127 (by omega) ha hb hc q1 (fun k => ?_) (fun k μ1 h1 hq => ?_)
  · exact s242 (by omega) ha hb hc q2 (fun _ => ⟨rfl, hI.sc sc0⟩) (fun k2 => absurd k2 k)
  · refine s242 (by omega) ha hb hc (q2.cg (fun i _ _ => h1 _ _ (by simp))) (fun k2 => absurd k k2) (fun _ μ2 h2 hq2 => ⟨rfl, ?_⟩)
    have hE : Ep (fun o i => o = 55 ∨ o = 147 ∨ (o = 123 ∧ i = 0)) μ μ2 := (h1.mono (fun o i k => Or.inl k)).tr (h2.mono (fun o i k => Or.inr k))
    exact hI.s1 (hE.cg (fun o i k => plc_c k)) (hE _ _ (by simp)) (hI.1.plc hE ⟨_, hq.cg (fun i => h2 _ _ (by simp)), hq2⟩)
theorem o27 {a b : Int} (hd : 20 ≤ d) (ha : inR a) (hb : inR b) (hI : Inv μ) : OP E d 146 274 [.inl a, .inl b] μ := by
  obtain ⟨q, q1, q2⟩ := hI.1.2.2.2.2.2.2
  refine s146 (by omega) ha hb q1 (fun k => ?_) (fun k μ1 h1 hq => ?_)
  · exact s274 (by omega) ha hb q2 (fun _ => ⟨rfl, hI.sc sc0⟩) (fun k2 => absurd k2 k)
  · refine s274 (by omega) ha hb (q2.cg (fun i _ _ => h1 _ _ (by simp))) (fun k2 => absurd k k2) (fun _ μ2 h2 hq2 => ⟨rfl, ?_⟩)
    have hE : Ep (fun o i => o = 57 ∨ o = 155 ∨ (o = 123 ∧ i = 0)) μ μ2 := (h1.mono (fun o i k => Or.inl k)).tr (h2.mono (fun o i k => Or.inr k))
    exact hI.s1 (hE.cg (fun o i k => val_c k)) (hE _ _ (by simp)) (hI.1.val hE ⟨_, hq.cg (fun i => h2 _ _ (by simp)), hq2⟩)
theorem o15 {a : Int} (hd : 20 ≤ d) (ha : inR a) (hI : Inv μ) : OP E d 128 243 [.inl a] μ := by
  obtain ⟨n, f, r1, r2⟩ := hI.1.2.2.2.1
  have fr : ∀ {μ1 : Mm}, Ep (fun o i => o = 51 ∨ (o = 50 ∧ i = 1)) μ μ1 → RM μ1 n f := fun h1 => r2.cg (fun i _ _ => h1 _ _ (by simp)) (h1 _ _ (by simp))
  have fin : ∀ {μ1 μ2 : Mm} {n' : Int} {f' : Int → Int}, Ep (fun o i => o = 51 ∨ (o = 50 ∧ i = 1)) μ μ1 → RW μ1 n' f' → Ep (fun o i => o = 146 ∨ (o = 123 ∧ (i = 0 ∨ i = 42))) μ1 μ2 → RM μ2 n' f' → Inv μ2 := fun h1 hr h2 hr2 => by
    have hE : Ep (fun o i => o = 51 ∨ (o = 50 ∧ i = 1) ∨ o = 146 ∨ (o = 123 ∧ (i = 0 ∨ i = 42))) μ _ := (h1.mono (fun o i k => by omega)).tr (h2.mono (fun o i k => by omega))
    exact hI.s1 (hE.cg (fun o i k => row_c k)) (hE _ _ (by simp)) (hI.1.row hE ⟨_, _, hr.cg (fun i => h2 _ _ (by simp)) (h2 _ _ (by simp)), hr2⟩)
  have hle : leO n a → a ≠ -1 := fun k => by unfold leO at k; omega
  refine s128 (by omega) ha r1 (fun k μ1 h1 hr => ?_) (fun k k2 => ?_) (fun k μ1 h1 hr => ?_)
  · exact s243 (by omega) ha (fr h1) (fun _ μ2 h2 hr2 => ⟨rfl, fin h1 hr h2 hr2⟩) (fun k3 => absurd k k3) (fun k3 => absurd k (hle k3))
  · exact s243 (by omega) ha r2 (fun k3 => absurd k3 k) (fun _ _ => ⟨rfl, hI.sc sc0⟩) (fun k3 => absurd k3 k2)
  · exact s243 (by omega) ha (fr h1) (fun k3 => absurd k3 (hle k)) (fun _ k3 => absurd k k3) (fun _ μ2 h2 hr2 => ⟨rfl, fin h1 hr h2 hr2⟩)
theorem o18 {a : Int} (hd : 20 ≤ d) (ha : inR a) (hI : Inv μ) : OP E d 131 247 [.inl a] μ := by
  obtain ⟨n, f, r1, r2⟩ := hI.1.2.2.2.2.2.1
  have fr : ∀ {μ1 : Mm}, Ep (fun o i => o = 56 ∨ (o = 49 ∧ i = 3)) μ μ1 → SM μ1 n f := fun h1 => r2.cg (fun i _ _ => h1 _ _ (by simp)) (h1 _ _ (by simp))
  have fin : ∀ {μ1 μ2 : Mm} {n' : Int} {f' : Int → Int}, Ep (fun o i => o = 56 ∨ (o = 49 ∧ i = 3)) μ μ1 → SW μ1 n' f' → Ep (fun o i => o = 149 ∨ (o = 123 ∧ (i = 0 ∨ i = 46))) μ1 μ2 → SM μ2 n' f' → Inv μ2 := fun h1 hr h2 hr2 => by
    have hE : Ep (fun o i => o = 56 ∨ (o = 49 ∧ i = 3) ∨ o = 149 ∨ (o = 123 ∧ (i = 0 ∨ i = 46))) μ _ := (h1.mono (fun o i k => by omega)).tr (h2.mono (fun o i k => by omega))
    exact hI.s1 (hE.cg (fun o i k => sgn_c k)) (hE _ _ (by simp)) (hI.1.sgn hE ⟨_, _, hr.cg (fun i => h2 _ _ (by simp)) (h2 _ _ (by simp)), hr2⟩)
  have hle : siO n a → a ≠ -1 := fun k => by unfold siO at k; omega
  refine s131 (by omega) ha r1 (fun k μ1 h1 hr => ?_) (fun k k2 => ?_) (fun k μ1 h1 hr => ?_)
  · exact s247 (by omega) ha (fr h1) (fun _ μ2 h2 hr2 => ⟨rfl, fin h1 hr h2 hr2⟩) (fun k3 => absurd k k3) (fun k3 => absurd k (hle k3))
  · exact s247 (by omega) ha r2 (fun k3 => absurd k3 k) (fun _ _ => ⟨rfl, hI.sc sc0⟩) (fun k3 => absurd k3 k2)
  · exact s247 (by omega) ha (fr h1) (fun k3 => absurd k3 (hle k)) (fun _ k3 => absurd k k3) (fun _ μ2 h2 hr2 => ⟨rfl, fin h1 hr h2 hr2⟩)
end S40
