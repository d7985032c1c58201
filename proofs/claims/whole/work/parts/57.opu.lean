/-! call by call: state, set, end, feed, fault, undo, look -/
section S41
variable {E : En} {d : Nat} {μ μ' μ'' : Mm} {Φ : Option AV → Mm → Prop} {n a : Int} {T s : Int → Int}
theorem Pt.zero (h : Pt μ) (e : Ep (fun o i => ¬ ((o = 100 ∧ i = 1) ∨ (102 ≤ o ∧ o < 120))) μ μ') (h1 : μ' 100 2 = 0) (h2 : μ' 123 3 = 0) : Pt μ' := by
  obtain ⟨u, nx, R, q1, q2, q3⟩ := h
  exact ⟨0, nx, R, ⟨h1, by rw [e 100 1 (fun hn => hn (Or.inl ⟨rfl, rfl⟩))]; exact q1.2.1, by omega, q1.2.2.2.1, fun j hj => absurd hj (Nat.not_lt_zero _)⟩, ⟨h2, fun j hj => absurd hj (Nat.not_lt_zero _)⟩, fun j hj => absurd hj (Nat.not_lt_zero _)⟩
theorem m012 {o : Nat} {i : Int} (h : cnt o i = 0 ∨ cnt o i = 1 ∨ cnt o i = 2) : cnt o i ∈ [0, 1, 2] := by rcases h with h | h | h <;> rw [h] <;> decide
theorem o0 {a : Int} (hd : 20 ≤ d) (hI : Inv μ) : OP E d 111 163 [.inl a] μ := by
  obtain ⟨s, s1, s2, s3, s4⟩ := hI.1.2.1
  refine v111 (by omega) (s20 (by omega) (v163 (by omega) ?_))
  have hE : Ep (fun o i => (o = 25 ∧ i = 8) ∨ (o = 100 ∧ i = 2) ∨ (o = 123 ∧ (i = 0 ∨ i = 3)) ∨ (o = 124 ∧ i = 1)) μ (mu (mu (mu (mu (mu μ 25 8 a) 100 2 0) 123 0 0) 124 1 a) 123 3 0) := ((((Ep.rf.mu (by omega)).mu (by omega)).mu (by omega)).mu (by omega)).mu (by omega)
  refine ⟨?_, hI.s12 (hE.cg (fun o i k => ?_)) (hI.1.sta (hE.mono (fun o i k => by omega)) ⟨ud s 1 a, stb_ud s1 (fun e => by omega) (fun e => by omega) (fun e => by omega) (fun e => by omega) (fun e _ => by omega), ⟨by rw [ud_n (by decide)]; exact s2.1, by rw [ud_n (by decide), hE 36 0 (by omega)]; exact s2.2⟩, ?_, ?_⟩) (hI.2.1.zero (hE.mono (fun o i k => by omega)) ?_ ?_)⟩
  · rw [mu_o (by decide), mu_o (by decide), s3.2.1]
    exact (s4.at (by omega) (by omega)).symm
  · rcases k with ⟨rfl, rfl⟩ | ⟨rfl, rfl⟩ | ⟨rfl, rfl | rfl⟩ | ⟨rfl, rfl⟩ <;> decide
  · exact (s3.fl (k := 8) (i := 1) (v := a) (w := a) (by simp)).cg (fun k i hk => by rw [mu_o (by omega), mu_o (by omega), mu_o (by omega), mu_o (by omega)])
  · refine StM.cg (ν := mu (mu (mu (mu μ 25 8 a) 100 2 0) 123 0 0) 124 1 a) (StM.mu (s4.cg (fun i _ _ => by rw [mu_o (by decide), mu_o (by decide), mu_o (by decide)]))) (fun i _ _ => by rw [mu_o (by decide)])
  · rw [mu_o (by decide), mu_o (by decide), mu_o (by decide), mu_s]
  · exact mu_s _ _ _ _
/-- how things stand is told anew -/
theorem Inv.set {k i v w : Int} {o2 : Nat} {k2 : Int} (hI : Inv μ) (hw : (o2 = 25 ∧ k2 = 3 ∧ i = 3 ∧ w = v + 5) ∨ (o2 = 26 ∧ 0 ≤ k2 ∧ k2 < 10 ∧ i = 8 + k2 ∧ w = v)) (hv : ∀ s, StB s → StB (ud s i v)) : Inv (mu (mu (mu (mu (mu μ o2 k2 w) 100 2 0) 123 0 0) 124 i v) 123 3 0) := by
  obtain ⟨s, s1, s2, s3, s4⟩ := hI.1.2.1
  have hE : Ep (fun o j => o = 25 ∨ o = 26 ∨ (o = 100 ∧ j = 2) ∨ (o = 123 ∧ (j = 0 ∨ j = 3)) ∨ o = 124) μ (mu (mu (mu (mu (mu μ o2 k2 w) 100 2 0) 123 0 0) 124 i v) 123 3 0) := ((((Ep.rf.mu (by omega)).mu (by omega)).mu (by omega)).mu (by omega)).mu (by omega)
  refine hI.s12 (hE.cg (fun o i k => ?_)) (hI.1.sta (hE.mono (fun o i k => by omega)) ⟨ud s i v, hv s s1, ⟨by rw [ud_n (by omega)]; exact s2.1, by rw [ud_n (by omega), hE 36 0 (by omega)]; exact s2.2⟩, ?_, ?_⟩) (hI.2.1.zero (hE.mono (fun o i k => by omega)) ?_ ?_)
  · rcases k with rfl | rfl | ⟨rfl, rfl⟩ | ⟨rfl, rfl | rfl⟩ | rfl
    · exact m012 (Or.inr (Or.inl rfl))
    · exact m012 (Or.inr (Or.inl rfl))
    · decide
    · decide
    · decide
    · rcases c0i (a := 28) (i := i) (k := 1) with h | h
      · exact m012 (Or.inl h)
      · exact m012 (Or.inr (Or.inl h))
  · have : StW (mu μ o2 k2 w) 25 (ud s i v) := by
      rcases hw with ⟨rfl, rfl, rfl, rfl⟩ | ⟨rfl, g0, g1, rfl, rfl⟩
      · exact s3.fl (by simp)
      · exact s3.a1 g0 g1
    exact this.cg (fun k i hk => by rw [mu_o (by omega), mu_o (by omega), mu_o (by omega), mu_o (by omega)])
  · refine StM.cg (ν := mu (mu (mu (mu μ o2 k2 w) 100 2 0) 123 0 0) 124 i v) (StM.mu (s4.cg (fun i _ _ => by rw [mu_o (by decide), mu_o (by decide), mu_o (by omega)]))) (fun i _ _ => by rw [mu_o (by decide)])
  · rw [mu_o (by decide), mu_o (by decide), mu_o (by decide), mu_s]
  · exact mu_s _ _ _ _
def setO (a b c : Int) : Prop := (a = 0 ∧ 0 ≤ b ∧ b < 10 ∧ 0 ≤ c ∧ c ≤ 99) ∨ (a = 1 ∧ 0 ≤ c ∧ c ≤ 9)
theorem s112 {a b c : Int} (hd : 2 ≤ d) (ha : inR a) (hb : inR b) (hc : inR c) (hn : ¬ setO a b c → Φ (some (.inl 0)) μ) (h0 : setO a b c → a = 0 → Φ (some (.inl 1)) (mu (mu μ 26 b c) 100 2 0)) (h1 : setO a b c → a = 1 → Φ (some (.inl 1)) (mu (mu μ 25 3 c) 100 2 0)) : Ct E d 112 [.inr 0, .inl a, .inl b, .inl c] μ Φ := by
  unfold setO at *
  refine v112 (by omega) ⟨ha, fun k => ⟨ha, fun k2 => hn (by omega), fun k2 => ⟨hc, fun k3 => hn (by omega), fun k3 => ⟨hc, fun k4 => hn (by omega), fun k4 => s20 (by omega) (h1 (by omega) k2)⟩⟩⟩, fun k => s152 (by omega) hb ⟨b2_in _, fun k2 => ⟨ha, fun _ => hn (by have := b2_0.mp k2; omega), fun k3 => by omega⟩, fun k2 => ⟨hc, fun k3 => ⟨ha, fun _ => hn (by omega), fun k4 => by omega⟩, fun k3 => ⟨hc, fun k4 => ⟨ha, fun _ => hn (by omega), fun k5 => by omega⟩, fun k4 => ?_⟩⟩⟩⟩
  have k2 := b2_ne0.mp k2
  exact ⟨k2, s20 (by omega) (h0 (by omega) k)⟩
theorem s167 {a b c : Int} (hd : 2 ≤ d) (ha : inR a) (hb : inR b) (hc : inR c) (hn : ¬ setO a b c → Φ (some (.inl 0)) (mu μ 123 0 0)) (h0 : setO a b c → a = 0 → Φ (some (.inl 1)) (mu (mu (mu μ 123 0 0) 124 (8 + b) c) 123 3 0)) (h1 : setO a b c → a = 1 → Φ (some (.inl 1)) (mu (mu (mu μ 123 0 0) 124 3 (c - 5)) 123 3 0)) : Ct E d 167 [.inr 123, .inl a, .inl b, .inl c] μ Φ := by
  unfold setO at *
  have k0 : inR (0 : Int) := inR_of (by omega) (by omega)
  refine v167 (by omega) ⟨ha, fun k => ⟨ha, fun k2 => hn (by omega), fun k2 => s153 (by omega) hc k0 (inR_of (by omega) (by omega)) ⟨b2_in _, fun k3 => hn (by have := b2_0.mp k3; omega), fun k3 => ⟨ha, fun _ => ?_, fun k4 => by omega⟩⟩⟩, fun k => s166 (by omega) hb ⟨b2_in _, fun k2 => hn (by have := b2_0.mp k2; omega), fun k2 => s153 (by omega) hc k0 (inR_of (by omega) (by omega)) ⟨b2_in _, fun k3 => hn (by have := b2_0.mp k3; omega), fun k3 => ⟨ha, fun k4 => by omega, fun _ => ?_⟩⟩⟩⟩
  · have k3 := b2_ne0.mp k3
    exact h1 (by omega) k2
  · have k2 := b2_ne0.mp k2
    have k3 := b2_ne0.mp k3
    exact ⟨by omega, h0 (by omega) k⟩
theorem o1 {a b c : Int} (hd : 20 ≤ d) (ha : inR a) (hb : inR b) (hc : inR c) (hI : Inv μ) : OP E d 112 167 [.inl a, .inl b, .inl c] μ := by
  refine s112 (by omega) ha hb hc (fun k => ?_) (fun k k2 => ?_) (fun k k2 => ?_)
  · exact s167 (by omega) ha hb hc (fun _ => ⟨rfl, hI.sc sc0⟩) (fun k2 => absurd k2 k) (fun k2 => absurd k2 k)
  · refine s167 (by omega) ha hb hc (fun k3 => absurd k k3) (fun _ _ => ⟨rfl, ?_⟩) (fun _ k3 => by omega)
    unfold setO at k
    exact hI.set (k := 0) (Or.inr ⟨rfl, by omega, by omega, rfl, rfl⟩) (fun s hs => stb_ud hs (fun e => by omega) (fun e => by omega) (fun e => by omega) (fun e => by omega) (fun _ _ => by omega))
  · refine s167 (by omega) ha hb hc (fun k3 => absurd k k3) (fun _ k3 => by omega) (fun _ _ => ⟨rfl, ?_⟩)
    unfold setO at k
    exact hI.set (k := 0) (Or.inl ⟨rfl, rfl, rfl, by omega⟩) (fun s hs => stb_ud hs (fun e => by omega) (fun e => by omega) (fun _ => by omega) (fun e => by omega) (fun e _ => by omega))
/-! the tape -/
theorem Inv.s4 (hI : Inv μ) (e : Cg [0, 4] μ μ') (h : Tp μ') : Inv μ' := ⟨hI.1.cs e (by decide), hI.2.1.cs e (by decide) (e 36 0 (by decide)), hI.2.2.1.cs e (by decide), h, hI.2.2.2.2.1.cs e (by decide), hI.2.2.2.2.2.1.cs e (by decide), hI.2.2.2.2.2.2.cs e (by decide)⟩
theorem o5 {a : Int} (hd : 20 ≤ d) (ha : inR a) (hI : Inv μ) : OP E d 117 170 [.inl a] μ := by
  obtain ⟨n, T, h1, h2, h3, h4, h5⟩ := hI.2.2.2.1
  have model : ∀ {μ1 : Mm} {z : Int}, μ1 123 8 = n → (¬ (0 ≤ a ∧ a ≤ n) → z = 0 ∧ Inv (mu μ1 123 0 0)) → (0 ≤ a ∧ a ≤ n → z = 1 ∧ Inv (mu (mu μ1 123 0 0) 123 8 a)) → Ct E d 170 [.inr 123, .inl a] μ1 (rI fun w μ2 => z = w ∧ Inv μ2) := fun e hn hy => by
    refine v170 (by omega) ?_
    rw [e]
    exact s153 (by omega) ha (inR_of (by omega) (by omega)) (inR_of (by omega) (by omega)) ⟨b2_in _, fun k => hy (b2_ne0.mp k), fun k => hn (b2_0.mp k)⟩
  refine v117 (by omega) ?_
  rw [h1]
  refine ⟨ha, fun k => model h2 (fun _ => ⟨rfl, hI.sc sc0⟩) (fun k2 => by omega), fun k => ⟨ha, inR_of (by omega) (by omega), fun k2 => ?_, fun k2 => model h2 (fun _ => ⟨rfl, hI.sc sc0⟩) (fun k2 => by omega)⟩⟩
  refine model (by rw [mu_o (by decide)]; exact h2) (fun k3 => by omega) (fun _ => ⟨rfl, hI.s4 (((Cg.rf.mu (by decide)).mu (by decide)).mu (by decide)) ⟨a, T, ?_, mu_s _ _ _ _, by omega, by omega, fun i i0 i1 => ?_⟩⟩)
  · rw [mu_o (by decide), mu_o (by decide), mu_s]
  · rw [mu_o (by decide), mu_o (by decide), mu_o (by decide), mu_o (by decide), mu_o (by decide), mu_o (by decide)]
    exact h5 i i0 (by omega)
theorem byte_b (x : Int) : 0 ≤ iAnd x 255 ∧ iAnd x 255 ≤ 255 := by
  have h : (Int32.ofInt x &&& Int32.ofInt 255).toBitVec.toNat ≤ 255 := by
    rw [Int32.toBitVec_and, BitVec.toNat_and]
    exact Nat.and_le_right
  have := i32_nat (z := Int32.ofInt x &&& Int32.ofInt 255) rfl (by omega)
  unfold iAnd
  omega
def TaW (μ : Mm) (n : Int) (T : Int → Int) : Prop := μ 1 1 = n ∧ ∀ i, 0 ≤ i → i < n → μ 2 i = T i
def TaM (μ : Mm) (n : Int) (T : Int → Int) : Prop := μ 123 8 = n ∧ ∀ i, 0 ≤ i → i < n → μ 128 i = T i
theorem st39 {x : Int} (hd : 1 ≤ d) (x0 : 0 ≤ x) (x1 : x ≤ 24) (hT : TaW μ n T) (n0 : 0 ≤ n) (n1 : n < 400) (h : ∀ μ', Ep (fun o i => o = 2 ∨ (o = 1 ∧ i = 1)) μ μ' → TaW μ' (n + 1) (ud T n (iAnd (iShr a x) 255)) → G E d 39 Φ 7 [some (.inr 1), some (.inl a), some (.inl (x + (-8)))] [] μ') : G E d 39 Φ 7 [some (.inr 1), some (.inl a), some (.inl x)] [] μ := by
  refine v39_7 hd ?_
  rw [hT.1]
  refine ⟨inR_of (by omega) (by omega), fun k => by omega, fun _ => ⟨⟨by omega, by omega⟩, h _ ((Ep.rf.mu (by omega)).mu (by omega)) ⟨mu_s _ _ _ _, fun i i0 i1 => ?_⟩⟩⟩
  rw [mu_o (by decide)]
  by_cases e : i = n
  · rw [e, mu_s, ud_s]
  · rw [mu_i e, ud_n e]; exact hT.2 i i0 (by omega)
theorem st168 {x : Int} (hd : 1 ≤ d) (x0 : 0 ≤ x) (x1 : x ≤ 24) (hT : TaM μ n T) (n0 : 0 ≤ n) (n1 : n < 400) (h : ∀ μ', Ep (fun o i => o = 128 ∨ (o = 123 ∧ i = 8)) μ μ' → TaM μ' (n + 1) (ud T n (iAnd (iShr a x) 255)) → G E d 168 Φ 2 [some (.inr 123), some (.inl a), some (.inl (x + (-8)))] [] μ') : G E d 168 Φ 2 [some (.inr 123), some (.inl a), some (.inl x)] [] μ := by
  refine v168_2 hd ?_
  rw [hT.1]
  refine ⟨inR_of (by omega) (by omega), fun k => by omega, fun _ => ⟨⟨by omega, by omega⟩, h _ ((Ep.rf.mu (by omega)).mu (by omega)) ⟨mu_s _ _ _ _, fun i i0 i1 => ?_⟩⟩⟩
  rw [mu_o (by decide)]
  by_cases e : i = n
  · rw [e, mu_s, ud_s]
  · rw [mu_i e, ud_n e]; exact hT.2 i i0 (by omega)
/-- four bytes more -/
def T4 (n a : Int) (T : Int → Int) : Int → Int := ud (ud (ud (ud T n (iAnd (iShr a 24) 255)) (n + 1) (iAnd (iShr a (24 + (-8))) 255)) (n + 1 + 1) (iAnd (iShr a (24 + (-8) + (-8))) 255)) (n + 1 + 1 + 1) (iAnd (iShr a (24 + (-8) + (-8) + (-8))) 255)
theorem s39 (hd : 2 ≤ d) (hT : TaW μ n T) (n0 : 0 ≤ n) (n1 : n + 4 ≤ 400) (h : ∀ μ', Ep (fun o i => o = 2 ∨ (o = 1 ∧ i = 1)) μ μ' → TaW μ' (n + 4) (T4 n a T) → Φ none μ') : Ct E d 39 [.inr 1, .inl a] μ Φ := by
  refine v39 (by omega) (v38 (by omega) ?_)
  rw [hT.1]
  refine ⟨inR_of (by omega) (by omega), fun k => by omega, fun _ => ⟨inR_of (by decide) (by decide), fun _ => ?_, fun k => absurd k (by decide)⟩⟩
  refine st39 (by omega) (by omega) (by omega) hT n0 (by omega) (fun μ1 e1 t1 => st39 (by omega) (by omega) (by omega) t1 (by omega) (by omega) (fun μ2 e2 t2 => st39 (by omega) (by omega) (by omega) t2 (by omega) (by omega) (fun μ3 e3 t3 => st39 (by omega) (by omega) (by omega) t3 (by omega) (by omega) (fun μ4 e4 t4 => v39_7 (by omega) ⟨inR_of (by omega) (by omega), fun _ => h μ4 (((e1.tr e2).tr e3).tr e4) ?_, fun k => by omega⟩))))
  rw [show n + 4 = n + 1 + 1 + 1 + 1 by omega]
  exact t4
theorem s168 (hd : 1 ≤ d) (hT : TaM μ n T) (n0 : 0 ≤ n) (n1 : n + 4 ≤ 400) (h : ∀ μ', Ep (fun o i => o = 128 ∨ (o = 123 ∧ i = 8)) μ μ' → TaM μ' (n + 4) (T4 n a T) → Φ none μ') : Ct E d 168 [.inr 123, .inl a] μ Φ := by
  refine v168 (by omega) (st168 (by omega) (by omega) (by omega) hT n0 (by omega) (fun μ1 e1 t1 => st168 (by omega) (by omega) (by omega) t1 (by omega) (by omega) (fun μ2 e2 t2 => st168 (by omega) (by omega) (by omega) t2 (by omega) (by omega) (fun μ3 e3 t3 => st168 (by omega) (by omega) (by omega) t3 (by omega) (by omega) (fun μ4 e4 t4 => v168_2 (by omega) ⟨inR_of (by omega) (by omega), fun _ => h μ4 (((e1.tr e2).tr e3).tr e4) ?_, fun k => by omega⟩)))))
  rw [show n + 4 = n + 1 + 1 + 1 + 1 by omega]
  exact t4
theorem ud_b {q : Int → Int} {i v j : Int} (hq : j ≠ i → 0 ≤ q j ∧ q j ≤ 255) (hv : 0 ≤ v ∧ v ≤ 255) : 0 ≤ ud q i v j ∧ ud q i v j ≤ 255 := by
  unfold ud
  split
  · exact hv
  · rename_i h; exact hq h
theorem T4_b (n0 : 0 ≤ n) (h : ∀ i, 0 ≤ i → i < n → 0 ≤ T i ∧ T i ≤ 255) : ∀ i, 0 ≤ i → i < n + 4 → 0 ≤ T4 n a T i ∧ T4 n a T i ≤ 255 := fun i i0 i1 =>
  ud_b (fun _ => ud_b (fun _ => ud_b (fun _ => ud_b (fun _ => h i i0 (by omega)) (byte_b _)) (byte_b _)) (byte_b _)) (byte_b _)
theorem o4 {a b c e f : Int} (hd : 20 ≤ d) (hI : Inv μ) : OP E d 116 169 [.inl a, .inl b, .inl c, .inl e, .inl f] μ := by
  obtain ⟨n, T, h1, h2, h3, h4, h5⟩ := hI.2.2.2.1
  have hW : TaW μ n T := ⟨h1, fun i i0 i1 => (h5 i i0 i1).1⟩
  have hM : TaM μ n T := ⟨h2, fun i i0 i1 => (h5 i i0 i1).2.1⟩
  refine v116 (by omega) (v38 (by omega) ?_)
  rw [h1]
  have kp : ∀ {ν ν' : Mm} {m : Int} {q : Int → Int}, Ep (fun o i => o = 128 ∨ (o = 123 ∧ i = 8)) ν ν' → TaW ν m q → TaW ν' m q := fun k ht => ⟨by rw [k _ _ (by simp)]; exact ht.1, fun i i0 i1 => by rw [k _ _ (by simp)]; exact ht.2 i i0 i1⟩
  have km : ∀ {ν ν' : Mm} {m : Int} {q : Int → Int}, Ep (fun o i => o = 2 ∨ (o = 1 ∧ i = 1)) ν ν' → TaM ν m q → TaM ν' m q := fun k ht => ⟨by rw [k _ _ (by simp)]; exact ht.1, fun i i0 i1 => by rw [k _ _ (by simp)]; exact ht.2 i i0 i1⟩
  have k0 : ∀ {ν : Mm} {m : Int} {q : Int → Int}, TaM ν m q → TaM (mu ν 123 0 0) m q := fun ht => ⟨by rw [mu_i (by decide)]; exact ht.1, fun i i0 i1 => by rw [mu_o (by decide)]; exact ht.2 i i0 i1⟩
  refine ⟨inR_of (by omega) (by omega), fun k => ⟨inR_of (by decide) (by decide), fun k2 => absurd rfl k2, fun _ => ?_⟩, fun k => ⟨inR_of (by decide) (by decide), fun _ => ?_, fun k2 => absurd k2 (by decide)⟩⟩
  · refine v169 (by omega) ?_
    rw [h2]
    exact ⟨inR_of (by omega) (by omega), fun k2 => by omega, fun _ => ⟨rfl, hI.sc sc0⟩⟩
  · refine s39 (by omega) hW (by omega) (by omega) (fun μ1 e1 t1 => s39 (by omega) t1 (by omega) (by omega) (fun μ2 e2 t2 => s39 (by omega) t2 (by omega) (by omega) (fun μ3 e3 t3 => s39 (by omega) t3 (by omega) (by omega) (fun μ4 e4 t4 => s39 (by omega) t4 (by omega) (by omega) (fun μ5 e5 t5 => ?_)))))
    have eW := (((e1.tr e2).tr e3).tr e4).tr e5
    have m5 := km eW hM
    have a5 : μ5 1 1 = n + 4 + 4 + 4 + 4 + 4 := t5.1
    show Ct E d 169 _ μ5 _
    refine v169 (by omega) ?_
    rw [m5.1]
    refine ⟨inR_of (by omega) (by omega), fun _ => ?_, fun k2 => by omega⟩
    refine s168 (by omega) (k0 m5) (by omega) (by omega) (fun ν1 g1 u1 => s168 (by omega) u1 (by omega) (by omega) (fun ν2 g2 u2 => s168 (by omega) u2 (by omega) (by omega) (fun ν3 g3 u3 => s168 (by omega) u3 (by omega) (by omega) (fun ν4 g4 u4 => s168 (by omega) u4 (by omega) (by omega) (fun ν5 g5 u5 => ?_)))))
    have eM := (((g1.tr g2).tr g3).tr g4).tr g5
    have t9 : TaW ν5 (n + 4 + 4 + 4 + 4 + 4) (T4 (n + 4 + 4 + 4 + 4) f (T4 (n + 4 + 4 + 4) e (T4 (n + 4 + 4) c (T4 (n + 4) b (T4 n a T))))) := kp eM ⟨by rw [mu_o (by decide)]; exact t5.1, fun i i0 i1 => by rw [mu_o (by decide)]; exact t5.2 i i0 i1⟩
    refine ⟨by rw [a5, u5.1], hI.s4 (((eW.cg (fun o i k => ?_)).mu (by decide)).tr (eM.cg (fun o i k => ?_))) ⟨_, _, t9.1, u5.1, by omega, by omega, fun i i0 i1 => ⟨t9.2 i i0 i1, u5.2 i i0 i1, ?_⟩⟩⟩
    · rcases k with rfl | ⟨rfl, rfl⟩
      · rw [show cnt 2 i = 4 from rfl]; decide
      · decide
    · rcases k with rfl | ⟨rfl, rfl⟩
      · rw [show cnt 128 i = 4 from rfl]; decide
      · decide
    · exact T4_b (by omega) (T4_b (by omega) (T4_b (by omega) (T4_b (by omega) (T4_b (by omega) (fun i i0 i1 => (h5 i i0 i1).2.2))))) i i0 i1
theorem o7 {a : Int} (hd : 20 ≤ d) (ha : inR a) (hI : Inv μ) : OP E d 119 205 [.inl a] μ := by
  obtain ⟨f1, f2⟩ := hI.2.2.2.2.1
  have i0 := hI.sc (sc0 (v := 0))
  refine v119 (by omega) ⟨ha, fun k => ?_, fun k => ?_, fun k k2 => ?_⟩
  · exact v205 (by omega) ⟨ha, fun k2 => absurd k k2, fun _ => ⟨f1, i0⟩⟩
  · exact v205 (by omega) ⟨ha, fun _ => ⟨ha, fun k3 => absurd k k3, fun _ => ⟨f2, i0⟩⟩, fun k2 => by omega⟩
  · exact v205 (by omega) ⟨ha, fun _ => ⟨ha, fun _ => ⟨rfl, i0⟩, fun k3 => absurd k3 k2⟩, fun k3 => absurd k3 k⟩
theorem o30 (hd : 20 ≤ d) (hI : Inv μ) : OP E d 149 160 [] μ := by
  obtain ⟨u, nx, R, q1, q2, q3⟩ := hI.2.1
  refine v149 (by omega) (s19 (by omega) q1 (fun k => ⟨Or.inl rfl, ?_⟩) (fun k μ1 nx' h1 hS hQ => ⟨Or.inr rfl, ?_⟩))
  · exact s160 (by omega) q2 q1.2.2.1 (fun _ => ⟨rfl, hI.sc sc0⟩) (fun k2 => by omega)
  · refine s160 (by omega) (q2.cg (fun o i k => h1 _ _ (by omega))) q1.2.2.1 (fun k2 => by omega) (fun _ μ2 h2 hS2 hQ2 => ⟨rfl, ?_⟩)
    have hE : Ep (fun o i => o = 25 ∨ o = 26 ∨ o = 27 ∨ (o = 100 ∧ (i = 1 ∨ i = 2)) ∨ (o = 124 ∧ 0 ≤ i ∧ i < 28) ∨ (o = 123 ∧ (i = 0 ∨ i = 3))) μ μ2 := (h1.mono (fun o i k => by omega)).tr (h2.mono (fun o i k => by omega))
    have hb := q3 (u - 1) (by omega)
    refine hI.s12 (hE.cg (fun o i k => ?_)) (hI.1.sta (hE.mono (fun o i k => by omega)) ⟨R (u - 1), hb.1, by rw [hE 36 0 (by omega)]; exact hb.2, hS.cg (fun k i hk => h2 _ _ (by omega)), hS2⟩) ⟨u - 1, nx', R, hQ.cg (fun o i k => h2 _ _ (by omega)), hQ2, by rw [hE 36 0 (by omega)]; exact fun j hj => q3 j (by omega)⟩
    rcases k with rfl | rfl | rfl | ⟨rfl, rfl | rfl⟩ | ⟨rfl, k0, k1⟩ | ⟨rfl, rfl | rfl⟩
    · exact m012 (Or.inr (Or.inl rfl))
    · exact m012 (Or.inr (Or.inl rfl))
    · exact m012 (Or.inr (Or.inl rfl))
    · decide
    · decide
    · exact m012 (Or.inr (Or.inl (cnt0_p k0 k1)))
    · decide
    · decide
def lookZ (s : Int → Int) (cj cb n cc u a : Int) : Int := if a = 0 then su (fun i => s (8 + i)) 10 else if a = 1 then cj else if a = 2 then s 7 else if a = 3 then cb else if a = 4 then s 3 + 5 else if a = 5 then s 4 else if a = 6 then s 5 else if a = 7 then s 6 else if a = 8 then s 0 else if a = 9 then s 2 else if a = 10 then s 1 else if a = 11 then n else if a = 12 then cc else if a = 13 then u else -100000
theorem o32 {a : Int} (hd : 20 ≤ d) (ha : inR a) (hI : Inv μ) : OP E d 151 284 [.inl a] μ := by
  obtain ⟨K, k1, k2, k3⟩ := hI.1.1
  obtain ⟨s, p1, p2, p3, p4⟩ := hI.1.2.1
  obtain ⟨u, nx, R, q1, q2, q3⟩ := hI.2.1
  obtain ⟨t1, t2, t3, t4, t5, t6, t7, t8, t9, t10⟩ := p3
  have e124 : ∀ i, 0 ≤ i → i < 28 → μ 124 i = s i := fun i i0 i1 => p4.at i0 i1
  have g := k2.1.1
  have g36 := k2.2.1.1
  have g40 := k2.2.2.2.1.1
  have g44 := k2.2.2.2.2.1
  have g130 := k3.1.1
  have g31 := k3.2.1.1
  have g32 := k3.2.2.2.1.1
  have g37 := k3.2.2.2.2.1
  have m0 : ∀ (o : Nat) (i : Int), ¬ (o = 123 ∧ i = 0) → mu μ 123 0 0 o i = μ o i := fun o i hn => by
    unfold mu; rw [if_neg hn]
  have hZ : ∀ z, z = lookZ s (jc K) (bc K) (kn K) (cc K) u a → Ct E d 284 [.inr 123, .inl a] μ (rI fun w μ2 => z = w ∧ Inv μ2) := by
    intro z hz
    have done : ∀ w, w = lookZ s (jc K) (bc K) (kn K) (cc K) u a → z = w ∧ Inv (mu μ 123 0 0) := fun w hw => ⟨by rw [hz, hw], hI.sc sc0⟩
    refine v284 (by omega) ⟨ha, fun n0 => ⟨ha, fun n1 => ⟨ha, fun n2 => ⟨ha, fun n3 => ⟨ha, fun n4 => s153 (by omega) ha (inR_of (by omega) (by omega)) (inR_of (by omega) (by omega)) ⟨b2_in _, fun n5 => ⟨ha, fun n8 => ⟨ha, fun n9 => ⟨ha, fun n10 => ⟨ha, fun n11 => ⟨ha, fun n12 => ⟨ha, fun n13 => done _ ?_, fun k => done _ ?_⟩, fun k => done _ ?_⟩, fun k => done _ ?_⟩, fun k => done _ ?_⟩, fun k => done _ ?_⟩, fun k => done _ ?_⟩, fun k => ⟨?_, done _ ?_⟩⟩, fun k => s165 (x := s 3) (by omega) (by rw [m0 _ _ (by omega)]; exact e124 _ (by omega) (by omega)) (done _ ?_)⟩, fun k => done _ ?_⟩, fun k => done _ ?_⟩, fun k => done _ ?_⟩, fun k => s239 (by omega) (done _ ?_)⟩
    · have n5 := b2_0.mp n5
      unfold lookZ
      rw [if_neg n0, if_neg n1, if_neg n2, if_neg n3, if_neg n4, if_neg (by omega), if_neg (by omega), if_neg (by omega), if_neg n8, if_neg n9, if_neg n10, if_neg n11, if_neg n12, if_neg n13]
    · subst k; rw [m0 _ _ (by omega), q2.1]; rfl
    · subst k; rw [m0 _ _ (by omega), g37]; rfl
    · subst k; rw [m0 _ _ (by omega), g130]; rfl
    · subst k; rw [m0 _ _ (by omega), e124 _ (by omega) (by omega)]; rfl
    · subst k; rw [m0 _ _ (by omega), e124 _ (by omega) (by omega)]; rfl
    · subst k; rw [m0 _ _ (by omega), e124 _ (by omega) (by omega)]; rfl
    · have := b2_ne0.mp k; omega
    · have := b2_ne0.mp k
      rw [m0 _ _ (by omega), e124 _ (by omega) (by omega)]
      rcases (by omega : a = 5 ∨ a = 6 ∨ a = 7) with rfl | rfl | rfl <;> rfl
    · subst k; rfl
    · subst k; rw [g32]; rfl
    · subst k; rw [e124 _ (by omega) (by omega)]; rfl
    · subst k; rw [g31]; rfl
    · subst k
      exact su_c _ (fun i hi => by rw [m0 _ _ (by omega)]; exact e124 _ (by omega) (by omega))
  refine v151 (by omega) ⟨ha, fun k => s97_25 (by omega) (hZ _ ?_), fun k => hZ _ ?_, fun k => hZ _ ?_, fun k => hZ _ ?_, fun k => hZ _ ?_, fun k => hZ _ ?_, fun k => hZ _ ?_, fun k => hZ _ ?_, fun k => hZ _ ?_, fun k => hZ _ ?_, fun k => hZ _ ?_, fun k => hZ _ ?_, fun k => hZ _ ?_, fun k => hZ _ ?_, fun n0 n1 n2 n3 n4 n5 n6 n7 n8 n9 n10 n11 n12 n13 => hZ _ ?_⟩
  · subst k
    exact su_c _ (fun i hi => t9 i (by omega) (by omega))
  · subst k; rw [g36]; rfl
  · subst k; rw [t8]; rfl
  · subst k; rw [g40]; rfl
  · subst k; rw [t4]; rfl
  · subst k; rw [t5]; rfl
  · subst k; rw [t6]; rfl
  · subst k; rw [t7]; rfl
  · subst k; rw [t1]; rfl
  · subst k; rw [t3]; rfl
  · subst k; rw [t2]; rfl
  · subst k; rw [g]; rfl
  · subst k; rw [g44]; rfl
  · subst k; rw [q1.1]; rfl
  · unfold lookZ
    rw [if_neg n0, if_neg n1, if_neg n2, if_neg n3, if_neg n4, if_neg n5, if_neg n6, if_neg n7, if_neg n8, if_neg n9, if_neg n10, if_neg n11, if_neg n12, if_neg n13]
end S41
