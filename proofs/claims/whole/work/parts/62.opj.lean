/-! call by call: job, devils, act -/
section S46
variable {E : En} {d : Nat} {μ μ' μ'' : Mm} {f : Int → Mm → Prop} {Φ : Option AV → Mm → Prop} {K : Kt} {s t : Int → Int}
/-- all sorts lie in the boxes -/
def x0 (s t : Int → Int) : Dy := (s, fun z => s (8 + z), t, fun _ => 0)
theorem x0_b (hb : StB s) : DB (x0 s t) := ⟨hb, fun z z0 z1 => hb.2.2.2.2 z z0 z1, fun i _ _ => ⟨(by decide : (0 : Int) ≤ 0), (by decide : (0 : Int) ≤ 1000)⟩⟩
theorem owz : ow 25 0 := ⟨Or.inl rfl, Or.inl rfl, fun _ => rfl⟩
theorem a33 (hd : 2 ≤ d) (hS : StW μ 25 s) (ht : ∀ i, 0 ≤ i → i < 600 → μ 58 i = t i) (h : ∀ μ', Ep (fun o _ => o = 23 ∨ o = 62) μ μ' → DW μ' 25 0 (x0 s t) 0 → Φ none μ') : Ct E d 33 [.inr 23] μ Φ := by
  refine v33 (by omega) (v23 (by omega) ?_)
  have e : (mu (mu μ 23 5 25) 23 6 0 23 5).toNat = 25 := by rw [mu_i (by decide), mu_s]; rfl
  rw [e]
  refine ⟨rfl, rfl, ⟨⟨by decide, by decide⟩, ⟨by decide, by decide⟩, by decide⟩, ?_⟩
  have hE : Ep (fun o _ => o = 23 ∨ o = 62) μ (mcp (mu (mu μ 23 5 25) 23 6 0) (25 + 1) 0 62 0 10) := ((Ep.rf.mu (Or.inl rfl)).mu (Or.inl rfl)).mcp (fun _ => Or.inr rfl)
  refine h _ hE ⟨by rw [mcp_o (by decide), mu_i (by decide), mu_s]; rfl, by rw [mcp_o (by decide), mu_s], hS.ep hE (fun k i hk => by omega), fun z z0 z1 => ?_, fun i i0 i1 => by rw [hE _ _ (by omega)]; exact ht i i0 i1, fun j hj hs => ?_⟩
  · rw [mcp_in (by omega) (by omega), show 0 + (z - 0) = z by omega, mu_o (by decide), mu_o (by decide)]
    exact hS.2.2.2.2.2.2.2.2.1 z z0 z1
  · rw [bq_1 (by omega), bq_0] at hs
    cases hs
theorem s209 (hd : 1 ≤ d) (hS : StM μ 124 0 s) (h : ∀ μ', Eo 144 μ μ' → (∀ z, 0 ≤ z → z < 10 → μ' 144 z = s (8 + z)) → Φ none μ') : Ct E d 209 [.inr 123] μ Φ := by
  have fill : ∀ (m x : Nat) (μ2 : Mm), x + m = 10 → Eo 144 μ μ2 → (∀ z : Int, 0 ≤ z → z < x → μ2 144 z = s (8 + z)) → G E d 209 Φ 2 [some (.inr 123), some (.inl (x : Int))] [] μ2 := by
    intro m
    induction m with
    | zero =>
      intro x μ2 hx h2 hg
      exact v209_2 (by omega) ⟨inR_of (by omega) (by omega), fun _ => h μ2 h2 (fun z z0 z1 => hg z z0 (by omega)), fun k => by omega⟩
    | succ m ih =>
      intro x μ2 hx h2 hg
      refine v209_2 (by omega) ⟨inR_of (by omega) (by omega), fun k => by omega, fun _ => ⟨⟨by omega, by omega⟩, ⟨by omega, by omega⟩, ih (x + 1) _ (by omega) h2.mu (fun z z0 z1 => ?_)⟩⟩
      by_cases e : z = x
      · rw [e, mu_s, h2 _ _ (by decide)]
        exact hS.at (by omega) (by omega)
      · rw [mu_i e]; exact hg z z0 (by omega)
  exact v209 hd (fill 10 0 μ (by omega) Eo.rf (fun z z0 z1 => by omega))
/-- the boxes of the reference, filled -/
theorem DM.x0 (h5 : μ 123 5 = 0) (hS : StM μ 124 0 s) (hb : ∀ z, 0 ≤ z → z < 10 → μ 144 z = s (8 + z)) (ht : ∀ i, 0 ≤ i → i < 600 → μ 127 i = t i) : DM μ 0 (x0 s t) 0 :=
  ⟨h5, hS, hb, ht, fun j hj hs => by
    rw [bq_1 (by omega), bq_0] at hs
    cases hs⟩
def lorZ (L : Int → Int) (X : Int → Int → Int) (i k : Int) : Int := if 0 ≤ k ∧ k < L i then X i k else -1
theorem s104xj {c : Int} {L : Int → Int} {X : Int → Int → Int} {i k : Int} (hd : 2 ≤ d) (hW : WW μ 36 c L X) (i0 : 0 ≤ i) (i1 : i < c) (hk : inR k) (h : Φ (some (.inl (lorZ L X i k))) μ) : Ct E d 104 [.inr 36, .inl i, .inl k] μ Φ := by
  have wl := hW.2.2.2.1 i i0 i1
  have c16 := hW.2.2.1
  have e1 : μ 38 i = L i := wl.1
  unfold lorZ at h
  by_cases e : 0 ≤ k ∧ k < L i
  · rw [if_pos e] at h
    exact s104j hd hW i0 i1 e.1 e.2 h
  · rw [if_neg e] at h
    refine v104_36 (by omega) (s103j (by omega) (inR_of (by omega) (by omega)) hW ⟨b2_in _, fun _ => h, fun _ => ⟨hk, fun _ => h, fun k0 => ⟨⟨i0, by omega⟩, ?_⟩⟩⟩)
    rw [e1]
    exact ⟨hk, inR_of (by omega) (by omega), fun _ => h, fun k1 => absurd ⟨k0, k1⟩ e⟩
theorem s104x {c : Int} {L : Int → Int} {X : Int → Int → Int} {i k : Int} (hd : 2 ≤ d) (hW : WW μ 40 c L X) (i0 : 0 ≤ i) (i1 : i < c) (hk : inR k) (h : Φ (some (.inl (lorZ L X i k))) μ) : Ct E d 104 [.inr 40, .inl i, .inl k] μ Φ := by
  have wl := hW.2.2.2.1 i i0 i1
  have c16 := hW.2.2.1
  have e1 : μ 42 i = L i := wl.1
  unfold lorZ at h
  by_cases e : 0 ≤ k ∧ k < L i
  · rw [if_pos e] at h
    exact s104 hd hW i0 i1 e.1 e.2 h
  · rw [if_neg e] at h
    refine v104_40 (by omega) (s103 (by omega) (inR_of (by omega) (by omega)) hW ⟨b2_in _, fun _ => h, fun _ => ⟨hk, fun _ => h, fun k0 => ⟨⟨i0, by omega⟩, ?_⟩⟩⟩)
    rw [e1]
    exact ⟨hk, inR_of (by omega) (by omega), fun _ => h, fun k1 => absurd ⟨k0, k1⟩ e⟩
theorem s235 {c q b : Int} {L : Int → Int} {X : Int → Int → Int} {i : Nat} {k : Int} (hd : 2 ≤ d) (b0 : 0 ≤ b) (b1 : b ≤ 16) (hW : WM μ q b c L X) (i1 : (i : Int) < c) (hk : 0 ≤ k ∧ k < 8) (h : Φ (some (.inl (lorZ L X i k))) μ) : Ct E d 235 [.inr 123, .inl (b + i), .inl k] μ Φ := by
  have wl := hW.2.2.2.1 i (by omega) i1
  have c16 := hW.2.2.1
  refine v235 (by omega) ?_
  rw [wl.1]
  unfold lorZ at h
  refine ⟨⟨by omega, by omega⟩, inR_of (by omega) (by omega), inR_of (by omega) (by omega), fun e => ?_, fun e => v210 (by omega) ⟨by omega, ?_⟩⟩
  · rw [if_neg (by omega)] at h; exact h
  · rw [(hW.2.2.2.2 i k (by omega) i1 hk.1 e).1]
    rw [if_pos ⟨hk.1, e⟩] at h; exact h
noncomputable def jobZ (K : Kt) (s t : Int → Int) (i b : Int) : Int := if ¬ (0 ≤ i ∧ i < jc K) then -2 else if b = 0 then jd K i else if b = 1 then iAnd (iShr (s 7) i) 1 else if b = 2 then jL K i else if b = 3 then fJ K 0 i (x0 s t) else if b = 4 then fJ K 1 i (x0 s t) else if b = 5 then lk (jX K) i (jL K i).toNat (fun z => s (8 + z)) else if 10 ≤ b ∧ b < 18 then lorZ (jL K) (jX K) i (b - 10) else -2
noncomputable def devZ (K : Kt) (s t : Int → Int) (i b : Int) : Int := if ¬ (0 ≤ i ∧ i < bc K) then -2 else if b = 0 then bL K i else if b = 1 then fB K i (x0 s t) else if b = 2 then (if lk (bX K) i (bL K i).toNat (fun z => s (8 + z)) = 0 then 1 else 0) else if 10 ≤ b ∧ b < 18 then lorZ (bL K) (bX K) i (b - 10) else -2
def Wc : Nat → Int → Prop := fun o _ => o = 23 ∨ o = 62 ∨ o = 63 ∨ o = 35 ∨ o = 25 ∨ o = 26 ∨ o = 27 ∨ o = 58 ∨ o = 64
/-- the answer of the class; all that counts stays -/
theorem Inv.wc (hI : Inv μ) (e : Ep (fun o _ => o = 23 ∨ o = 62) μ μ') (e2 : Ep (Sw 25) μ' μ'') (hD : DW μ'' 25 0 (x0 s t) 0) (hS : StM μ 124 0 s) (hb : StB s) (hs : DP (μ 36 0) s) (ht : ∀ i, 0 ≤ i → i < 600 → μ 127 i = t i) : Inv μ'' := by
  have hE : Ep Wc μ μ'' := (e.mono (fun o i k => by unfold Wc; omega)).tr (e2.mono (fun o i k => by unfold Sw at k; unfold Wc; omega))
  have c : Cg [0, 1] μ μ'' := hE.cg (fun o i k => by
    unfold Wc at k
    rcases k with rfl | rfl | rfl | rfl | rfl | rfl | rfl | rfl | rfl
    · exact m01 (Or.inl rfl)
    · exact m01 (Or.inl rfl)
    · exact m01 (Or.inl rfl)
    · exact m01 (Or.inl rfl)
    · exact m01 (Or.inr rfl)
    · exact m01 (Or.inr rfl)
    · exact m01 (Or.inr rfl)
    · exact m01 (Or.inr rfl)
    · exact m01 (Or.inl rfl))
  have g36 : μ'' 36 0 = μ 36 0 := hE _ _ (by unfold Wc; omega)
  refine hI.s1 c g36 (hI.1.dy (fun o i k1 k2 => hE o i (fun k => ?_)) ⟨s, hb, by rw [g36]; exact hs, hD.2.2.1, hS.cg (fun i _ _ => hE _ _ (by unfold Wc; omega))⟩ (fun j j0 j1 => by rw [hE 127 _ (by unfold Wc; omega), ht j j0 j1]; exact hD.2.2.2.2.1 j j0 j1))
  unfold Wc at k
  rcases k with rfl | rfl | rfl | rfl | rfl | rfl | rfl | rfl | rfl
  · have k1 : (0 : Nat) = 1 := k1; cases k1
  · have k1 : (0 : Nat) = 1 := k1; cases k1
  · have k1 : (0 : Nat) = 1 := k1; cases k1
  · have k1 : (0 : Nat) = 1 := k1; cases k1
  · exact k2 (by omega)
  · exact k2 (by omega)
  · exact k2 (by omega)
  · exact k2 (by omega)
  · have k1 : (0 : Nat) = 1 := k1; cases k1
theorem m144 {o : Nat} {i : Int} (h : o = 144) : cnt o i ∈ [0] := by subst h; exact z0 rfl
theorem cnt0_n {i a : Int} {k : Nat} (h : ¬ (0 ≤ i ∧ i < a)) : cnt0 i a k = 0 := if_neg h
theorem Sm0 (hS : StM μ 124 0 s) (hS2 : StM μ' 124 0 s) (e : Ep Sm μ μ') (h27 : ∀ i, 0 ≤ i → i < 600 → μ' 127 i = μ 127 i) : Cg [0] (fun o i => if (o = 124 ∧ 0 ≤ i ∧ i < 28) ∨ (o = 127 ∧ 0 ≤ i ∧ i < 600) then μ' o i else μ o i) μ' := fun o i hn => by
  show μ' o i = if _ then _ else _
  split
  · rfl
  · rename_i k
    refine e o i (fun q => ?_)
    unfold Sm at q
    rcases q with rfl | rfl | rfl | rfl | rfl | rfl
    · exact hn (z0 (show cnt 124 i = 0 from cnt0_n (by omega)))
    · exact hn (z0 (show cnt 127 i = 0 from cnt0_n (by omega)))
    · exact hn (z0 rfl)
    · exact hn (z0 rfl)
    · exact hn (z0 rfl)
    · exact hn (z0 rfl)
/-- nor in the reference -/
theorem Inv.sm (hI : Inv μ) (e : Ep Sm μ μ') (hS : StM μ 124 0 s) (hS2 : StM μ' 124 0 s) (h27 : ∀ i, 0 ≤ i → i < 600 → μ' 127 i = μ 127 i) : Inv μ' := by
  have e1 := Sm0 hS hS2 e h27
  have e2 : (fun o i => if (o = 124 ∧ 0 ≤ i ∧ i < 28) ∨ (o = 127 ∧ 0 ≤ i ∧ i < 600) then μ' o i else μ o i) = μ := by
    funext o i
    split
    · rename_i k
      rcases k with ⟨rfl, k0, k1⟩ | ⟨rfl, k0, k1⟩
      · rw [hS.at k0 k1, hS2.at k0 k1]
      · exact h27 i k0 k1
    · rfl
  rw [e2] at e1
  exact hI.sc e1
theorem o9 {a b : Int} (hd : 20 ≤ d) (ha : inR a) (hb : inR b) (hI : Inv μ) : OP E d 121 236 [.inl a, .inl b] μ := by
  obtain ⟨K, ok, k2, k3⟩ := hI.1.1
  obtain ⟨s, s1, s2, s3, s4⟩ := hI.1.2.1
  have tr := hI.1.2.2.1
  have c0 := ok.2.1.1
  have c16 := ok.2.1.2.1
  have hD0 : DB (x0 s (μ 127)) := x0_b s1
  have model : ∀ {μ1 : Mm} {z : Int}, Inv μ1 → KM μ1 K → StM μ1 124 0 s → (∀ i, 0 ≤ i → i < 600 → μ1 127 i = μ 127 i) → z = jobZ K s (μ 127) a b → Ct E d 236 [.inr 123, .inl a, .inl b] μ1 (rI fun w μ2 => z = w ∧ Inv μ2) := by
    intro μ1 z hI1 hK1 hS1 hT1 hz
    have hI2 := hI1.sc (sc0 (v := 0))
    have hc : mu μ1 123 0 0 123 31 = jc K := by rw [mu_i (by decide)]; exact hK1.2.1.1
    refine v236 (by omega) ?_
    rw [show μ1 123 31 = jc K from hK1.2.1.1]
    refine s153 (by omega) ha (inR_of (by omega) (by omega)) (inR_of (by omega) (by omega)) ⟨b2_in _, fun k => ?_, fun k => ?_⟩
    · have k := b2_ne0.mp k
      obtain ⟨n, rfl⟩ := Int.eq_ofNat_of_zero_le k.1
      have hn : (n : Int) < jc K := by omega
      have nz : ¬ ¬ (0 ≤ (n : Int) ∧ (n : Int) < jc K) := fun g => g ⟨by omega, hn⟩
      refine s209 (by omega) (s := s) (hS1.cg (fun i _ _ => by rw [mu_o (by decide)])) (fun μ3 h3 hb3 => ?_)
      have hE3 : Ep (fun o i => o = 144 ∨ (o = 123 ∧ i = 0)) μ1 μ3 := (Ep.rf.mu (Or.inr ⟨rfl, rfl⟩)).tr (Ep.of h3 (fun _ => Or.inl rfl))
      have hK3 : KM μ3 K := hK1.cg ok (fun o i k => hE3 o i (by unfold kmS at k; omega))
      have hS3 : StM μ3 124 0 s := hS1.cg (fun i _ _ => hE3 _ _ (by omega))
      have hI3 : Inv μ3 := hI2.sc (h3.cg (fun _ => z0 rfl))
      have hD3 : DM μ3 0 (x0 s (μ 127)) 0 := DM.x0 (by rw [hE3 _ _ (by omega)]; exact hI1.2.2.2.2.2.2.1) hS3 hb3 (fun i i0 i1 => by rw [hE3 _ _ (by omega)]; exact hT1 i i0 i1)
      have done : ∀ {μ4 : Mm}, Ep Sm μ3 μ4 → DM μ4 0 (x0 s (μ 127)) 0 → Inv μ4 := fun e4 d4 => hI3.sm e4 hS3 d4.2.1 (fun i i0 i1 => by rw [d4.2.2.2.1 i i0 i1, hD3.2.2.2.1 i i0 i1])
      unfold jobZ at hz
      rw [if_neg nz] at hz
      refine ⟨hb, fun n0 => ⟨hb, fun n1 => ⟨hb, fun n2 => ⟨hb, fun n3 => ⟨hb, fun n4 => ⟨hb, fun n5 => ?_, fun n5 => ?_⟩, fun n4 => ?_⟩, fun n3 => ?_⟩, fun n2 => ?_⟩, fun n1 => ?_⟩, fun n0 => ?_⟩
      · rw [if_neg n0, if_neg n1, if_neg n2, if_neg n3, if_neg n4, if_neg n5] at hz
        refine s153 (by omega) hb (inR_of (by omega) (by omega)) (inR_of (by omega) (by omega)) ⟨b2_in _, fun k5 => ?_, fun k5 => ?_⟩
        · have k5 := b2_0.mp k5
          rw [if_neg (by omega)] at hz
          exact ⟨hz, hI3⟩
        · have k5 := b2_ne0.mp k5
          rw [if_pos (by omega)] at hz
          have := s235 (E := E) (d := d - 1) (i := n) (k := b - 10) (Φ := rI fun z7 μ6 => (rI fun w μ2 => z = w ∧ Inv μ2) (some (.inl z7)) μ6) (by omega) (by omega) (by omega) hK3.2.1 hn (by omega) ⟨hz, hI3⟩
          rw [Int.zero_add] at this
          exact this
      · rw [if_neg n0, if_neg n1, if_neg n2, if_neg n3, if_neg n4, if_pos n5] at hz
        exact b212j (by omega) hK3 hD3 hD0 hn ⟨hz, hI3⟩
      · rw [if_neg n0, if_neg n1, if_neg n2, if_neg n3, if_pos n4] at hz
        exact b218 (by omega) hK3 ok hD3 hD0 hn (fun μ4 h4 hD4 => ⟨hz, done h4 hD4⟩)
      · rw [if_neg n0, if_neg n1, if_neg n2, if_pos n3] at hz
        exact b217 (by omega) hK3 ok hD3 hD0 hn (fun μ4 h4 hD4 => ⟨hz, done h4 hD4⟩)
      · rw [if_neg n0, if_neg n1, if_pos n2] at hz
        have wl := hK3.2.1.2.2.2.1 n (by omega) hn
        rw [Int.zero_add] at wl
        refine ⟨⟨by omega, by omega⟩, ?_⟩
        rw [wl.1]
        exact ⟨hz, hI3⟩
      · rw [if_neg n0, if_pos n1] at hz
        refine s214 (by omega) (by omega) ?_
        have e7 : μ3 124 7 = s 7 := hS3.at (by omega) (by omega)
        rw [e7]
        have z := iz (x := s 7) (i := n) (by omega)
        exact ⟨i32_in _, fun k => ⟨by rw [hz]; omega, hI3⟩, fun k => ⟨by rw [hz]; omega, hI3⟩⟩
      · rw [if_pos n0] at hz
        refine ⟨⟨by omega, by omega⟩, ?_⟩
        rw [hK3.2.2.1 n (by omega) hn]
        exact ⟨hz, hI3⟩
    · have k := b2_0.mp k
      refine ⟨?_, hI2⟩
      rw [hz]
      unfold jobZ
      rw [if_pos (by omega)]
  refine v121 (by omega) (s103j (by omega) ha k2.2.1 ⟨b2_in _, fun k => ?_, fun k => ?_⟩)
  · have k := b2_ne0.mp k
    have nz : ¬ ¬ (0 ≤ a ∧ a < jc K) := fun g => g k
    have md := fun (μ1 : Mm) (z : Int) (hI1 : Inv μ1) (h1 : Ep Wc μ μ1) (hz : z = jobZ K s (μ 127) a b) => model hI1 (k3.cg ok (fun o i k => h1 o i (by unfold kmS at k; unfold Wc; omega))) (s4.cg (fun i _ _ => h1 _ _ (by unfold Wc; omega))) (fun i _ _ => h1 _ _ (by unfold Wc; omega)) hz
    unfold jobZ at md
    rw [if_neg nz] at md
    have open1 : ∀ (Ψ : Option AV → Mm → Prop), (∀ μ1, Ep (fun o _ => o = 23 ∨ o = 62) μ μ1 → KW μ1 K → DW μ1 25 0 (x0 s (μ 127)) 0 → Ψ none μ1) → Ct E (d - 1 - 1) 33 [.inr 23] μ Ψ := fun Ψ hΨ => a33 (by omega) s3 tr (fun μ1 h1 hD1 => hΨ μ1 h1 (k2.ep h1 (fun k i k0 k1 k2 => by omega)) hD1)
    have cl : ∀ (μ1 μ2 : Mm), Ep (fun o _ => o = 23 ∨ o = 62) μ μ1 → Ep (Sw 25) μ1 μ2 → DW μ2 25 0 (x0 s (μ 127)) 0 → Inv μ2 ∧ Ep Wc μ μ2 := fun μ1 μ2 h1 h2 hD => ⟨hI.wc h1 h2 hD s4 s1 s2 (fun _ _ _ => rfl), (h1.mono (fun o i k => by unfold Wc; omega)).tr (h2.mono (fun o i k => by unfold Sw at k; unfold Wc; omega))⟩
    obtain ⟨n, rfl⟩ := Int.eq_ofNat_of_zero_le k.1
    refine ⟨hb, fun n0 => ⟨⟨by omega, by omega⟩, ?_⟩, fun n1 => ?_, fun n2 => ⟨⟨by omega, by omega⟩, ?_⟩, fun n3 => ?_, fun n4 => ?_, fun n5 => ?_, fun n0 n1 n2 n3 n4 n5 => ?_⟩
    · refine md μ _ hI Ep.rf ?_
      rw [if_pos n0]
      exact k2.2.2.1 n k.1 k.2
    · have e2 : μ 25 2 = s 7 := s3.2.2.2.2.2.2.2.1
      refine v96_25 (by omega) ?_
      rw [e2]
      have zz := iz (x := s 7) (i := n) (by omega)
      refine ⟨i32_in _, fun g => ⟨inR_of (by decide) (by decide), fun _ => md μ _ hI Ep.rf ?_, fun g => absurd rfl g⟩, fun g => ⟨inR_of (by decide) (by decide), fun g => absurd g (by decide), fun _ => md μ _ hI Ep.rf ?_⟩⟩
      · rw [if_neg (by omega), if_pos n1]; omega
      · rw [if_neg (by omega), if_pos n1]; omega
    · refine md μ _ hI Ep.rf ?_
      rw [if_neg (by omega), if_neg (by omega), if_pos n2]
      exact (k2.2.1.2.2.2.1 n k.1 k.2).1
    · refine v34_36 (by omega) (open1 _ (fun μ1 h1 hK1 hD1 => a32j (by omega) hK1 ok owz hD1 hD0 k.1 k.2 (by omega) (by omega) (fun μ2 h2 hD2 => ?_)))
      refine md μ2 _ (cl μ1 μ2 h1 h2 hD2).1 (cl μ1 μ2 h1 h2 hD2).2 ?_
      rw [if_neg (by omega), if_neg (by omega), if_neg (by omega), if_pos n3]
    · refine v34_36 (by omega) (open1 _ (fun μ1 h1 hK1 hD1 => a32j (by omega) hK1 ok owz hD1 hD0 k.1 k.2 (by omega) (by omega) (fun μ2 h2 hD2 => ?_)))
      refine md μ2 _ (cl μ1 μ2 h1 h2 hD2).1 (cl μ1 μ2 h1 h2 hD2).2 ?_
      rw [if_neg (by omega), if_neg (by omega), if_neg (by omega), if_neg (by omega), if_pos n4]
    · refine v35_36 (by omega) (open1 _ (fun μ1 h1 hK1 hD1 => a31j (by omega) hK1 ok owz hD1 hD0 k.1 k.2 (fun μ2 h2 hD2 => ?_)))
      refine md μ2 _ (cl μ1 μ2 h1 h2 hD2).1 (cl μ1 μ2 h1 h2 hD2).2 ?_
      rw [if_neg (by omega), if_neg (by omega), if_neg (by omega), if_neg (by omega), if_neg (by omega), if_pos n5]
      rfl
    · rw [if_neg n0, if_neg n1, if_neg n2, if_neg n3, if_neg n4, if_neg n5] at md
      refine v123_36 (by omega) ⟨hb, fun g => md μ _ hI Ep.rf (by rw [if_neg (by omega)]), fun g => ⟨hb, fun g2 => s104xj (by omega) k2.2.1 k.1 k.2 (inR_of (by omega) (by omega)) (md μ _ hI Ep.rf (by rw [if_pos (by omega)])), fun g2 => md μ _ hI Ep.rf (by rw [if_neg (by omega)])⟩⟩
  · have k := b2_0.mp k
    exact model hI k3 s4 (fun _ _ _ => rfl) (by unfold jobZ; rw [if_pos k])
theorem o10 {a b : Int} (hd : 20 ≤ d) (ha : inR a) (hb : inR b) (hI : Inv μ) : OP E d 122 237 [.inl a, .inl b] μ := by
  obtain ⟨K, ok, k2, k3⟩ := hI.1.1
  obtain ⟨s, s1, s2, s3, s4⟩ := hI.1.2.1
  have tr := hI.1.2.2.1
  have c0 := ok.2.2.2.1.1
  have c16 := ok.2.2.2.1.2.1
  have hD0 : DB (x0 s (μ 127)) := x0_b s1
  have model : ∀ {μ1 : Mm} {z : Int}, Inv μ1 → KM μ1 K → StM μ1 124 0 s → (∀ i, 0 ≤ i → i < 600 → μ1 127 i = μ 127 i) → z = devZ K s (μ 127) a b → Ct E d 237 [.inr 123, .inl a, .inl b] μ1 (rI fun w μ2 => z = w ∧ Inv μ2) := by
    intro μ1 z hI1 hK1 hS1 hT1 hz
    have hI2 := hI1.sc (sc0 (v := 0))
    have hc : mu μ1 123 0 0 123 32 = bc K := by rw [mu_i (by decide)]; exact hK1.2.2.2.1.1
    refine v237 (by omega) ?_
    rw [show μ1 123 32 = bc K from hK1.2.2.2.1.1]
    refine s153 (by omega) ha (inR_of (by omega) (by omega)) (inR_of (by omega) (by omega)) ⟨b2_in _, fun k => ?_, fun k => ?_⟩
    · have k := b2_ne0.mp k
      obtain ⟨n, rfl⟩ := Int.eq_ofNat_of_zero_le k.1
      have hn : (n : Int) < bc K := by omega
      have nz : ¬ ¬ (0 ≤ (n : Int) ∧ (n : Int) < bc K) := fun g => g ⟨by omega, hn⟩
      refine s209 (by omega) (s := s) (hS1.cg (fun i _ _ => by rw [mu_o (by decide)])) (fun μ3 h3 hb3 => ?_)
      have hE3 : Ep (fun o i => o = 144 ∨ (o = 123 ∧ i = 0)) μ1 μ3 := (Ep.rf.mu (Or.inr ⟨rfl, rfl⟩)).tr (Ep.of h3 (fun _ => Or.inl rfl))
      have hK3 : KM μ3 K := hK1.cg ok (fun o i k => hE3 o i (by unfold kmS at k; omega))
      have hS3 : StM μ3 124 0 s := hS1.cg (fun i _ _ => hE3 _ _ (by omega))
      have hI3 : Inv μ3 := hI2.sc (h3.cg (fun _ => z0 rfl))
      have hD3 : DM μ3 0 (x0 s (μ 127)) 0 := DM.x0 (by rw [hE3 _ _ (by omega)]; exact hI1.2.2.2.2.2.2.1) hS3 hb3 (fun i i0 i1 => by rw [hE3 _ _ (by omega)]; exact hT1 i i0 i1)
      have done : ∀ {μ4 : Mm}, Ep Sm μ3 μ4 → DM μ4 0 (x0 s (μ 127)) 0 → Inv μ4 := fun e4 d4 => hI3.sm e4 hS3 d4.2.1 (fun i i0 i1 => by rw [d4.2.2.2.1 i i0 i1, hD3.2.2.2.1 i i0 i1])
      unfold devZ at hz
      rw [if_neg nz] at hz
      refine ⟨hb, fun n0 => ⟨hb, fun n1 => ⟨hb, fun n2 => ?_, fun n2 => ?_⟩, fun n1 => ?_⟩, fun n0 => ?_⟩
      · rw [if_neg n0, if_neg n1, if_neg n2] at hz
        refine s153 (by omega) hb (inR_of (by omega) (by omega)) (inR_of (by omega) (by omega)) ⟨b2_in _, fun k5 => ?_, fun k5 => ?_⟩
        · have k5 := b2_0.mp k5
          rw [if_neg (by omega)] at hz
          exact ⟨hz, hI3⟩
        · have k5 := b2_ne0.mp k5
          rw [if_pos (by omega)] at hz
          exact s235 (by omega) (by omega) (by omega) hK3.2.2.2.1 hn (by omega) ⟨hz, hI3⟩
      · rw [if_neg n0, if_neg n1, if_pos n2] at hz
        refine b212 (by omega) hK3 hD3 hD0 hn ?_
        have lb := lk_b (X := bX K) (i := n) (m := (bL K n).toNat) (g := (x0 s (μ 127)).2.1) (by have := ok.2.2.2.1.2.2.1 n (by omega) hn; omega) (fun z z0 z1 => (hD0.2.1 z z0 z1).1)
        refine ⟨inR_of (by omega) (by omega), fun g => ⟨?_, hI3⟩, fun g => ⟨?_, hI3⟩⟩
        · rw [hz]; exact if_neg g
        · rw [hz]; exact if_pos g
      · rw [if_neg n0, if_pos n1] at hz
        exact b219 (by omega) hK3 ok hD3 hD0 hn (fun μ4 h4 hD4 => ⟨hz, done h4 hD4⟩)
      · rw [if_pos n0] at hz
        have wl := hK3.2.2.2.1.2.2.2.1 n (by omega) hn
        refine ⟨⟨by omega, by omega⟩, ?_⟩
        rw [wl.1]
        exact ⟨hz, hI3⟩
    · have k := b2_0.mp k
      refine ⟨?_, hI2⟩
      rw [hz]
      unfold devZ
      rw [if_pos (by omega)]
  refine v122 (by omega) (s103 (by omega) ha k2.2.2.2.1 ⟨b2_in _, fun k => ?_, fun k => ?_⟩)
  · have k := b2_ne0.mp k
    have nz : ¬ ¬ (0 ≤ a ∧ a < bc K) := fun g => g k
    have md := fun (μ1 : Mm) (z : Int) (hI1 : Inv μ1) (h1 : Ep Wc μ μ1) (hz : z = devZ K s (μ 127) a b) => model hI1 (k3.cg ok (fun o i k => h1 o i (by unfold kmS at k; unfold Wc; omega))) (s4.cg (fun i _ _ => h1 _ _ (by unfold Wc; omega))) (fun i _ _ => h1 _ _ (by unfold Wc; omega)) hz
    unfold devZ at md
    rw [if_neg nz] at md
    have open1 : ∀ (Ψ : Option AV → Mm → Prop), (∀ μ1, Ep (fun o _ => o = 23 ∨ o = 62) μ μ1 → KW μ1 K → DW μ1 25 0 (x0 s (μ 127)) 0 → Ψ none μ1) → Ct E (d - 1 - 1) 33 [.inr 23] μ Ψ := fun Ψ hΨ => a33 (by omega) s3 tr (fun μ1 h1 hD1 => hΨ μ1 h1 (k2.ep h1 (fun k i k0 k1 k2 => by omega)) hD1)
    have cl : ∀ (μ1 μ2 : Mm), Ep (fun o _ => o = 23 ∨ o = 62) μ μ1 → Ep (Sw 25) μ1 μ2 → DW μ2 25 0 (x0 s (μ 127)) 0 → Inv μ2 ∧ Ep Wc μ μ2 := fun μ1 μ2 h1 h2 hD => ⟨hI.wc h1 h2 hD s4 s1 s2 (fun _ _ _ => rfl), (h1.mono (fun o i k => by unfold Wc; omega)).tr (h2.mono (fun o i k => by unfold Sw at k; unfold Wc; omega))⟩
    obtain ⟨n, rfl⟩ := Int.eq_ofNat_of_zero_le k.1
    refine ⟨hb, fun n0 => ⟨⟨by omega, by omega⟩, ?_⟩, fun n1 => ?_, fun n2 => ?_, fun n0 n1 n2 => ?_⟩
    · refine md μ _ hI Ep.rf ?_
      rw [if_pos n0]
      exact (k2.2.2.2.1.2.2.2.1 n k.1 k.2).1
    · refine v34_40 (by omega) (open1 _ (fun μ1 h1 hK1 hD1 => a32 (by omega) hK1 ok owz hD1 hD0 k.1 k.2 (fun μ2 h2 hD2 => ?_)))
      refine md μ2 _ (cl μ1 μ2 h1 h2 hD2).1 (cl μ1 μ2 h1 h2 hD2).2 ?_
      rw [if_neg (by omega), if_pos n1]
    · refine v35_40 (by omega) (open1 _ (fun μ1 h1 hK1 hD1 => a31 (by omega) hK1 ok owz hD1 hD0 k.1 k.2 (fun μ2 h2 hD2 => ?_)))
      have lb := lk_b (X := bX K) (i := n) (m := (bL K n).toNat) (g := (x0 s (μ 127)).2.1) (by have := ok.2.2.2.1.2.2.1 n (by omega) k.2; omega) (fun z z0 z1 => (hD0.2.1 z z0 z1).1)
      have mm := fun z => md μ2 z (cl μ1 μ2 h1 h2 hD2).1 (cl μ1 μ2 h1 h2 hD2).2
      rw [if_neg (by omega), if_neg (by omega), if_pos n2] at mm
      exact ⟨inR_of (by omega) (by omega), fun g => mm _ (if_neg g).symm, fun g => mm _ (if_pos g).symm⟩
    · rw [if_neg n0, if_neg n1, if_neg n2] at md
      refine v123_40 (by omega) ⟨hb, fun g => md μ _ hI Ep.rf (by rw [if_neg (by omega)]), fun g => ⟨hb, fun g2 => s104x (by omega) k2.2.2.2.1 k.1 k.2 (inR_of (by omega) (by omega)) (md μ _ hI Ep.rf (by rw [if_pos (by omega)])), fun g2 => md μ _ hI Ep.rf (by rw [if_neg (by omega)])⟩⟩
  · have k := b2_0.mp k
    exact model hI k3 s4 (fun _ _ _ => rfl) (by unfold devZ; rw [if_pos k])
end S46
