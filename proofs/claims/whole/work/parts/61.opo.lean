/-! call by call: out -/
section S45
variable {E : En} {d : Nat} {μ μ' μ'' : Mm} {Φ : Option AV → Mm → Prop} {K : Kt} {s t : Int → Int}
/-- all n are set when n ones are -/
theorem bc_all : ∀ n : Nat, n ≤ 16 → ∀ x : Nat, x < 2 ^ n → bcN x ≤ n ∧ (bcN x = n ↔ x = 2 ^ n - 1)
  | 0, _, x, h => by
    have : x = 0 := by omega
    subst this
    decide
  | n + 1, hn, x, h => by
    have p16 : 2 ^ n ≤ 2 ^ 15 := Nat.pow_le_pow_right (by omega) (by omega)
    have pp : 0 < 2 ^ n := Nat.two_pow_pos n
    rw [Nat.pow_succ] at h ⊢
    rcases Nat.lt_or_ge x (2 ^ n) with g | g
    · have ih := bc_all n (by omega) x g
      refine ⟨by omega, ⟨fun e => by omega, fun e => by omega⟩⟩
    · obtain ⟨k, rfl⟩ : ∃ k, x = 2 ^ n + k := ⟨x - 2 ^ n, by omega⟩
      have ih := bc_all n (by omega) k (by omega)
      have hc := cj_any (x := 2 ^ n + k) (by omega)
      unfold ck2 at hc
      have el : Nat.log2 (2 ^ n + k) = n := (Nat.log2_eq_iff (by omega)).mpr ⟨by omega, by rw [Nat.pow_succ]; omega⟩
      rw [el, show 2 ^ n + k - 2 ^ n = k by omega, Bool.or_eq_true] at hc
      have hc : bcN (2 ^ n + k) = bcN k + 1 := by
        rcases hc with g | g
        · exact absurd (Nat.eq_of_beq_eq_true g) (by omega)
        · exact Nat.eq_of_beq_eq_true g
      rw [hc]
      have := ih.2
      refine ⟨by omega, ⟨fun e => ?_, fun e => ?_⟩⟩
      · have := this.mp (by omega); omega
      · have := this.mpr (by omega); omega
theorem all_iff {c p : Int} (c0 : 0 ≤ c) (c16 : c ≤ 16) (p0 : 0 ≤ p) (h : p < ((2 ^ c.toNat : Nat) : Int)) : (onZ p < c ↔ p ≠ iShl 1 c - 1) ∧ inR (iShl 1 c - 1) := by
  obtain ⟨n, rfl⟩ := Int.eq_ofNat_of_zero_le c0
  obtain ⟨k, rfl⟩ := Int.eq_ofNat_of_zero_le p0
  have hn : ((n : Int)).toNat = n := by omega
  rw [hn] at h
  have p16 : 2 ^ n ≤ 2 ^ 16 := Nat.pow_le_pow_right (by omega) (by omega)
  have pp : 0 < 2 ^ n := Nat.two_pow_pos n
  have e1 : iShl 1 (n : Int) = ((2 ^ n : Nat) : Int) := by
    have := nShl (a := 1) (k := n) (by omega) (by omega)
    rwa [Nat.one_mul] at this
  have b := bc_all n (by omega) k (by omega)
  have ez : onZ (k : Int) = (bcN k : Nat) := by unfold onZ; rw [Int.toNat_natCast]
  rw [ez, e1]
  refine ⟨⟨fun h1 e => ?_, fun h1 => ?_⟩, inR_of (by omega) (by omega)⟩
  · have := b.2.mpr (by omega); omega
  · rcases Nat.lt_or_ge (bcN k) n with g | g
    · omega
    · have := b.2.mp (by omega); omega
/-- after how many days all is printed -/
noncomputable def ouZ (K : Kt) (s t : Int → Int) (al : Int) : Nat → Nat → Int
  | 0, i => if (dyN K 1 s t i).1 7 = al then i else -1
  | m + 1, i => if (dyN K 1 s t i).1 7 = al then i else ouZ K s t al m (i + 1)
theorem o13 (hd : 20 ≤ d) (hI : Inv μ) : OP E d 126 241 [] μ := by
  obtain ⟨K, ok, k2, k3⟩ := hI.1.1
  obtain ⟨s, s1, s2, s3, s4⟩ := hI.1.2.1
  have tr := hI.1.2.2.1
  have e36 : μ 36 0 = jc K := k2.2.1.1
  have b0 := s1.1
  have c0 := ok.2.1.1
  have c16 := ok.2.1.2.1
  have h7 : s 7 < ((2 ^ (jc K).toNat : Nat) : Int) := by have := s2.2; rwa [e36] at this
  have hT : ∀ m, (dyN K 1 s (μ 127) m).2 = μ 127 := fun m => dyN_T (by decide) m
  have hal : ∀ i : Nat, i ≤ 61 → (onZ ((dyN K 1 s (μ 127) i).1 7) < jc K ↔ (dyN K 1 s (μ 127) i).1 7 ≠ iShl 1 (jc K) - 1) ∧ inR (iShl 1 (jc K) - 1) := fun i hi => all_iff c0 c16 (dyN_b (th := 1) (t := μ 127) ok s1 i (by have := s2.1; omega)).1.2.2.2.1.1 (dyN_7 ok s1 h7 i (by have := s2.1; omega))
  have hir := (hal 0 (by omega)).2
  generalize hA : iShl 1 (jc K) - 1 = al at *
  have model : ∀ {μ1 : Mm}, Inv μ1 → KM μ1 K → StM μ1 124 0 s → (∀ j, 0 ≤ j → j < 600 → μ1 127 j = μ 127 j) → Ct E d 241 [.inr 123] μ1 (rI fun w μ2 => ouZ K s (μ 127) al 60 0 = w ∧ Inv μ2) := by
    intro μ1 hI1 hK1 hS1 h17
    have key : ∀ (m i : Nat) (μ2 : Mm), i + m = 60 → Ep Fn μ1 μ2 → StM μ2 124 0 (dyN K 1 s (μ 127) i).1 → (∀ i, 0 ≤ i → i < 28 → μ2 126 i = μ1 124 i) → (∀ j, 0 ≤ j → j < 600 → μ2 127 j = μ 127 j) → μ2 123 5 = 1 → ouZ K s (μ 127) al 60 0 = ouZ K s (μ 127) al m i → G E d 241 (rI fun w μ2 => ouZ K s (μ 127) al 60 0 = w ∧ Inv μ2) 7 [some (.inr 123), some (.inl (i : Int))] [] μ2 := by
      intro m
      have step : ∀ (i : Nat) (μ2 : Mm), i ≤ 60 → Ep Fn μ1 μ2 → StM μ2 124 0 (dyN K 1 s (μ 127) i).1 → (∀ i, 0 ≤ i → i < 28 → μ2 126 i = μ1 124 i) → (∀ j, 0 ≤ j → j < 600 → μ2 127 j = μ 127 j) → μ2 123 5 = 1 → ((dyN K 1 s (μ 127) i).1 7 = al → ouZ K s (μ 127) al 60 0 = i) → ((dyN K 1 s (μ 127) i).1 7 ≠ al → ∀ μ4, Ep Fn μ1 μ4 → StM μ4 124 0 (dyN K 1 s (μ 127) (i + 1)).1 → (∀ i, 0 ≤ i → i < 28 → μ4 126 i = μ1 124 i) → (∀ j, 0 ≤ j → j < 600 → μ4 127 j = μ 127 j) → μ4 123 5 = 1 → G E d 241 (rI fun w μ2 => ouZ K s (μ 127) al 60 0 = w ∧ Inv μ2) 7 [some (.inr 123), some (.inl ((i : Int) + 1))] [] μ4) → G E d 241 (rI fun w μ2 => ouZ K s (μ 127) al 60 0 = w ∧ Inv μ2) 7 [some (.inr 123), some (.inl (i : Int))] [] μ2 := by
        intro i μ2 hi hE2 hS2 h6 h7' h5 hy hn
        have hyb := dyN_b (th := 1) (t := μ 127) ok s1 i (by have := s2.1; omega)
        have e7 := hS2.at (i := 7) (by omega) (by omega)
        have hK2 := hK1.fn ok hE2
        have e31 : μ2 123 31 = jc K := hK2.2.1.1
        refine v241_7 (by omega) ⟨inR_of (by omega) (by omega), fun k => by omega, fun _ => ?_⟩
        rw [e7]
        refine s157 (by omega) hyb.1.2.2.2.1.1 hyb.1.2.2.2.1.2 ?_
        have ob := onZ_b ((dyN K 1 s (μ 127) i).1 7)
        have hi2 := hal i (by omega)
        simp only [rI]
        rw [e31]
        refine ⟨inR_of (by omega) (by omega), inR_of (by omega) (by omega), fun k => ?_, fun k => ?_⟩
        · have ea : (dyN K 1 s (μ 127) i).1 7 = al := Classical.not_not.mp (fun g => by have := hi2.1.mpr g; omega)
          exact fin162 (by omega) hI1 hE2 h6 (fun j j0 j1 => by rw [h7' j j0 j1, h17 j j0 j1]) (fun μ3 h3 => ⟨inR_of (by omega) (by omega), fun _ => ⟨hy ea, h3⟩, fun k2 => by omega⟩)
        · refine b230 (t := (dyN K 1 s (μ 127) i).2) (by omega) (Or.inr rfl) hK2 ok h5 hS2 hyb.1 (fun j j0 j1 => by rw [hT]; exact h7' j j0 j1) (fun μ4 h4 hS4 hT4 => ?_)
          have e7 : ∀ j, 0 ≤ j → j < 600 → μ4 127 j = μ 127 j := fun j j0 j1 => by
            rw [hT4 j j0 j1]
            show (dyN K 1 s (μ 127) (i + 1)).2 j = _
            rw [hT]
          exact hn (hi2.1.mp k) μ4 (hE2.tr (h4.mono (fun o i k => SmN k))) hS4 (fun j j0 j1 => by rw [h4 _ _ (by unfold Sm; omega)]; exact h6 j j0 j1) e7 (by rw [h4 _ _ (by unfold Sm; omega)]; exact h5)
      induction m with
      | zero =>
        intro i μ2 hi hE2 hS2 h6 h7' h5 ho
        have hi : i = 60 := by omega
        subst hi
        refine step 60 μ2 (by omega) hE2 hS2 h6 h7' h5 (fun k => by rw [ho]; unfold ouZ; rw [if_pos k]) (fun k μ4 g1 g2 g3 g4 g5 => ?_)
        have hz : ouZ K s (μ 127) al 60 0 = -1 := by rw [ho]; unfold ouZ; rw [if_neg k]
        refine v241_7 (by omega) ⟨inR_of (by omega) (by omega), fun _ => ?_, fun k => by omega⟩
        exact fin162 (by omega) hI1 g1 g3 (fun j j0 j1 => by rw [g4 j j0 j1, h17 j j0 j1]) (fun μ3 h3 => ⟨inR_of (by omega) (by omega), fun k2 => by omega, fun _ => ⟨hz, h3⟩⟩)
      | succ m ih =>
        intro i μ2 hi hE2 hS2 h6 h7' h5 ho
        refine step i μ2 (by omega) hE2 hS2 h6 h7' h5 (fun k => by rw [ho]; unfold ouZ; rw [if_pos k]) (fun k μ4 g1 g2 g3 g4 g5 => ?_)
        exact ih (i + 1) μ4 (by omega) g1 g2 g3 g4 g5 (by rw [ho]; conv => lhs; unfold ouZ; rw [if_neg k])
    refine v241 (by omega) (s161 (by omega) (fun μ2 h2 h6 h5 => ?_))
    refine key 60 0 μ2 (by omega) ((Ep.rf.mu (by unfold Fn; omega)).tr (h2.mono (fun o i k => by unfold Fn; omega))) (hS1.cg (fun i _ _ => by rw [h2 _ _ (by omega), mu_o (by decide)])) (fun i i0 i1 => by rw [h6 i i0 i1, mu_o (by decide)]) (fun j j0 j1 => ?_) h5 rfl
    rw [h2 _ _ (by omega), mu_o (by decide)]
    exact h17 j j0 j1
  refine s95 (by omega) (Or.inl rfl) (Or.inr (Or.inl rfl)) (by decide) (fun μ0 h0 hC => ?_) |> v37 (by omega) |> v126 (by omega)
  have e0 : Ep (Sd 59) μ μ0 := h0.mono (fun o i k => by unfold Sd; omega)
  have key : ∀ (m i : Nat) (μ1 : Mm), i + m = 60 → Ep (Sd 59) μ μ1 → StW μ1 59 (dyN K 1 s (μ 127) i).1 → (∀ j, 0 ≤ j → j < 600 → μ1 58 j = μ 127 j) → ouZ K s (μ 127) al 60 0 = ouZ K s (μ 127) al m i → G E d 126 (rI fun z μ1 => Ct E d 241 [.inr 123] μ1 (rI fun w μ2 => z = w ∧ Inv μ2)) 15 [some (.inr 0), some (.inl al), some (.inr 59), some (.inl (i : Int))] [] μ1 := by
    intro m
    have mdl : ∀ {μ1 : Mm}, Ep (Sd 59) μ μ1 → (∀ j, 0 ≤ j → j < 600 → μ1 58 j = μ 127 j) → Ct E d 241 [.inr 123] μ1 (rI fun w μ2 => ouZ K s (μ 127) al 60 0 = w ∧ Inv μ2) := fun hE h8 =>
      model (hI.cm hE (fun j j0 j1 => by rw [h8 j j0 j1]; exact (tr j j0 j1).symm)) (k3.cg ok (fun o i k => hE o i (by unfold kmS at k; unfold Sd; omega))) (s4.cg (fun i _ _ => hE _ _ (by unfold Sd; omega))) (fun j _ _ => hE _ _ (by unfold Sd; omega))
    induction m with
    | zero =>
      intro i μ1 hi hE hS h8 ho
      have mm := mdl hE h8
      rw [ho] at mm
      unfold ouZ at mm
      have hy := dyN_b (th := 1) (t := μ 127) ok s1 i (by have := s2.1; omega)
      have a7 : μ1 59 2 = (dyN K 1 s (μ 127) i).1 7 := hS.2.2.2.2.2.2.2.1
      have a0 : μ1 59 7 = (dyN K 1 s (μ 127) i).1 0 := hS.1
      have a25 : μ1 25 7 = s 0 := by rw [hE _ _ (by unfold Sd; omega)]; exact s3.1
      have b7 := hy.1.2.2.2.1
      refine v126_15 (by omega) ⟨inR_of (by omega) (by omega), fun _ => ⟨rfl, ?_⟩, fun k => by omega⟩
      rw [a7, a0, a25, hy.2]
      refine ⟨inR_of (by omega) (by omega), hir, fun k => ?_, fun k => ⟨rfl, ?_⟩⟩
      · rw [if_neg k] at mm; exact mm
      · rw [if_pos k] at mm
        rw [show s 0 + (i : Int) - s 0 = i by omega]; exact mm
    | succ m ih =>
      intro i μ1 hi hE hS h8 ho
      have hy := dyN_b (th := 1) (t := μ 127) ok s1 i (by have := s2.1; omega)
      have a7 : μ1 59 2 = (dyN K 1 s (μ 127) i).1 7 := hS.2.2.2.2.2.2.2.1
      have a0 : μ1 59 7 = (dyN K 1 s (μ 127) i).1 0 := hS.1
      have a25 : μ1 25 7 = s 0 := by rw [hE _ _ (by unfold Sd; omega)]; exact s3.1
      have b7 := hy.1.2.2.2.1
      refine v126_15 (by omega) ⟨inR_of (by omega) (by omega), fun k => by omega, fun _ => ⟨rfl, ?_⟩⟩
      rw [a7, a0, a25, hy.2]
      refine ⟨inR_of (by omega) (by omega), hir, fun k => ⟨rfl, inR_of (by omega) (by omega), hir, fun k2 => absurd k k2, fun _ => ⟨rfl, ?_⟩⟩, fun k => ?_⟩
      · have mm := mdl hE h8
        rw [ho] at mm
        unfold ouZ at mm
        rw [if_pos k] at mm
        rw [show s 0 + (i : Int) - s 0 = i by omega]; exact mm
      · refine a21_59 (t := (dyN K 1 s (μ 127) i).2) (by omega) (k2.t59 hE) ok ⟨Or.inr rfl, Or.inr rfl, fun k => absurd k (by decide)⟩ hS hy.1 (by rw [hy.2]; have := s2.1; omega) (fun j j0 j1 => by rw [hT]; exact h8 j j0 j1) (fun μ3 h3 hS3 hT3 => ?_)
        refine ih (i + 1) μ3 (by omega) (hE.tr h3) hS3 (fun j j0 j1 => ?_) (by rw [ho]; conv => lhs; unfold ouZ; rw [if_neg k])
        rw [hT3 j j0 j1]
        show (dyN K 1 s (μ 127) (i + 1)).2 j = _
        rw [hT]
  show G E d 126 _ 15 [some (.inr 0), some (.inl ((iShl 1 (μ 36 0)) - 1)), some (.inr 59), some (.inl 0)] [] μ0
  rw [e36, hA]
  exact key 60 0 μ0 (by omega) e0 (hC s s3) (fun j j0 j1 => by rw [h0 _ _ (by omega)]; exact tr j j0 j1) rfl
end S45
