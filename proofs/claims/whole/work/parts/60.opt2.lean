/-! call by call: goes, out -/
section S44
variable {E : En} {d : Nat} {μ μ' μ'' : Mm} {Φ : Option AV → Mm → Prop} {K : Kt} {s t : Int → Int}
def goZ (s : Int → Int) (b : Int) : Int := if b = 0 then s 5 else if b = 1 then s 4 else if b = 2 then su (fun i => s (8 + i)) 10 else s 6
/-- cells of thoughts -/
def Ft : Nat → Int → Prop := fun o i => Sd 59 o i ∨ o = 124 ∨ o = 127 ∨ o = 126 ∨ (142 ≤ o ∧ o ≤ 145) ∨ (o = 123 ∧ (i = 0 ∨ i = 5))
theorem Inv.th (hI : Inv μ) (e : Ep Ft μ μ') (h58 : ∀ i, 0 ≤ i → i < 600 → μ' 58 i = μ 58 i) (h127 : ∀ i, 0 ≤ i → i < 600 → μ' 127 i = μ 127 i) (h124 : ∀ i, 0 ≤ i → i < 28 → μ' 124 i = μ 124 i) (h5 : μ' 123 5 = 0) : Inv μ' := by
  have g : ∀ o i, ¬ Ft o i → μ' o i = μ o i := fun o i hn => e o i hn
  have ft : ∀ {o : Nat} {i : Int}, Ft o i → cnt o i = 0 ∨ (o = 58 ∨ o = 124 ∨ o = 127 ∨ (o = 123 ∧ i = 5)) := fun {o i} k => by
    unfold Ft Sd at k
    rcases k with (rfl | rfl | rfl | rfl | rfl | rfl | rfl | rfl | rfl) | rfl | rfl | rfl | k | ⟨rfl, rfl | rfl⟩
    · exact Or.inl rfl
    · exact Or.inl rfl
    · exact Or.inl rfl
    · exact Or.inl rfl
    · exact Or.inr (Or.inl rfl)
    · exact Or.inl rfl
    · exact Or.inl rfl
    · exact Or.inl rfl
    · exact Or.inl rfl
    · exact Or.inr (Or.inr (Or.inl rfl))
    · exact Or.inr (Or.inr (Or.inr (Or.inl rfl)))
    · exact Or.inl rfl
    · rcases (by omega : o = 142 ∨ o = 143 ∨ o = 144 ∨ o = 145) with rfl | rfl | rfl | rfl <;> exact Or.inl rfl
    · exact Or.inl rfl
    · exact Or.inr (Or.inr (Or.inr (Or.inr ⟨rfl, rfl⟩)))
  have c : Cg [0, 1, 7] μ μ' := fun o i hn => g o i (fun k => by
    rcases ft k with k | rfl | rfl | rfl | ⟨rfl, rfl⟩
    · rw [k] at hn; exact hn (by decide)
    · exact hn (by rw [show cnt 58 i = 1 from rfl]; decide)
    · rcases c0i (a := 28) (i := i) (k := 1) with h | h
      · exact hn (by rw [show cnt 124 i = 0 from h]; decide)
      · exact hn (by rw [show cnt 124 i = 1 from h]; decide)
    · rcases c0i (a := 600) (i := i) (k := 1) with h | h
      · exact hn (by rw [show cnt 127 i = 0 from h]; decide)
      · exact hn (by rw [show cnt 127 i = 1 from h]; decide)
    · exact hn (by decide))
  obtain ⟨s, s1, s2, s3, s4⟩ := hI.1.2.1
  have g36 : μ' 36 0 = μ 36 0 := g _ _ (by unfold Ft Sd; omega)
  refine ⟨hI.1.dy (fun o i k1 k2 => g o i (fun k => ?_)) ⟨s, s1, by rw [g36]; exact s2, s3.cg (fun k i hk => g _ _ (by unfold Ft Sd; omega)), s4.cg (fun i i0 i1 => h124 i (by omega) (by omega))⟩ (fun j j0 j1 => by rw [h58 j j0 j1, h127 j j0 j1]; exact hI.1.2.2.1 j j0 j1), hI.2.1.cs c (by decide) g36, hI.2.2.1.cs c (by decide), hI.2.2.2.1.cs c (by decide), hI.2.2.2.2.1.cs c (by decide), hI.2.2.2.2.2.1.cs c (by decide), ⟨h5, fun i hi => by rw [g _ _ (by unfold Ft Sd; omega)]; exact hI.2.2.2.2.2.2.2 i hi⟩⟩
  rcases ft k with k | rfl | rfl | rfl | ⟨rfl, rfl⟩
  · rw [k] at k1; cases k1
  · exact k2 (by omega)
  · exact k2 (by omega)
  · exact k2 (by omega)
  · have k1 : (7 : Nat) = 1 := k1; cases k1
theorem Inv.cm (hI : Inv μ) (e : Ep (Sd 59) μ μ') (h58 : ∀ i, 0 ≤ i → i < 600 → μ' 58 i = μ 58 i) : Inv μ' :=
  hI.th (e.mono (fun o i k => Or.inl k)) h58 (fun i _ _ => e _ _ (by unfold Sd; omega)) (fun i _ _ => e _ _ (by unfold Sd; omega)) (by rw [e _ _ (by unfold Sd; omega)]; exact hI.2.2.2.2.2.2.1)
/-- the cells of a thought of the reference -/
def Fn : Nat → Int → Prop := fun o i => o = 124 ∨ o = 127 ∨ o = 126 ∨ (142 ≤ o ∧ o ≤ 145) ∨ (o = 123 ∧ (i = 0 ∨ i = 5))
theorem KW.t59 (h : KW μ K) (e : Ep (Sd 59) μ μ') : KW μ' K := h.ep e fun k i k0 k1 k2 => by unfold Sd; omega
theorem KM.fn (h : KM μ K) (ok : KOK K) (e : Ep Fn μ μ') : KM μ' K := h.cg ok fun o i k => e o i (by unfold kmS at k; unfold Fn; omega)
theorem SmN {o : Nat} {i : Int} (h : Sm o i) : Fn o i := by unfold Sm at h; unfold Fn; omega
/-- a thought of the reference ends -/
theorem fin162 (hd : 2 ≤ d) (hI : Inv μ) {μ2 : Mm} (hE : Ep Fn μ μ2) (h126 : ∀ i, 0 ≤ i → i < 28 → μ2 126 i = μ 124 i) (h127 : ∀ i, 0 ≤ i → i < 600 → μ2 127 i = μ 127 i) (h : ∀ μ3, Inv μ3 → Φ none μ3) : Ct E d 162 [.inr 123] μ2 Φ :=
  s162 (by omega) fun μ3 h3 h4 h5 => h μ3 (hI.th ((hE.mono (fun o i k => by unfold Fn at k; unfold Ft; omega)).tr (h3.mono (fun o i k => by unfold Ft; omega))) (fun i _ _ => by rw [h3 _ _ (by omega), hE _ _ (by unfold Fn; omega)]) (fun i i0 i1 => by rw [h3 _ _ (by omega)]; exact h127 i i0 i1) (fun i i0 i1 => by rw [h4 i i0 i1]; exact h126 i i0 i1) h5)
theorem o12 {a b : Int} (hd : 20 ≤ d) (ha : inR a) (hb : inR b) (hI : Inv μ) : OP E d 125 240 [.inl a, .inl b] μ := by
  obtain ⟨K, ok, k2, k3⟩ := hI.1.1
  obtain ⟨s, s1, s2, s3, s4⟩ := hI.1.2.1
  have tr := hI.1.2.2.1
  have b0 := s1.1
  have no : ¬ (1 ≤ a ∧ a ≤ 60 ∧ 0 ≤ b ∧ b ≤ 3) → Ct E d 240 [.inr 123, .inl a, .inl b] μ (rI fun w μ2 => -1 = w ∧ Inv μ2) := fun hn =>
    v240 (by omega) (s153 (by omega) ha (inR_of (by omega) (by omega)) (inR_of (by omega) (by omega)) ⟨b2_in _, fun _ => ⟨rfl, hI.sc sc0⟩, fun k => s153 (by omega) hb (inR_of (by omega) (by omega)) (inR_of (by omega) (by omega)) ⟨b2_in _, fun k2 => absurd ⟨(b2_ne0.mp k).1, (b2_ne0.mp k).2, (b2_ne0.mp k2).1, (b2_ne0.mp k2).2⟩ hn, fun _ => ⟨rfl, hI.sc sc0⟩⟩⟩)
  refine v125 (by omega) ⟨ha, fun k => no (by omega), fun k => ⟨ha, fun k' => no (by omega), fun k' => ⟨hb, fun k3' => no (by omega), fun k3' => ⟨hb, fun k4 => ?_, fun k4 => no (by omega)⟩⟩⟩⟩
  obtain ⟨n, rfl⟩ := Int.eq_ofNat_of_zero_le (show 0 ≤ a by omega)
  have model : ∀ {μ1 : Mm}, Inv μ1 → KM μ1 K → StM μ1 124 0 s → (∀ j, 0 ≤ j → j < 600 → μ1 127 j = μ 127 j) → Ct E d 240 [.inr 123, .inl (n : Int), .inl b] μ1 (rI fun w μ2 => goZ (dyN K 1 s (μ 127) n).1 b = w ∧ Inv μ2) := by
    intro μ1 hI1 hK1 hS1 h17
    have key : ∀ (m i : Nat) (μ2 : Mm), i + m = n → Ep Fn μ1 μ2 → StM μ2 124 0 (dyN K 1 s (μ 127) i).1 → (∀ i, 0 ≤ i → i < 28 → μ2 126 i = μ1 124 i) → (∀ j, 0 ≤ j → j < 600 → μ2 127 j = μ1 127 j) → (∀ j, 0 ≤ j → j < 600 → μ2 127 j = μ 127 j) → μ2 123 5 = 1 → G E d 240 (rI fun w μ2 => goZ (dyN K 1 s (μ 127) n).1 b = w ∧ Inv μ2) 21 [some (.inr 123), some (.inl (n : Int)), some (.inl b), some (.inl (i : Int))] [] μ2 := by
      intro m
      induction m with
      | zero =>
        intro i μ2 hi hE2 hS2 h6 h7 h7' h5
        have : i = n := by omega
        subst this
        have e5 := hS2.at (i := 5) (by omega) (by omega)
        have e4 := hS2.at (i := 4) (by omega) (by omega)
        have e6 := hS2.at (i := 6) (by omega) (by omega)
        have fin := fun (w : Int) (hw : goZ (dyN K 1 s (μ 127) i).1 b = w) => fin162 (E := E) (d := d - 1) (Φ := rV fun μ3 => (rI fun w μ2 => goZ (dyN K 1 s (μ 127) i).1 b = w ∧ Inv μ2) (some (.inl w)) μ3) (by omega) hI1 hE2 h6 h7 (fun μ3 h3 => ⟨hw, h3⟩)
        refine v240_21 (by omega) ⟨inR_of (by omega) (by omega), inR_of (by omega) (by omega), fun _ => ⟨hb, fun n0 => ⟨hb, fun n1 => ⟨hb, fun n2 => fin _ ?_, fun n2 => s239 (by omega) (fin _ ?_)⟩, fun n1 => fin _ ?_⟩, fun n0 => fin _ ?_⟩, fun k => by omega⟩
        · unfold goZ; rw [if_neg n0, if_neg n1, if_neg n2, e6]
        · unfold goZ; rw [if_neg n0, if_neg n1, if_pos n2]
          exact su_c _ (fun j hj => (hS2.at (by omega) (by omega)).symm)
        · unfold goZ; rw [if_neg n0, if_pos n1, e4]
        · unfold goZ; rw [if_pos n0, e5]
      | succ m ih =>
        intro i μ2 hi hE2 hS2 h6 h7 h7' h5
        have hy := dyN_b (th := 1) (t := μ 127) ok s1 i (by have := s2.1; omega)
        refine v240_21 (by omega) ⟨inR_of (by omega) (by omega), inR_of (by omega) (by omega), fun k => by omega, fun _ => ?_⟩
        have hT : ∀ m, (dyN K 1 s (μ 127) m).2 = μ 127 := fun m => dyN_T (by decide) m
        refine b230 (t := (dyN K 1 s (μ 127) i).2) (by omega) (Or.inr rfl) (hK1.fn ok hE2) ok h5 hS2 hy.1 (fun j j0 j1 => by rw [hT]; exact h7' j j0 j1) (fun μ4 h4 hS4 hT4 => ?_)
        have e7 : ∀ j, 0 ≤ j → j < 600 → μ4 127 j = μ 127 j := fun j j0 j1 => by
          rw [hT4 j j0 j1]
          show (dyN K 1 s (μ 127) (i + 1)).2 j = _
          rw [hT]
        refine ih (i + 1) μ4 (by omega) (hE2.tr (h4.mono (fun o i k => SmN k))) hS4 (fun j j0 j1 => by rw [h4 _ _ (by unfold Sm; omega)]; exact h6 j j0 j1) (fun j j0 j1 => by rw [e7 j j0 j1, ← h7' j j0 j1, h7 j j0 j1]) e7 (by rw [h4 _ _ (by unfold Sm; omega)]; exact h5)
    refine v240 (by omega) (s153 (by omega) ha (inR_of (by omega) (by omega)) (inR_of (by omega) (by omega)) ⟨b2_in _, fun k => absurd (by omega) (b2_0.mp k), fun _ => s153 (by omega) hb (inR_of (by omega) (by omega)) (inR_of (by omega) (by omega)) ⟨b2_in _, fun _ => s161 (by omega) (fun μ2 h2 h6 h5 => ?_), fun k => absurd (by omega) (b2_0.mp k)⟩⟩)
    refine key n 0 μ2 (by omega) ((Ep.rf.mu (by unfold Fn; omega)).tr (h2.mono (fun o i k => by unfold Fn; omega))) (hS1.cg (fun i _ _ => by rw [h2 _ _ (by omega), mu_o (by decide)])) (fun i i0 i1 => by rw [h6 i i0 i1, mu_o (by decide)]) (fun j _ _ => by rw [h2 _ _ (by omega), mu_o (by decide)]) (fun j j0 j1 => ?_) h5
    rw [h2 _ _ (by omega), mu_o (by decide)]
    exact h17 j j0 j1
  refine s95 (by omega) (Or.inl rfl) (Or.inr (Or.inl rfl)) (by decide) (fun μ0 h0 hC => ?_) |> v37 (by omega)
  have e0 : Ep (Sd 59) μ μ0 := h0.mono (fun o i k => by unfold Sd; omega)
  have hT : ∀ m, (dyN K 1 s (μ 127) m).2 = μ 127 := fun m => dyN_T (by decide) m
  have key : ∀ (m i : Nat) (μ1 : Mm), i + m = n → Ep (Sd 59) μ μ1 → StW μ1 59 (dyN K 1 s (μ 127) i).1 → (∀ j, 0 ≤ j → j < 600 → μ1 58 j = μ 127 j) → G E d 125 (rI fun z μ1 => Ct E d 240 [.inr 123, .inl (n : Int), .inl b] μ1 (rI fun w μ2 => z = w ∧ Inv μ2)) 19 [some (.inr 0), some (.inl (n : Int)), some (.inl b), some (.inr 59), some (.inl (i : Int))] [] μ1 := by
    intro m
    induction m with
    | zero =>
      intro i μ1 hi hE hS h8
      have : i = n := by omega
      subst this
      obtain ⟨t1, t2, t3, t4, t5, t6, t7, t8, t9, t10⟩ := hS
      have mm := model (hI.cm hE (fun j j0 j1 => by rw [h8 j j0 j1]; exact (tr j j0 j1).symm)) (k3.cg ok (fun o i k => hE o i (by unfold kmS at k; unfold Sd; omega))) (s4.cg (fun i _ _ => hE _ _ (by unfold Sd; omega))) (fun j _ _ => hE _ _ (by unfold Sd; omega))
      refine v125_19 (by omega) ⟨inR_of (by omega) (by omega), inR_of (by omega) (by omega), fun _ => ⟨hb, fun n0 => ⟨rfl, ?_⟩, fun n1 => ⟨rfl, ?_⟩, fun n2 => ⟨rfl, s97_59 (by omega) ?_⟩, fun n0 n1 n2 => ⟨rfl, ?_⟩⟩, fun k => by omega⟩
      · rw [show goZ (dyN K 1 s (μ 127) i).1 b = μ1 59 5 by unfold goZ; rw [if_pos n0, t6]] at mm
        exact mm
      · rw [show goZ (dyN K 1 s (μ 127) i).1 b = μ1 59 4 by unfold goZ; rw [if_neg (by omega), if_pos n1, t5]] at mm
        exact mm
      · rw [show goZ (dyN K 1 s (μ 127) i).1 b = su (fun i => μ1 60 i) 10 by
          unfold goZ; rw [if_neg (by omega), if_neg (by omega), if_pos n2]
          exact su_c _ (fun j hj => (t9 j (by omega) (by omega)).symm)] at mm
        exact mm
      · rw [show goZ (dyN K 1 s (μ 127) i).1 b = μ1 59 6 by unfold goZ; rw [if_neg n0, if_neg n1, if_neg n2, t7]] at mm
        exact mm
    | succ m ih =>
      intro i μ1 hi hE hS h8
      have hy := dyN_b (th := 1) (t := μ 127) ok s1 i (by have := s2.1; omega)
      refine v125_19 (by omega) ⟨inR_of (by omega) (by omega), inR_of (by omega) (by omega), fun k => by omega, fun _ => ?_⟩
      refine a21_59 (t := (dyN K 1 s (μ 127) i).2) (by omega) (k2.t59 hE) ok ⟨Or.inr rfl, Or.inr rfl, fun k => absurd k (by decide)⟩ hS hy.1 (by rw [hy.2]; have := s2.1; omega) (fun j j0 j1 => by rw [hT]; exact h8 j j0 j1) (fun μ3 h3 hS3 hT3 => ?_)
      refine ih (i + 1) μ3 (by omega) (hE.tr h3) hS3 (fun j j0 j1 => ?_)
      rw [hT3 j j0 j1]
      show (dyN K 1 s (μ 127) (i + 1)).2 j = _
      rw [hT]
  exact key n 0 μ0 (by omega) e0 (hC s s3) (fun j j0 j1 => by rw [h0 _ _ (by omega)]; exact tr j j0 j1)
end S44
