/-! a text is heard, in the reference -/
section S75
variable {E : En} {d : Nat} {Φ : Option AV → Mm → Prop} {μ μ' μ0 : Mm} {n p q c : Int} {T : Int → Int} {l : Cd}
theorem R0_b {o : Nat} {i : Int} (h : R0 o i) : o ≠ 128 ∧ o ≠ 129 ∧ o ≠ 130 ∧ o ≠ 124 ∧ ¬ (o = 123 ∧ (i = 3 ∨ i = 31 ∨ i = 32 ∨ i = 36)) := by unfold R0 at h; omega
theorem Sq_0 {o : Nat} {i : Int} (h : Sq o i) : R0 o i := by unfold Sq at h; unfold R0; omega
theorem Sm7_0 {o : Nat} {i : Int} (h : Sm7 o i) : R0 o i := by
  unfold Sm7 Sm9 at h
  rcases h with (h | h) | h
  · exact Sq_0 h
  · unfold R0; omega
  · unfold R0; omega
theorem SmJ_0 {o : Nat} {i : Int} (h : SmJ o i) : R0 o i := by
  unfold SmJ at h
  rcases h with h | h
  · exact Sq_0 h
  · unfold R0; omega
theorem SmD_0 {o : Nat} {i : Int} (h : SmD o i) : R0 o i := by
  unfold SmD at h
  rcases h with h | h
  · exact Sq_0 h
  · unfold R0; omega
/-- how it stands when the first piece is read -/
def RB0 (k : Nat) (n : Int) (T : Int → Int) (μ : Mm) : Prop := MX k n T μ 0 ∧ μ 123 23 = 0 ∧ μ 123 24 = 0 ∧ μ 123 22 = 0 ∧ μ 123 29 = 0 ∧ μ 123 30 = -1
theorem u204 {a : Int} {k j : Nat} {Post : Int → Mm → Prop} (hk : (k = 0 ∧ a = 0 ∧ j = 191) ∨ (k = 1 ∧ a = 1 ∧ j = 197) ∨ (k = 2 ∧ a = 2 ∧ j = 198) ∨ (k = 3 ∧ a = 3 ∧ j = 200)) (hd : 18 ≤ d) (hT : TaM μ n T) (hB : TB n T) (hW : WD μ) (hJ : ∀ Ψ μ1, Ep R0 μ μ1 → RB0 k n T μ1 → (∀ z μ2, Post z μ2 → Ψ (some (.inl z)) μ2) → Ct E (d - 1 - 1) j [.inr 123] μ1 Ψ) (hR : ∀ z μ2, Post z μ2 → inR z) (hP : ∀ μ2, Post (-1) μ2 → Φ (some (.inl (-1))) (mu (mu (mu μ2 123 29 (μ2 123 27)) 123 30 (μ2 123 28)) 123 8 0)) (hQ : ∀ z μ2, Post z μ2 → z ≠ -1 → (a ≠ 0 → Ct E (d - 1) 203 [.inr 123, .inl a, .inl z] (mu μ2 123 8 0) (rV (fun μ5 => Φ (some (.inl z)) μ5))) ∧ (a = 0 → Ct E (d - 1) 192 [.inr 123, .inl z] (mu μ2 123 8 0) (rV (fun μ6 => Φ (some (.inl z)) μ6)))) : Ct E d 204 [.inr 123, .inl a] μ Φ := by
  have n4 := hB.2.1
  have ia : inR a := inR_of (by omega) (by omega)
  have hak : a = (k : Nat) := by omega
  have e1 : Ep R0 μ (mu (mu (mu (mu (mu (mu μ 123 0 0) 123 29 0) 123 30 (-1)) 123 9 0) 123 23 0) 123 24 0) := (((((Ep.rf.mu (by unfold R0; omega)).mu (by unfold R0; omega)).mu (by unfold R0; omega)).mu (by unfold R0; omega)).mu (by unfold R0; omega)).mu (by unfold R0; omega)
  have e2 : Ep (fun o i => o = 123 ∧ (i = 0 ∨ i = 29 ∨ i = 30 ∨ i = 9 ∨ i = 23 ∨ i = 24)) μ (mu (mu (mu (mu (mu (mu μ 123 0 0) 123 29 0) 123 30 (-1)) 123 9 0) 123 23 0) 123 24 0) := (((((Ep.rf.mu (by omega)).mu (by omega)).mu (by omega)).mu (by omega)).mu (by omega)).mu (by omega)
  have w29 : mu (mu (mu (mu (mu (mu μ 123 0 0) 123 29 0) 123 30 (-1)) 123 9 0) 123 23 0) 123 24 0 123 29 = 0 := by rw [mu_i (by decide), mu_i (by decide), mu_i (by decide), mu_i (by decide), mu_s]
  have w30 : mu (mu (mu (mu (mu (mu μ 123 0 0) 123 29 0) 123 30 (-1)) 123 9 0) 123 23 0) 123 24 0 123 30 = -1 := by rw [mu_i (by decide), mu_i (by decide), mu_i (by decide), mu_s]
  have w9 : mu (mu (mu (mu (mu (mu μ 123 0 0) 123 29 0) 123 30 (-1)) 123 9 0) 123 23 0) 123 24 0 123 9 = 0 := by rw [mu_i (by decide), mu_i (by decide), mu_s]
  have w23 : mu (mu (mu (mu (mu (mu μ 123 0 0) 123 29 0) 123 30 (-1)) 123 9 0) 123 23 0) 123 24 0 123 23 = 0 := by rw [mu_i (by decide), mu_s]
  have w24 : mu (mu (mu (mu (mu (mu μ 123 0 0) 123 29 0) 123 30 (-1)) 123 9 0) 123 23 0) 123 24 0 123 24 = 0 := by rw [mu_s]
  refine v204 (by omega) ?_
  generalize mu (mu (mu (mu (mu (mu μ 123 0 0) 123 29 0) 123 30 (-1)) 123 9 0) 123 23 0) 123 24 0 = μa at *
  refine s153 (by omega) ia (inR_of (by decide) (by decide)) (inR_of (by decide) (by decide)) ⟨b2_in _, fun g => absurd (b2_0.mp g) (fun hn => hn (by omega)), fun _ => v201 (by omega) ?_⟩
  have e3 : Ep (fun o i => o = 123 ∧ (i = 22 ∨ i = 14)) μa (mu (mu μa 123 22 0) 123 14 a) := (Ep.rf.mu (by omega)).mu (by omega)
  have e13 : Ep R0 μ (mu (mu μa 123 22 0) 123 14 a) := e1.tr (e3.mono (fun o i k => by unfold R0; omega))
  have w14 : mu (mu μa 123 22 0) 123 14 a 123 14 = k := by rw [mu_s, hak]
  have w22 : mu (mu μa 123 22 0) 123 14 a 123 22 = 0 := by rw [mu_i (by decide), mu_s]
  generalize mu (mu μa 123 22 0) 123 14 a = μb at *
  have t3 : TaM μb n T := ⟨by rw [e3 _ _ (by omega), e2 _ _ (by omega)]; exact hT.1, fun i i0 i1 => by rw [e3 _ _ (by omega), e2 _ _ (by omega)]; exact hT.2 i i0 i1⟩
  have W3 : WD μb := fun i hi => by rw [e3 _ _ (by omega), e2 _ _ (by omega)]; exact hW i hi
  refine s177 (k := k) (p := 0) (by omega) (by omega) t3 hB W3 w14 (Int.le_refl _) hB.1 (by rw [e3 _ _ (by omega)]; exact w9) (fun μ1 e4 m1 => ?_)
  have hA := hJ
  have e14 : Ep R0 μ μ1 := e13.tr (e4.mono (fun o i k => Sq_0 (Sr_q k)))
  have b0 : RB0 k n T μ1 := ⟨⟨m1, fun i hi => by rw [e4 _ _ (by unfold Sr; omega)]; exact W3 i hi⟩, by rw [e4 _ _ (by unfold Sr; omega), e3 _ _ (by omega)]; exact w23, by rw [e4 _ _ (by unfold Sr; omega), e3 _ _ (by omega)]; exact w24, by rw [e4 _ _ (by unfold Sr; omega)]; exact w22, by rw [e4 _ _ (by unfold Sr; omega), e3 _ _ (by omega)]; exact w29, by rw [e4 _ _ (by unfold Sr; omega), e3 _ _ (by omega)]; exact w30⟩
  have i0 : ∀ {P : Prop} {x y : Int}, x = y → x ≠ y → P := fun e g => absurd e g
  rcases hk with ⟨rfl, rfl, rfl⟩ | ⟨rfl, rfl, rfl⟩ | ⟨rfl, rfl, rfl⟩ | ⟨rfl, rfl, rfl⟩
  · refine ⟨ia, fun _ => ⟨ia, fun _ => ⟨ia, fun _ => hJ _ μ1 e14 b0 (fun z μ2 hp => ?_), fun g => absurd g (by decide)⟩, fun g => absurd g (by decide)⟩, fun g => absurd g (by decide)⟩
    exact ⟨hR z μ2 hp, fun g => ⟨hR z μ2 hp, fun _ => ⟨ia, (hQ z μ2 hp g).1, (hQ z μ2 hp g).2⟩, fun g2 => absurd g2 g⟩, fun g => ⟨hR z μ2 hp, fun g2 => absurd g g2, fun _ => hP μ2 (g ▸ hp)⟩⟩
  · refine ⟨ia, fun g => absurd rfl g, fun _ => hJ _ μ1 e14 b0 (fun z μ2 hp => ?_)⟩
    exact ⟨hR z μ2 hp, fun g => ⟨hR z μ2 hp, fun _ => ⟨ia, (hQ z μ2 hp g).1, (hQ z μ2 hp g).2⟩, fun g2 => absurd g2 g⟩, fun g => ⟨hR z μ2 hp, fun g2 => absurd g g2, fun _ => hP μ2 (g ▸ hp)⟩⟩
  · refine ⟨ia, fun _ => ⟨ia, fun g => absurd rfl g, fun _ => hJ _ μ1 e14 b0 (fun z μ2 hp => ?_)⟩, fun g => absurd g (by decide)⟩
    exact ⟨hR z μ2 hp, fun g => ⟨hR z μ2 hp, fun _ => ⟨ia, (hQ z μ2 hp g).1, (hQ z μ2 hp g).2⟩, fun g2 => absurd g2 g⟩, fun g => ⟨hR z μ2 hp, fun g2 => absurd g g2, fun _ => hP μ2 (g ▸ hp)⟩⟩
  · refine ⟨ia, fun _ => ⟨ia, fun _ => ⟨ia, fun g => absurd rfl g, fun _ => hJ _ μ1 e14 b0 (fun z μ2 hp => ?_)⟩, fun g => absurd g (by decide)⟩, fun g => absurd g (by decide)⟩
    exact ⟨hR z μ2 hp, fun g => ⟨hR z μ2 hp, fun _ => ⟨ia, (hQ z μ2 hp g).1, (hQ z μ2 hp g).2⟩, fun g2 => absurd g2 g⟩, fun g => ⟨hR z μ2 hp, fun g2 => absurd g g2, fun _ => hP μ2 (g ▸ hp)⟩⟩
/-- what is left when it is heard, and when not -/
def YM (S : Nat → Int → Prop) (μ μ' : Mm) : Prop := Ep (fun o i => R0 o i ∨ S o i) μ μ' ∧ μ' 123 8 = 0 ∧ μ' 123 29 = 0 ∧ μ' 123 30 = -1
def NM (f : Flt) (μ μ' : Mm) : Prop := Ep R0 μ μ' ∧ μ' 123 8 = 0 ∧ μ' 123 29 = f.1 ∧ μ' 123 30 = f.2
theorem NM_i {f : Flt} {μ2 : Mm} (e : Ep R0 μ μ2) (h : MF f μ2) : NM f μ (mu (mu (mu μ2 123 29 (μ2 123 27)) 123 30 (μ2 123 28)) 123 8 0) :=
  ⟨((e.mu (by unfold R0; omega)).mu (by unfold R0; omega)).mu (by unfold R0; omega), mu_s _ _ _ _, by rw [mu_i (by decide), mu_i (by decide), mu_s]; exact h.1, by rw [mu_i (by decide), mu_s]; exact h.2⟩
theorem YM_i {S : Nat → Int → Prop} {μ2 μ3 : Mm} (e : Ep R0 μ μ2) (a0 : μ2 123 29 = 0) (a1 : μ2 123 30 = -1) (e2 : Ep S (mu μ2 123 8 0) μ3) (hs : ¬ S 123 8 ∧ ¬ S 123 29 ∧ ¬ S 123 30) : YM S μ μ3 :=
  ⟨((e.mu (by unfold R0; omega)).mono (fun o i => Or.inl)).tr (e2.mono (fun o i => Or.inr)), by rw [e2 _ _ hs.1, mu_s], by rw [e2 _ _ hs.2.1, mu_i (by decide)]; exact a0, by rw [e2 _ _ hs.2.2, mu_i (by decide)]; exact a1⟩
theorem r0_204 (hd : 18 ≤ d) (hT : TaM μ n T) (hB : TB n T) (hW : WD μ) (hy : ∀ c D l, pLL n T 16 0 (fun _ => (0, 0, 0, 0)) 0 [] = .ok (c, D, l) → ∀ μ', YM RL μ μ' → LM μ' c (coD D) l → Φ (some (.inl c)) μ') (hn : ∀ f, pLL n T 16 0 (fun _ => (0, 0, 0, 0)) 0 [] = .error f → ∀ μ', NM f μ μ' → Φ (some (.inl (-1))) μ') : Ct E d 204 [.inr 123, .inl 0] μ Φ := by
  refine u204 (j := 191) (k := 0) (Post := fun z μ2 => Ep R0 μ μ2 ∧ μ2 123 22 = 0 ∧ μ2 123 29 = 0 ∧ μ2 123 30 = -1 ∧ ((0 ≤ z ∧ z ≤ 16 ∧ ∃ D l, pLL n T 16 0 (fun _ => (0, 0, 0, 0)) 0 [] = .ok (z, D, l) ∧ LL μ2 l ∧ l.length ≤ 400 ∧ ∀ j, 0 ≤ j → j < z → lm4 μ2 j (D j)) ∨ (z = -1 ∧ ∃ f, pLL n T 16 0 (fun _ => (0, 0, 0, 0)) 0 [] = .error f ∧ MF f μ2))) (Or.inl ⟨rfl, rfl, rfl⟩) hd hT hB hW (fun Ψ μ1 e1 b0 h => ?_) (fun z μ2 hp => inR_of (by omega) (by omega)) (fun μ2 hp => ?_) (fun z μ2 hp hz => ⟨fun g => absurd rfl g, fun _ => ?_⟩)
  · obtain ⟨m1, b23, b24, b22, b29, b30⟩ := b0
    have n7 : ∀ {i : Int}, i = 22 ∨ i = 29 ∨ i = 30 → ¬ Sm7 123 i := fun hi => by unfold Sm7 Sm9 Sq; omega
    exact v191 (by omega) (g191 (by omega) hB 16 0 _ 0 [] μ1 rfl (Int.le_refl _) m1 ⟨b23, trivial⟩ b24 (Int.le_refl _) (fun j j0 j1 => by omega) (fun c D l e2 μ2 e3 c0 c1 l2 l3 w => h c μ2 ⟨e1.tr (e3.mono (fun o i => Sm7_0)), by rw [e3 _ _ (n7 (by omega))]; exact b22, by rw [e3 _ _ (n7 (by omega))]; exact b29, by rw [e3 _ _ (n7 (by omega))]; exact b30, Or.inl ⟨c0, c1, D, l, e2, l2, l3, fun j j0 j1 => (w j j0 j1).1⟩⟩) (fun f e2 μ2 e3 f2 => h (-1) μ2 ⟨e1.tr (e3.mono (fun o i => Sm7_0)), by rw [e3 _ _ (n7 (by omega))]; exact b22, by rw [e3 _ _ (n7 (by omega))]; exact b29, by rw [e3 _ _ (n7 (by omega))]; exact b30, Or.inr ⟨rfl, f, e2, f2⟩⟩))
  · obtain ⟨e1, h22, h29, h30, ⟨g, -⟩ | ⟨-, f, e2, f2⟩⟩ := hp
    · omega
    · exact hn f e2 _ (NM_i e1 f2)
  · obtain ⟨e1, h22, h29, h30, ⟨z0, z1, D, l, e2, l2, l3, w⟩ | ⟨g, -⟩⟩ := hp
    · have e3 : Ep (fun o i => o = 123 ∧ i = 8) μ2 (mu μ2 123 8 0) := Ep.rf.mu ⟨rfl, rfl⟩
      exact s192 (by omega) (by rw [e3 _ _ (by omega)]; exact h22) z0 z1 (l2.ep e3 (by omega) (fun o i k => by omega)) l3 (fun j j0 j1 => (w j j0 j1).ep e3 (fun o h0 h1 => by omega)) (fun μ3 e4 hL => hy z D l e2 μ3 (YM_i e1 h29 h30 e4 (by unfold RL; omega)) hL)
    · exact absurd g hz
theorem r1_204 (hd : 18 ≤ d) (hT : TaM μ n T) (hB : TB n T) (hW : WD μ) (hy : ∀ c D, pLs 1 n T 1 16 0 (fun _ => (0, 0, 0)) 0 = .ok (c, D) → ∀ μ', YM RJ μ μ' → μ' 123 31 = c → μ' 124 7 = 0 → μ' 123 3 = 0 → (∀ j, 0 ≤ j → j < c → μ' 138 j = (D j).2.2 ∧ (∀ k, 0 ≤ k → k < (D j).2.2 → μ' 139 (8 * j + k) = T ((D j).2.1 + k) - 97) ∧ μ' 140 j = (D j).1) → Φ (some (.inl c)) μ') (hn : ∀ f, pLs 1 n T 1 16 0 (fun _ => (0, 0, 0)) 0 = .error f → ∀ μ', NM f μ μ' → Φ (some (.inl (-1))) μ') : Ct E d 204 [.inr 123, .inl 1] μ Φ := by
  refine u204 (j := 197) (k := 1) (Post := fun z μ2 => Ep R0 μ μ2 ∧ μ2 123 29 = 0 ∧ μ2 123 30 = -1 ∧ ((0 ≤ z ∧ z ≤ 16 ∧ ∃ D, pLs 1 n T 1 16 0 (fun _ => (0, 0, 0)) 0 = .ok (z, D) ∧ ∀ j, 0 ≤ j → j < z → lm1 T μ2 32 1 j (D j) ∧ lnB n T (D j)) ∨ (z = -1 ∧ ∃ f, pLs 1 n T 1 16 0 (fun _ => (0, 0, 0)) 0 = .error f ∧ MF f μ2))) (Or.inr (Or.inl ⟨rfl, rfl, rfl⟩)) hd hT hB hW (fun Ψ μ1 e1 b0 h => ?_) (fun z μ2 hp => inR_of (by omega) (by omega)) (fun μ2 hp => ?_) (fun z μ2 hp hz => ⟨fun _ => ?_, fun g => absurd g (by decide)⟩)
  · obtain ⟨m1, b23, b24, b22, b29, b30⟩ := b0
    have n7 : ∀ {i : Int}, i = 22 ∨ i = 29 ∨ i = 30 → ¬ SmJ 123 i := fun hi => by unfold SmJ Sq; omega
    exact v197 (by omega) (g197 (by omega) hB 16 0 _ 0 μ1 rfl (Int.le_refl _) m1 (fun j j0 j1 => by omega) (fun c D e2 μ2 e3 c0 c1 w => h c μ2 ⟨e1.tr (e3.mono (fun o i => SmJ_0)), by rw [e3 _ _ (n7 (by omega))]; exact b29, by rw [e3 _ _ (n7 (by omega))]; exact b30, Or.inl ⟨c0, c1, D, e2, w⟩⟩) (fun f e2 μ2 e3 f2 => h (-1) μ2 ⟨e1.tr (e3.mono (fun o i => SmJ_0)), by rw [e3 _ _ (n7 (by omega))]; exact b29, by rw [e3 _ _ (n7 (by omega))]; exact b30, Or.inr ⟨rfl, f, e2, f2⟩⟩))
  · obtain ⟨e1, h29, h30, ⟨g, -⟩ | ⟨-, f, e2, f2⟩⟩ := hp
    · omega
    · exact hn f e2 _ (NM_i e1 f2)
  · obtain ⟨e1, h29, h30, ⟨z0, z1, D, e2, w⟩ | ⟨g, -⟩⟩ := hp
    · have e3 : Ep (fun o i => o = 123 ∧ i = 8) μ2 (mu μ2 123 8 0) := Ep.rf.mu ⟨rfl, rfl⟩
      refine v203 (by omega) (g203j (μ0 := mu μ2 123 8 0) (by omega) z0 z1 (fun μ3 e4 w3 w31 w7 w0 => hy z D e2 μ3 (YM_i e1 h29 h30 e4 (by unfold RJ; omega)) w31 w7 w0 (fun j j0 j1 => ?_)) z.toNat 0 _ (by omega) (Int.le_refl _) Ep.rf (fun j j0 j1 => by omega))
      obtain ⟨a1, a2, a3⟩ := w3 j j0 j1
      obtain ⟨⟨q1, q2, q3⟩, q4⟩ := w j j0 j1
      refine ⟨by rw [a1, e3 _ _ (by omega)]; exact q2, fun k k0 k1 => ?_, by rw [a3, e3 _ _ (by omega)]; exact q1 rfl⟩
      have := q4.2.2.2.2.1
      rw [a2 k k0 (by omega), e3 _ _ (by omega)]
      exact q3 k k0 k1
    · exact absurd g hz
theorem r2_204 (hd : 18 ≤ d) (hT : TaM μ n T) (hB : TB n T) (hW : WD μ) (hy : ∀ c D, pLs 2 n T 0 16 0 (fun _ => (0, 0, 0)) 0 = .ok (c, D) → ∀ μ', YM RB μ μ' → μ' 123 32 = c → μ' 123 3 = 0 → (∀ j, 0 ≤ j → j < c → μ' 138 (16 + j) = (D j).2.2 ∧ ∀ k, 0 ≤ k → k < (D j).2.2 → μ' 139 (8 * (16 + j) + k) = T ((D j).2.1 + k) - 97) → Φ (some (.inl c)) μ') (hn : ∀ f, pLs 2 n T 0 16 0 (fun _ => (0, 0, 0)) 0 = .error f → ∀ μ', NM f μ μ' → Φ (some (.inl (-1))) μ') : Ct E d 204 [.inr 123, .inl 2] μ Φ := by
  refine u204 (j := 198) (k := 2) (Post := fun z μ2 => Ep R0 μ μ2 ∧ μ2 123 29 = 0 ∧ μ2 123 30 = -1 ∧ ((0 ≤ z ∧ z ≤ 16 ∧ ∃ D, pLs 2 n T 0 16 0 (fun _ => (0, 0, 0)) 0 = .ok (z, D) ∧ ∀ j, 0 ≤ j → j < z → lm1 T μ2 48 0 j (D j) ∧ lnB n T (D j)) ∨ (z = -1 ∧ ∃ f, pLs 2 n T 0 16 0 (fun _ => (0, 0, 0)) 0 = .error f ∧ MF f μ2))) (Or.inr (Or.inr (Or.inl ⟨rfl, rfl, rfl⟩))) hd hT hB hW (fun Ψ μ1 e1 b0 h => ?_) (fun z μ2 hp => inR_of (by omega) (by omega)) (fun μ2 hp => ?_) (fun z μ2 hp hz => ⟨fun _ => ?_, fun g => absurd g (by decide)⟩)
  · obtain ⟨m1, b23, b24, b22, b29, b30⟩ := b0
    have n7 : ∀ {i : Int}, i = 22 ∨ i = 29 ∨ i = 30 → ¬ SmJ 123 i := fun hi => by unfold SmJ Sq; omega
    exact v198 (by omega) (g198 (by omega) hB 16 0 _ 0 μ1 rfl (Int.le_refl _) m1 (fun j j0 j1 => by omega) (fun c D e2 μ2 e3 c0 c1 w => h c μ2 ⟨e1.tr (e3.mono (fun o i => SmJ_0)), by rw [e3 _ _ (n7 (by omega))]; exact b29, by rw [e3 _ _ (n7 (by omega))]; exact b30, Or.inl ⟨c0, c1, D, e2, w⟩⟩) (fun f e2 μ2 e3 f2 => h (-1) μ2 ⟨e1.tr (e3.mono (fun o i => SmJ_0)), by rw [e3 _ _ (n7 (by omega))]; exact b29, by rw [e3 _ _ (n7 (by omega))]; exact b30, Or.inr ⟨rfl, f, e2, f2⟩⟩))
  · obtain ⟨e1, h29, h30, ⟨g, -⟩ | ⟨-, f, e2, f2⟩⟩ := hp
    · omega
    · exact hn f e2 _ (NM_i e1 f2)
  · obtain ⟨e1, h29, h30, ⟨z0, z1, D, e2, w⟩ | ⟨g, -⟩⟩ := hp
    · have e3 : Ep (fun o i => o = 123 ∧ i = 8) μ2 (mu μ2 123 8 0) := Ep.rf.mu ⟨rfl, rfl⟩
      refine v203 (by omega) (g203b (μ0 := mu μ2 123 8 0) (by omega) z0 z1 (fun μ3 e4 w3 w31 w0 => hy z D e2 μ3 (YM_i e1 h29 h30 e4 (by unfold RB; omega)) w31 w0 (fun j j0 j1 => ?_)) z.toNat 0 _ (by omega) (Int.le_refl _) Ep.rf (fun j j0 j1 => by omega))
      obtain ⟨a1, a2⟩ := w3 j j0 j1
      obtain ⟨⟨q1, q2, q3⟩, q4⟩ := w j j0 j1
      refine ⟨by rw [a1, e3 _ _ (by omega)]; exact q2, fun k k0 k1 => ?_⟩
      have := q4.2.2.2.2.1
      rw [a2 k k0 (by omega), e3 _ _ (by omega)]
      exact q3 k k0 k1
    · exact absurd g hz
theorem r3_204 (hd : 18 ≤ d) (hT : TaM μ n T) (hB : TB n T) (hW : WD μ) (hy : ∀ c D, pCs 3 n T 16 0 (fun _ => (0, 0, 0, 0)) 0 = .ok (c, D) → ∀ μ', YM RC μ μ' → μ' 123 36 = c → μ' 123 3 = 0 → (∀ j, 0 ≤ j → j < c → cm1 μ' (4 * j) (D j)) → Φ (some (.inl c)) μ') (hn : ∀ f, pCs 3 n T 16 0 (fun _ => (0, 0, 0, 0)) 0 = .error f → ∀ μ', NM f μ μ' → Φ (some (.inl (-1))) μ') : Ct E d 204 [.inr 123, .inl 3] μ Φ := by
  refine u204 (j := 200) (k := 3) (Post := fun z μ2 => Ep R0 μ μ2 ∧ μ2 123 29 = 0 ∧ μ2 123 30 = -1 ∧ ((0 ≤ z ∧ z ≤ 16 ∧ ∃ D, pCs 3 n T 16 0 (fun _ => (0, 0, 0, 0)) 0 = .ok (z, D) ∧ ∀ j, 0 ≤ j → j < z → cm1 μ2 (64 + 4 * j) (D j)) ∨ (z = -1 ∧ ∃ f, pCs 3 n T 16 0 (fun _ => (0, 0, 0, 0)) 0 = .error f ∧ MF f μ2))) (Or.inr (Or.inr (Or.inr ⟨rfl, rfl, rfl⟩))) hd hT hB hW (fun Ψ μ1 e1 b0 h => ?_) (fun z μ2 hp => inR_of (by omega) (by omega)) (fun μ2 hp => ?_) (fun z μ2 hp hz => ⟨fun _ => ?_, fun g => absurd g (by decide)⟩)
  · obtain ⟨m1, b23, b24, b22, b29, b30⟩ := b0
    have n7 : ∀ {i : Int}, i = 22 ∨ i = 29 ∨ i = 30 → ¬ SmD 123 i := fun hi => by unfold SmD Sq; omega
    exact v200 (by omega) (g200 (by omega) hB 16 0 _ 0 μ1 rfl (Int.le_refl _) m1 (fun j j0 j1 => by omega) (fun c D e2 μ2 e3 c0 c1 w => h c μ2 ⟨e1.tr (e3.mono (fun o i => SmD_0)), by rw [e3 _ _ (n7 (by omega))]; exact b29, by rw [e3 _ _ (n7 (by omega))]; exact b30, Or.inl ⟨c0, c1, D, e2, fun j j0 j1 => (w j j0 j1).1⟩⟩) (fun f e2 μ2 e3 f2 => h (-1) μ2 ⟨e1.tr (e3.mono (fun o i => SmD_0)), by rw [e3 _ _ (n7 (by omega))]; exact b29, by rw [e3 _ _ (n7 (by omega))]; exact b30, Or.inr ⟨rfl, f, e2, f2⟩⟩))
  · obtain ⟨e1, h29, h30, ⟨g, -⟩ | ⟨-, f, e2, f2⟩⟩ := hp
    · omega
    · exact hn f e2 _ (NM_i e1 f2)
  · obtain ⟨e1, h29, h30, ⟨z0, z1, D, e2, w⟩ | ⟨g, -⟩⟩ := hp
    · have e3 : Ep (fun o i => o = 123 ∧ i = 8) μ2 (mu μ2 123 8 0) := Ep.rf.mu ⟨rfl, rfl⟩
      refine v203 (by omega) (g203c (by omega) z0 z1 (g203d (μ0 := mu μ2 123 8 0) (by omega) z0 z1 (fun μ3 e4 w3 w31 w0 => hy z D e2 μ3 (YM_i e1 h29 h30 e4 (by unfold RC; omega)) w31 w0 (fun j j0 j1 => ?_)) (4 * z).toNat 0 _ (by omega) (Int.le_refl _) Ep.rf (fun j j0 j1 => by omega)) z.toNat 0 (by omega) (Int.le_refl _))
      obtain ⟨q1, q2, q3, q4⟩ := w j j0 j1
      have fr : ∀ x, 0 ≤ x → x < 4 → μ3 141 (4 * j + x) = μ2 141 (64 + 4 * j + x) := fun x x0 x1 => by
        rw [w3 _ (by omega) (by omega), e3 _ _ (by omega), Int.add_assoc]
      have f0 := fr 0 (by omega) (by omega)
      rw [Int.add_zero, Int.add_zero] at f0
      exact ⟨by rw [f0]; exact q1, by rw [fr 1 (by omega) (by omega)]; exact q2, by rw [fr 2 (by omega) (by omega)]; exact q3, by rw [fr 3 (by omega) (by omega)]; exact q4⟩
    · exact absurd g hz
/-- no such kind -/
theorem rx_204 {a : Int} (hd : 18 ≤ d) (ha : inR a) (hk : ¬ (0 ≤ a ∧ a ≤ 3)) (h : ∀ μ', Ep R0 μ μ' → μ' 123 8 = 0 → μ' 123 29 = 0 → μ' 123 30 = -1 → Φ (some (.inl (-1))) μ') : Ct E d 204 [.inr 123, .inl a] μ Φ := by
  have e1 : Ep R0 μ (mu (mu (mu (mu (mu (mu μ 123 0 0) 123 29 0) 123 30 (-1)) 123 9 0) 123 23 0) 123 24 0) := (((((Ep.rf.mu (by unfold R0; omega)).mu (by unfold R0; omega)).mu (by unfold R0; omega)).mu (by unfold R0; omega)).mu (by unfold R0; omega)).mu (by unfold R0; omega)
  refine v204 (by omega) (s153 (by omega) ha (inR_of (by decide) (by decide)) (inR_of (by decide) (by decide)) ⟨b2_in _, fun _ => h _ (e1.mu (by unfold R0; omega)) (mu_s _ _ _ _) ?_ ?_, fun g => absurd (b2_ne0.mp g) hk⟩)
  · rw [mu_i (by decide), mu_i (by decide), mu_i (by decide), mu_i (by decide), mu_i (by decide), mu_s]
  · rw [mu_i (by decide), mu_i (by decide), mu_i (by decide), mu_i (by decide), mu_s]
end S75
