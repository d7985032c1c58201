/-! call by call: act, both together -/
section S48
variable {E : En} {d : Nat} {μ μ' μ'' : Mm} {f : Int → Mm → Prop} {Φ : Option AV → Mm → Prop} {K : Kt} {s t : Int → Int}
theorem Wc_c {o : Nat} {i : Int} (k : Wc o i) : cnt o i = 0 ∨ (cnt o i = 1 ∧ ((25 ≤ o ∧ o ≤ 27) ∨ o = 58)) := by
  unfold Wc at k
  rcases k with rfl | rfl | rfl | rfl | rfl | rfl | rfl | rfl | rfl
  · exact Or.inl rfl
  · exact Or.inl rfl
  · exact Or.inl rfl
  · exact Or.inl rfl
  · exact Or.inr ⟨rfl, by omega⟩
  · exact Or.inr ⟨rfl, by omega⟩
  · exact Or.inr ⟨rfl, by omega⟩
  · exact Or.inr ⟨rfl, by omega⟩
  · exact Or.inl rfl
theorem Inv.wc2 (hI : Inv μ) (hE : Ep Wc μ μ') (hS' : StW μ' 25 s) (hS : StM μ 124 0 s) (hb : StB s) (hs : DP (μ 36 0) s) (ht : ∀ i, 0 ≤ i → i < 600 → μ' 58 i = μ 127 i) : Inv μ' := by
  have c : Cg [0, 1] μ μ' := hE.cg (fun o i k => m01 (by have := Wc_c k; omega))
  have g36 : μ' 36 0 = μ 36 0 := hE _ _ (by unfold Wc; omega)
  exact hI.s1 c g36 (hI.1.dy (fun o i k1 k2 => hE o i (fun k => by have := Wc_c k; omega)) ⟨s, hb, by rw [g36]; exact hs, hS', hS.cg (fun i _ _ => hE _ _ (by unfold Wc; omega))⟩ (fun j j0 j1 => by rw [hE 127 _ (by unfold Wc; omega)]; exact ht j j0 j1))
/-- the cells of act -/
def Fa : Nat → Int → Prop := fun o i => Wc o i ∨ (102 ≤ o ∧ o < 120) ∨ (o = 100 ∧ (i = 1 ∨ i = 2))
theorem o2 {a b : Int} (hd : 20 ≤ d) (ha : inR a) (hb : inR b) (hI : Inv μ) : OP E d 113 225 [.inl a, .inl b] μ := by
  obtain ⟨K, ok, k2, k3⟩ := hI.1.1
  obtain ⟨s, s1, s2, s3, s4⟩ := hI.1.2.1
  obtain ⟨u, nx, R, q1, q2, q3⟩ := hI.2.1
  have tr := hI.1.2.2.1
  have e36 : μ 36 0 = jc K := k2.2.1.1
  -- the reference
  have model : ∀ {μ1 : Mm}, Ep Fa μ μ1 → (actO K s a b → StW μ1 25 (actS K s (μ 127) a b).1 ∧ (∀ i, 0 ≤ i → i < 600 → μ1 58 i = (actS K s (μ 127) a b).2 i) ∧ ∃ nx', QW μ1 (kpU u) nx' (kpR u R s)) → (¬ actO K s a b → Inv μ1) → Ct E d 225 [.inr 123, .inl a, .inl b] μ1 (rI fun w μ2 => b2 (actO K s a b) = w ∧ Inv μ2) := by
    intro μ1 hE hy hn
    have fa : ∀ {o : Nat} {i : Int}, 120 ≤ o → ¬ Fa o i := fun k => by unfold Fa Wc; omega
    have hE0 : Ep (fun o i => Fa o i ∨ (o = 123 ∧ i = 0)) μ (mu μ1 123 0 0) := (hE.mono (fun o i k => Or.inl k)).mu (Or.inr ⟨rfl, rfl⟩)
    have hK0 : KM (mu μ1 123 0 0) K := k3.cg ok (fun o i k => hE0 o i (by unfold kmS at k; unfold Fa Wc; omega))
    have hS0 : StM (mu μ1 123 0 0) 124 0 s := s4.cg (fun i _ _ => hE0 _ _ (by unfold Fa Wc; omega))
    have h50 : (mu μ1 123 0 0) 123 5 = 0 := by rw [hE0 _ _ (by unfold Fa Wc; omega)]; exact hI.2.2.2.2.2.2.1
    have hT0 : ∀ i, 0 ≤ i → i < 600 → (mu μ1 123 0 0) 127 i = μ 127 i := fun i _ _ => hE0 _ _ (by unfold Fa Wc; omega)
    have hQ0 : QR (mu μ1 123 0 0) u R := q2.cg (fun o i k => hE0 _ _ (by unfold Fa Wc; omega))
    refine v225 (by omega) (s224 (by omega) ha hb hK0 ok h50 hS0 s1 hT0 (fun μ2 h2 hbx => ⟨b2_in _, fun k => ?_, fun k => ⟨by rw [k], (hn (b2_0.mp k)).sc (sc0.tr (h2.cg (fun _ => z0 rfl)))⟩⟩))
    have ho := b2_ne0.mp k
    have h1 : b2 (actO K s a b) = 1 := b2_t ho
    obtain ⟨y1, y2, nx', y3⟩ := hy ho
    refine s159 (by omega) (hQ0.cg (fun o i k => h2 _ _ (by omega))) q1.2.2.1 (hS0.cg (fun i _ _ => h2 _ _ (by omega))) (fun μ3 h3 hQ3 => ?_)
    have hE3 : Ep (fun o i => o = 144 ∨ o = 125 ∨ (o = 123 ∧ (i = 0 ∨ i = 3))) μ1 μ3 := ((Ep.rf.mu (by omega)).tr (Ep.of h2 (fun _ => Or.inl rfl))).tr (h3.mono (fun o i k => by omega))
    have hS3 : StM μ3 124 0 s := hS0.cg (fun i _ _ => by rw [h3 _ _ (by omega), h2 _ _ (by omega)])
    have hT3 : ∀ i, 0 ≤ i → i < 600 → μ3 127 i = μ 127 i := fun i i0 i1 => by rw [h3 _ _ (by omega), h2 _ _ (by omega)]; exact hT0 i i0 i1
    have fin : ∀ {μ4 : Mm}, Ep Sm μ3 μ4 → StM μ4 124 0 (actS K s (μ 127) a b).1 → (∀ i, 0 ≤ i → i < 600 → μ4 127 i = (actS K s (μ 127) a b).2 i) → (rI fun w μ2 => b2 (actO K s a b) = w ∧ Inv μ2) (some (.inl 1)) μ4 := by
      intro μ4 h4 hS4 hT4
      have hE4 : Ep (fun o i => (o = 124 ∨ o = 127 ∨ (142 ≤ o ∧ o ≤ 145)) ∨ o = 125 ∨ (o = 123 ∧ (i = 0 ∨ i = 3))) μ1 μ4 := (hE3.mono (fun o i k => by omega)).tr (h4.mono (fun o i k => by unfold Sm at k; omega))
      have g36 : μ4 36 0 = μ 36 0 := by rw [hE4 _ _ (by omega), hE _ _ (by unfold Fa Wc; omega)]
      have c12 : Cg [0, 1, 2] μ μ4 := (hE.cg (fun o i k => by
        rcases k with k | k | ⟨rfl, rfl | rfl⟩
        · exact m012 (by have := Wc_c k; omega)
        · exact m012 (Or.inr (Or.inr (c2_c (by omega))))
        · decide
        · decide)).tr (hE4.cg (fun o i k => Fm_c (by unfold Fmo; omega)))
      refine ⟨h1, hI.s12 c12 (hI.1.dy (fun o i k1 k2 => ?_) ⟨_, actS_b ok s1 ho, actS_d ok s1 (by rw [g36]; exact e36) (by rw [g36]; exact s2) ho, y1.cg (fun k i hk => hE4 _ _ (by omega)), hS4⟩ (fun j j0 j1 => ?_)) ⟨_, nx', _, y3.cg (fun o i k => hE4 _ _ (by omega)), hQ3.cg (fun o i k => h4 _ _ (by unfold Sm; omega)), by rw [g36]; exact kpB q3 s1 s2⟩⟩
      · have f1 : ¬ Fa o i := fun k => by
          rcases k with k | k | ⟨rfl, k⟩
          · have := Wc_c k; omega
          · rw [c2_c (by omega)] at k1; cases k1
          · rw [c2_c (Or.inl ⟨rfl, k⟩)] at k1; cases k1
        have f2 : ¬ ((o = 124 ∨ o = 127 ∨ (142 ≤ o ∧ o ≤ 145)) ∨ o = 125 ∨ (o = 123 ∧ (i = 0 ∨ i = 3))) := fun k => by
          rcases k with (k | k | k) | k | ⟨rfl, rfl | rfl⟩
          · exact k2 (by omega)
          · exact k2 (by omega)
          · rcases (by omega : o = 142 ∨ o = 143 ∨ o = 144 ∨ o = 145) with rfl | rfl | rfl | rfl <;> (have k1 : (0 : Nat) = 1 := k1; cases k1)
          · rw [c2_c (by omega)] at k1; cases k1
          · have k1 : (0 : Nat) = 1 := k1; cases k1
          · have k1 : (2 : Nat) = 1 := k1; cases k1
        rw [hE4 _ _ f2, hE _ _ f1]
      · rw [hE4 _ _ (by omega), y2 j j0 j1, hT4 j j0 j1]
    have ho' := ho
    unfold actO at ho'
    refine ⟨ha, fun n0 => ⟨ha, fun n1 => ⟨ha, fun n2 => ⟨ha, fun n3 => by omega, fun n3 => ?_⟩, fun n2 => ?_⟩, fun n1 => ⟨⟨by omega, by omega⟩, ⟨by omega, by omega⟩, ha, fun _ => ⟨ha, fun _ => ?_, fun g => by omega⟩, fun g => by omega⟩⟩, fun n0 => ⟨⟨by omega, by omega⟩, ⟨by omega, by omega⟩, ha, fun _ => ⟨ha, fun _ => ⟨ha, fun _ => ?_, fun g => by omega⟩, fun g => by omega⟩, fun g => by omega⟩⟩
    · have e3 := hS3.at (i := 3) (by omega) (by omega)
      rw [e3]
      refine fin (Ep.rf.mu Sm124) ?_ (fun i i0 i1 => ?_)
      · unfold actS; rw [if_neg n0, if_neg n1, if_neg n2]; exact hS3.mu
      · unfold actS; rw [if_neg n0, if_neg n1, if_neg n2, mu_o (by decide)]; exact hT3 i i0 i1
    · obtain ⟨n, rfl⟩ := Int.eq_ofNat_of_zero_le (show 0 ≤ b by omega)
      have hn2 : (n : Int) < jc K := by omega
      have hK3 : KM μ3 K := hK0.cg ok (fun o i k => by rw [h3 _ _ (by unfold kmS at k; omega), h2 _ _ (by unfold kmS at k; omega)])
      have hD3 : DM μ3 0 (x0 s (μ 127)) 0 := DM.x0 (by rw [h3 _ _ (by omega), h2 _ _ (by omega)]; exact h50) hS3 (fun z z0 z1 => by rw [h3 _ _ (by omega)]; exact hbx n2 ho z z0 z1) hT3
      have hl : lk (jX K) n (jL K n).toNat (x0 s (μ 127)).2.1 ≤ 0 := by show lk (jX K) n (jL K n).toNat (fun z => s (8 + z)) ≤ 0; omega
      have hbY := sjY_b (K := K) (i := n) (x := x0 s (μ 127)) (by have := ok.2.1.2.1; omega) (x0_b s1) hl
      refine b221 (by omega) (Or.inl rfl) hK3 ok hD3 (x0_b s1) hn2 hl (fun μ4 h4 hD4 => ?_)
      have jb := fJ_b (K := K) (w := 1) (i := n) hbY
      refine b222 (by omega) (hK3.dy h4) ok hD4 (nt_b hbY) hn2 jb.1 jb.2 (fun μ5 h5 hD5 => ⟨ha, fun _ => fin (h4.tr h5) ?_ (fun i i0 i1 => ?_), fun g => by omega⟩)
      · unfold actS; rw [if_neg n0, if_neg n1, if_pos n2]; exact hD5.2.1
      · unfold actS; rw [if_neg n0, if_neg n1, if_pos n2]; exact hD5.2.2.2.1 i i0 i1
    · have e8 := hS3.at (i := 8 + b) (by omega) (by omega)
      rw [e8]
      refine fin (Ep.rf.mu Sm124) ?_ (fun i i0 i1 => ?_)
      · unfold actS; rw [if_neg n0, if_pos n1]; exact hS3.mu
      · unfold actS; rw [if_neg n0, if_pos n1, mu_o (by decide)]; exact hT3 i i0 i1
    · have e8 := hS3.at (i := 8 + b) (by omega) (by omega)
      rw [e8]
      refine fin (Ep.rf.mu Sm124) ?_ (fun i i0 i1 => ?_)
      · unfold actS; rw [if_pos n0]; exact hS3.mu
      · unfold actS; rw [if_pos n0, mu_o (by decide)]; exact hT3 i i0 i1
  -- the class
  refine v113 (by omega) (s114 (by omega) ha hb k2 ok s3 s1 tr (fun μ1 h1 hS1 hT1 => ⟨b2_in _, fun k => ?_, fun k => ?_⟩))
  · have ho := b2_ne0.mp k
    have hz : b2 (actO K s a b) = 1 := b2_t ho
    rw [hz] at model
    have hW1 : Ep Wc μ μ1 := h1.mono (fun o i k => by unfold Wc; omega)
    refine s18 (by omega) (q1.cg (fun o i k => h1 _ _ (by omega))) hS1 (fun μ3 nx' h3 hQ3 => ?_)
    have hE3 : Ep Fa μ μ3 := (hW1.mono (fun o i k => Or.inl k)).tr (h3.mono (fun o i k => Or.inr k))
    have hS3 : StW μ3 25 s := hS1.cg (fun k i hk => h3 _ _ (by omega))
    have hT3 : ∀ i, 0 ≤ i → i < 600 → μ3 58 i = μ 127 i := fun i i0 i1 => by rw [h3 _ _ (by omega)]; exact hT1 i i0 i1
    have fin : ∀ {μ4 : Mm}, Ep Wc μ3 μ4 → StW μ4 25 (actS K s (μ 127) a b).1 → (∀ i, 0 ≤ i → i < 600 → μ4 58 i = (actS K s (μ 127) a b).2 i) → Ct E d 225 [.inr 123, .inl a, .inl b] μ4 (rI fun w μ2 => 1 = w ∧ Inv μ2) := fun h4 hS4 hT4 =>
      model (hE3.tr (h4.mono (fun o i k => Or.inl k))) (fun _ => ⟨hS4, hT4, nx', hQ3.cg (fun o i k => h4 _ _ (by unfold Wc; omega))⟩) (fun g => absurd ho g)
    have ho' := ho
    unfold actO at ho'
    refine ⟨ha, fun n0 => ⟨⟨by omega, by omega⟩, ⟨by omega, by omega⟩, ?_⟩, fun n1 => ⟨⟨by omega, by omega⟩, ⟨by omega, by omega⟩, ?_⟩, fun n2 => ?_, fun n0 n1 n2 => ?_⟩
    · have e : μ3 26 b = s (8 + b) := hS3.2.2.2.2.2.2.2.2.1 b (by omega) (by omega)
      rw [e]
      refine fin (Ep.rf.mu (by unfold Wc; omega)) ?_ (fun i i0 i1 => ?_)
      · unfold actS; rw [if_pos n0]; exact hS3.a1 (by omega) (by omega)
      · unfold actS; rw [if_pos n0, mu_o (by decide)]; exact hT3 i i0 i1
    · have e : μ3 26 b = s (8 + b) := hS3.2.2.2.2.2.2.2.2.1 b (by omega) (by omega)
      rw [e]
      refine fin (Ep.rf.mu (by unfold Wc; omega)) ?_ (fun i i0 i1 => ?_)
      · unfold actS; rw [if_neg (by omega), if_pos n1]; exact hS3.a1 (by omega) (by omega)
      · unfold actS; rw [if_neg (by omega), if_pos n1, mu_o (by decide)]; exact hT3 i i0 i1
    · obtain ⟨n, rfl⟩ := Int.eq_ofNat_of_zero_le (show 0 ≤ b by omega)
      have hn2 : (n : Int) < jc K := by omega
      have c16 := ok.2.1.2.1
      have hl : lk (jX K) n (jL K n).toNat (x0 s (μ 127)).2.1 ≤ 0 := by show lk (jX K) n (jL K n).toNat (fun z => s (8 + z)) ≤ 0; omega
      have hK3 : KW μ3 K := k2.ep hE3 (fun k i k0 k1 k2 => by unfold Fa Wc; omega)
      refine v36 (by omega) (a33 (by omega) hS3 hT3 (fun μ4 h4 hD4 => ?_))
      have hK4 : KW μ4 K := hK3.ep h4 (fun k i k0 k1 k2 => by omega)
      refine a25 (by omega) hK4 ok owz hD4 (x0_b s1) hn2 hl (fun μ5 h5 hD5 => ?_)
      have hbs := stj_b (K := K) (th := 0) (i := n) (x := x0 s (μ 127)) (by omega) (x0_b s1) hl
      have hbit : iAnd (iShr (iOr 0 (iShl 1 (n : Int))) (n : Int)) 1 = 1 := (bit_or (by omega) (by omega)).mpr (Or.inr rfl)
      refine a27 (by omega) (hK4.dy h5 owz) ok owz hD5 hbs hn2 hbit (fun μ6 h6 hD6 => ?_)
      have eb : (stj K 0 n (x0 s (μ 127))).2.2.2 n = sjB K n (x0 s (μ 127)) := ud_s (fun _ => 0) (n : Int) (sjB K n (x0 s (μ 127)))
      rw [eb] at hD6
      have e6 : Ep Wc μ3 μ6 := ((h4.mono (fun o i k => by unfold Wc; omega)).tr (h5.mono (fun o i k => by unfold Sw at k; unfold Wc; omega))).tr (h6.mono (fun o i k => by unfold Sw at k; unfold Wc; omega))
      refine fin e6 ?_ (fun i i0 i1 => ?_)
      · unfold actS; rw [if_neg (by omega), if_neg (by omega), if_pos n2]; exact hD6.2.2.1
      · unfold actS; rw [if_neg (by omega), if_neg (by omega), if_pos n2]; exact hD6.2.2.2.2.1 i i0 i1
    · have e3 : μ3 25 3 = s 3 + 5 := hS3.2.2.2.1
      rw [e3]
      refine fin (Ep.rf.mu (by unfold Wc; omega)) ?_ (fun i i0 i1 => ?_)
      · unfold actS; rw [if_neg n0, if_neg n1, if_neg n2]
        exact hS3.fl (Or.inr (Or.inr (Or.inr (Or.inl ⟨rfl, rfl, by omega⟩))))
      · unfold actS; rw [if_neg n0, if_neg n1, if_neg n2, mu_o (by decide)]; exact hT3 i i0 i1
  · have hn := b2_0.mp k
    have hW1 : Ep Wc μ μ1 := h1.mono (fun o i k => by unfold Wc; omega)
    rw [k] at model
    exact model (hW1.mono (fun o i k => Or.inl k)) (fun g => absurd g hn) (fun _ => hI.wc2 hW1 hS1 s4 s1 s2 hT1)
end S48
