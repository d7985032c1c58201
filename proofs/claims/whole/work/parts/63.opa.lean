/-! call by call: act -/
section S47
variable {E : En} {d : Nat} {μ μ' μ'' : Mm} {f : Int → Mm → Prop} {Φ : Option AV → Mm → Prop} {K : Kt} {s t : Int → Int}
noncomputable def actO (K : Kt) (s : Int → Int) (a b : Int) : Prop := (a = 0 ∧ 0 ≤ b ∧ b < 10 ∧ s (8 + b) < 99) ∨ (a = 1 ∧ 0 ≤ b ∧ b < 10 ∧ 0 < s (8 + b)) ∨ (a = 2 ∧ 0 ≤ b ∧ b < jc K ∧ iAnd (iShr (s 7) b) 1 = 0 ∧ lk (jX K) b (jL K b).toNat (fun z => s (8 + z)) = 0) ∨ (a = 3 ∧ s 3 + 5 < 9)
/-- the job printed by hand, and what breaks then -/
noncomputable def actX (K : Kt) (s t : Int → Int) (b : Int) : Dy := (bkW (jX K) b (sjB K b (x0 s t)) (stM K 0 b (x0 s t)).1 (jL K b).toNat, (stM K 0 b (x0 s t)).2)
noncomputable def actS (K : Kt) (s t : Int → Int) (a b : Int) : (Int → Int) × (Int → Int) :=
  if a = 0 then (ud s (8 + b) (s (8 + b) + 1), t) else if a = 1 then (ud s (8 + b) (s (8 + b) - 1), t) else if a = 2 then ((actX K s t b).1, (actX K s t b).2.2.1) else (ud s 3 (s 3 + 1), t)
theorem actS_b {a b : Int} (ok : KOK K) (hb : StB s) (ho : actO K s a b) : StB (actS K s t a b).1 := by
  unfold actS
  unfold actO at ho
  have b8 := hb.2.2.2.2
  have b3 := hb.2.2.1
  split
  · have := b8 b (by omega) (by omega)
    exact stb_ud hb (fun e => by omega) (fun e => by omega) (fun e => by omega) (fun e => by omega) (fun _ _ => by omega)
  · split
    · have := b8 b (by omega) (by omega)
      exact stb_ud hb (fun e => by omega) (fun e => by omega) (fun e => by omega) (fun e => by omega) (fun _ _ => by omega)
    · split
      · obtain ⟨n, rfl⟩ := Int.eq_ofNat_of_zero_le (show 0 ≤ b by omega)
        have c16 := ok.2.1.2.1
        have hl : lk (jX K) n (jL K n).toNat (x0 s t).2.1 ≤ 0 := by show lk (jX K) n (jL K n).toNat (fun z => s (8 + z)) ≤ 0; omega
        have h1 := sjY_b (K := K) (i := n) (x := x0 s t) (by omega) (x0_b hb) hl
        exact bkW_b (fJ_b h1).1 (nt_b h1).1 _ (fun k k0 k1 => ok.2.1.2.2.2 n k (by omega) (by omega) k0 (by omega))
      · exact stb_ud hb (fun e => by omega) (fun e => by omega) (fun _ => by omega) (fun e => by omega) (fun e _ => by omega)
theorem bkW_j {i b : Int} {j : Int} (hj : j < 8) (ok : KOK K) (i0 : 0 ≤ i) (i1 : i < jc K) (g : Int → Int) : ∀ n : Nat, (n : Int) ≤ jL K i → bkW (jX K) i b g n j = g j
  | 0, _ => rfl
  | n + 1, hn => by
    have wx := ok.2.1.2.2.2 i n (by omega) (by omega) (by omega) (by omega)
    show ud (ud _ _ _) _ _ j = g j
    rw [ud_n (by omega), ud_n (by omega)]
    exact bkW_j hj ok i0 i1 g n (by omega)
theorem DP.ud {c i v : Int} (h : DP c s) (h0 : i ≠ 0) (h7 : i ≠ 7) : DP c (ud s i v) := ⟨by rw [ud_n (Ne.symm h0)]; exact h.1, by rw [ud_n (Ne.symm h7)]; exact h.2⟩
theorem actS_d {a b c : Int} (ok : KOK K) (hb : StB s) (hc : c = jc K) (hs : DP c s) (ho : actO K s a b) : DP c (actS K s t a b).1 := by
  subst hc
  unfold actS
  unfold actO at ho
  split
  · exact hs.ud (by omega) (by omega)
  · split
    · exact hs.ud (by omega) (by omega)
    · split
      · obtain ⟨n, rfl⟩ := Int.eq_ofNat_of_zero_le (show 0 ≤ b by omega)
        have c16 := ok.2.1.2.1
        have wl := ok.2.1.2.2.1 n (by omega) (by omega)
        have e0 : (actX K s t n).1 0 = s 0 := (bkW_j (by decide) ok (by omega) (by omega) _ _ (by omega)).trans ((nt_j (by decide) 0 0 n (sjB K n (x0 s t)) (sjY K n (x0 s t))).trans (pr_j (by decide) (by decide) n (tk (jX K) n (jL K n).toNat (x0 s t))))
        have e7 : (actX K s t n).1 7 = iOr (s 7) (iShl 1 (n : Int)) := (bkW_j (by decide) ok (by omega) (by omega) _ _ (by omega)).trans ((nt_j (by decide) 0 0 n (sjB K n (x0 s t)) (sjY K n (x0 s t))).trans (pr_7 n (tk (jX K) n (jL K n).toNat (x0 s t))))
        refine ⟨?_, ?_⟩
        · show (actX K s t n).1 0 ≤ 9999
          rw [e0]; exact hs.1
        · show (actX K s t n).1 7 < _
          rw [e7]
          exact or_lt (by omega) (by omega) hb.2.2.2.1.1 hs.2
      · exact hs.ud (by decide) (by decide)
theorem s114 {a b : Int} (hd : 8 ≤ d) (ha : inR a) (hb : inR b) (hK : KW μ K) (ok : KOK K) (hS : StW μ 25 s) (hB : StB s) (ht : ∀ i, 0 ≤ i → i < 600 → μ 58 i = t i) (h : ∀ μ', Ep (fun o _ => o = 23 ∨ o = 25 ∨ o = 26 ∨ o = 27 ∨ o = 35 ∨ o = 58 ∨ o = 62 ∨ o = 63 ∨ o = 64) μ μ' → StW μ' 25 s → (∀ i, 0 ≤ i → i < 600 → μ' 58 i = t i) → Φ (some (.inl (b2 (actO K s a b)))) μ') : Ct E d 114 [.inr 0, .inl a, .inl b] μ Φ := by
  have h0 := h μ Ep.rf hS ht
  have b3 := hB.2.2.1
  have e3 : μ 25 3 = s 3 + 5 := hS.2.2.2.1
  have e2 : μ 25 2 = s 7 := hS.2.2.2.2.2.2.2.1
  refine v114 (by omega) ?_
  rw [e3]
  refine ⟨ha, fun k => s152 (by omega) hb ⟨b2_in _, fun k2 => ff h0 ?_, fun k2 => ?_⟩, fun k => s152 (by omega) hb ⟨b2_in _, fun k2 => ff h0 ?_, fun k2 => ?_⟩, fun k => s103j (by omega) hb hK.2.1 ⟨b2_in _, fun k2 => ff h0 ?_, fun k2 => ?_⟩, fun k => ⟨inR_of (by omega) (by omega), fun k2 => ff h0 ?_, fun k2 => ft h0 ?_⟩, fun k0 k1 k2 k3 => ff h0 ?_⟩
  · have := b2_0.mp k2; unfold actO; omega
  · have k2 := b2_ne0.mp k2
    have e : μ 26 b = s (8 + b) := hS.2.2.2.2.2.2.2.2.1 b k2.1 k2.2
    have bz := hB.2.2.2.2 b k2.1 k2.2
    rw [e]
    exact ⟨k2, inR_of (by omega) (by omega), fun k3 => ff h0 (by unfold actO; omega), fun k3 => ft h0 (by unfold actO; omega)⟩
  · have := b2_0.mp k2; unfold actO; omega
  · have k2 := b2_ne0.mp k2
    have e : μ 26 b = s (8 + b) := hS.2.2.2.2.2.2.2.2.1 b k2.1 k2.2
    have bz := hB.2.2.2.2 b k2.1 k2.2
    rw [e]
    exact ⟨k2, inR_of (by omega) (by omega), fun k3 => ff h0 (by unfold actO; omega), fun k3 => ft h0 (by unfold actO; omega)⟩
  · have := b2_0.mp k2; unfold actO; omega
  · have k2 := b2_ne0.mp k2
    obtain ⟨n, rfl⟩ := Int.eq_ofNat_of_zero_le k2.1
    have c16 := ok.2.1.2.1
    have hiff : actO K s 2 (n : Int) ↔ iAnd (iShr (s 7) (n : Int)) 1 = 0 ∧ lk (jX K) n (jL K n).toNat (fun z => s (8 + z)) = 0 := by unfold actO; omega
    subst k
    have zz := iz (x := s 7) (i := n) (by omega)
    refine v96_25 (by omega) ?_
    rw [e2]
    have bit1 : iAnd (iShr (s 7) (n : Int)) 1 = 1 → Φ (some (.inl 0)) μ := fun g => ff h0 (fun q => by have := (hiff.mp q).1; omega)
    refine ⟨i32_in _, fun g => ⟨inR_of (by decide) (by decide), fun g2 => absurd rfl g2, fun _ => ?_⟩, fun g => ⟨inR_of (by decide) (by decide), fun _ => bit1 g, fun g2 => absurd g2 (by decide)⟩⟩
    refine v35_36 (by omega) (a33 (by omega) hS ht (fun μ1 h1 hD1 => ?_))
    refine a31j (by omega) (hK.ep h1 (fun k i k0 k1 k2 => by omega)) ok owz hD1 (x0_b hB) k2.1 k2.2 (fun μ2 h2 hD2 => ?_)
    have lb := lk_b (X := jX K) (i := n) (m := (jL K n).toNat) (g := (x0 s t).2.1) (by have := ok.2.1.2.2.1 n (by omega) k2.2; omega) (fun z z0 z1 => ((x0_b (t := t) hB).2.1 z z0 z1).1)
    have hh := h μ2 ((h1.mono (fun o i k => by omega)).tr (h2.mono (fun o i k => by unfold Sw at k; omega))) hD2.2.2.1 hD2.2.2.2.2.1
    refine ⟨inR_of (by omega) (by omega), fun g3 => ff hh (fun q => g3 (hiff.mp q).2), fun g3 => ft hh (hiff.mpr ⟨by omega, g3⟩)⟩
  · unfold actO; omega
  · unfold actO; omega
  · unfold actO; omega
theorem s224 {a b : Int} (hd : 8 ≤ d) (ha : inR a) (hb : inR b) (hK : KM μ K) (ok : KOK K) (h5 : μ 123 5 = 0) (hS : StM μ 124 0 s) (hB : StB s) (ht : ∀ i, 0 ≤ i → i < 600 → μ 127 i = t i) (h : ∀ μ', Eo 144 μ μ' → (a = 2 → actO K s a b → ∀ z, 0 ≤ z → z < 10 → μ' 144 z = s (8 + z)) → Φ (some (.inl (b2 (actO K s a b)))) μ') : Ct E d 224 [.inr 123, .inl a, .inl b] μ Φ := by
  have h0 := fun (hn : ¬ (a = 2 ∧ actO K s a b)) => h μ Eo.rf (fun k q => absurd ⟨k, q⟩ hn)
  have b3 := hB.2.2.1
  have e3 := hS.at (i := 3) (by omega) (by omega)
  have e7 := hS.at (i := 7) (by omega) (by omega)
  have e8 : 0 ≤ b → b < 10 → μ 124 (8 + b) = s (8 + b) := fun b0 b1 => hS.at (by omega) (by omega)
  refine v224 (by omega) ⟨ha, fun k => s166 (by omega) hb ⟨b2_in _, fun k2 => ff (h0 (by omega)) ?_, fun k2 => ⟨ha, fun k3 => absurd k k3, fun _ => ?_⟩⟩, fun k => ⟨ha, fun k1 => ⟨ha, fun k2 => ⟨ha, fun k3 => ff (h0 (by omega)) ?_, fun k3 => s165 (by omega) e3 ⟨inR_of (by omega) (by omega), fun k4 => ff (h0 (by omega)) ?_, fun k4 => ft (h0 (by omega)) ?_⟩⟩, fun k2 => ?_⟩, fun k1 => s166 (by omega) hb ⟨b2_in _, fun k2 => ff (h0 (by omega)) ?_, fun k2 => ⟨ha, fun _ => ?_, fun k3 => absurd k3 k⟩⟩⟩⟩
  · have := b2_0.mp k2; unfold actO; omega
  · have k2 := b2_ne0.mp k2
    have bz := hB.2.2.2.2 b k2.1 k2.2
    rw [e8 k2.1 k2.2]
    exact ⟨⟨by omega, by omega⟩, inR_of (by omega) (by omega), fun k3 => ff (h0 (by omega)) (by unfold actO; omega), fun k3 => ft (h0 (by omega)) (by unfold actO; omega)⟩
  · unfold actO; omega
  · unfold actO; omega
  · unfold actO; omega
  · subst k2
    have hc := hK.2.1.1
    have c0 := ok.2.1.1
    have c16 := ok.2.1.2.1
    have z0 : inR (0 : Int) := inR_of (by omega) (by omega)
    have fin : ∀ {z : Int} {μ1 : Mm}, z = 0 ∨ z = 1 → Φ (some (.inl z)) μ1 → inR z ∧ (z ≠ 0 → Φ (some (.inl 1)) μ1) ∧ (z = 0 → inR (2 : Int) ∧ ((2 : Int) ≠ 3 → Φ (some (.inl 0)) μ1) ∧ ((2 : Int) = 3 → Ct E (d - 1) 165 [.inr 123] μ1 (rI fun z8 μ7 => inR z8 ∧ (9 ≤ z8 → Φ (some (.inl 0)) μ7) ∧ (z8 < 9 → Φ (some (.inl 1)) μ7)))) := fun {z μ1} hz hΦ => ⟨inR_of (by omega) (by omega), fun g => by rw [show (1 : Int) = z by omega]; exact hΦ, fun g => ⟨ha, fun _ => by rw [← g]; exact hΦ, fun g2 => absurd g2 (by decide)⟩⟩
    refine v223 (by omega) ?_
    rw [hc]
    refine s153 (by omega) hb z0 (inR_of (by omega) (by omega)) ⟨b2_in _, fun k3 => fin (Or.inl rfl) (ff (h0 ?_) ?_), fun k3 => ?_⟩
    · unfold actO; have := b2_0.mp k3; omega
    · unfold actO; have := b2_0.mp k3; omega
    · have k3 := b2_ne0.mp k3
      obtain ⟨n, rfl⟩ := Int.eq_ofNat_of_zero_le k3.1
      have hn : (n : Int) < jc K := by omega
      have hiff : actO K s 2 (n : Int) ↔ iAnd (iShr (s 7) (n : Int)) 1 = 0 ∧ lk (jX K) n (jL K n).toNat (fun z => s (8 + z)) = 0 := by unfold actO; omega
      have zz := iz (x := s 7) (i := n) (by omega)
      refine s214 (by omega) (by omega) ?_
      rw [e7]
      refine ⟨i32_in _, fun g => ?_, fun g => fin (Or.inl rfl) (ff (h0 (fun q => g (hiff.mp q.2).1)) (fun q => g (hiff.mp q).1))⟩
      refine s209 (by omega) hS (fun μ3 h3 hb3 => ?_)
      have hK3 : KM μ3 K := hK.cg ok (fun o i k => h3 o i (by unfold kmS at k; omega))
      have hD3 : DM μ3 0 (x0 s t) 0 := DM.x0 (by rw [h3 _ _ (by decide)]; exact h5) (hS.cg (fun i _ _ => h3 _ _ (by decide))) hb3 (fun i i0 i1 => by rw [h3 _ _ (by decide)]; exact ht i i0 i1)
      refine b212j (by omega) hK3 hD3 (x0_b hB) hn ?_
      have lb := lk_b (X := jX K) (i := n) (m := (jL K n).toNat) (g := (x0 s t).2.1) (by have := ok.2.1.2.2.1 n (by omega) hn; omega) (fun z z0 z1 => ((x0_b (t := t) hB).2.1 z z0 z1).1)
      have hh := h μ3 h3 (fun _ _ => hb3)
      refine ⟨inR_of (by omega) (by omega), fun g3 => fin (Or.inl rfl) (ff hh (fun q => g3 (hiff.mp q).2)), fun g3 => fin (Or.inr rfl) (ft hh (hiff.mpr ⟨g, g3⟩))⟩
  · have := b2_0.mp k2; unfold actO; omega
  · have k2 := b2_ne0.mp k2
    have bz := hB.2.2.2.2 b k2.1 k2.2
    rw [e8 k2.1 k2.2]
    exact ⟨⟨by omega, by omega⟩, inR_of (by omega) (by omega), fun k3 => ff (h0 (by omega)) (by unfold actO; omega), fun k3 => ft (h0 (by omega)) (by unfold actO; omega)⟩
end S47
