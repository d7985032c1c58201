/-! call by call: days, goes, out -/
section S43
variable {E : En} {d : Nat} {μ μ' μ'' : Mm} {Φ : Option AV → Mm → Prop} {K : Kt} {s t : Int → Int}
theorem Sh.dy (h : Sh μ μ) (e : ∀ o i, cnt o i = 1 → ¬ ((25 ≤ o ∧ o ≤ 27) ∨ o = 58 ∨ o = 124 ∨ o = 127) → μ' o i = μ o i) (hN : ∃ s, StB s ∧ DP (μ' 36 0) s ∧ StW μ' 25 s ∧ StM μ' 124 0 s) (hT : ∀ i, 0 ≤ i → i < 600 → μ' 58 i = μ' 127 i) : Sh μ' μ' := by
  obtain ⟨⟨K, k1, k2, k3⟩, -, -, ⟨n, f, r1, r2⟩, ⟨q, q1, q2⟩, ⟨c, g0, g1, g2⟩, v, v1, v2⟩ := h
  have w : ∀ o i, supW o i → ¬ ((25 ≤ o ∧ o ≤ 27) ∨ o = 58 ∨ o = 124 ∨ o = 127) → μ' o i = μ o i := fun o i k => e o i (supW_c k)
  have m : ∀ o i, supM o i → ¬ ((25 ≤ o ∧ o ≤ 27) ∨ o = 58 ∨ o = 124 ∨ o = 127) → μ' o i = μ o i := fun o i k => e o i (supM_c k)
  refine ⟨⟨K, k1, k2.ep (Ep.sup (T := fun o i => 28 ≤ o ∧ o < 49 ∧ o ≠ 35) (fun o i k => w o i (by unfold supW; omega) (by omega))) (fun k i a b c hn => hn ⟨a, b, c⟩), k3.cg k1 (fun o i k => m o i (Or.inl k) (by unfold kmS at k; omega))⟩, hN, hT, ⟨n, f, r1.cg (fun i => w _ _ (by unfold supW; omega) (by omega)) (w _ _ (by unfold supW; omega) (by omega)), r2.cg (fun i i0 i1 => m _ _ (by unfold supM; omega) (by omega)) (m _ _ (by unfold supM; omega) (by omega))⟩, ⟨q, q1.cg (fun i => w _ _ (by unfold supW; omega) (by omega)), q2.cg (fun i i0 i1 => m _ _ (by unfold supM; omega) (by omega))⟩, ⟨c, g0, g1.cg (fun i => w _ _ (by unfold supW; omega) (by omega)) (w _ _ (by unfold supW; omega) (by omega)), g2.cg (fun i i0 i1 => m _ _ (by unfold supM; omega) (by omega)) (m _ _ (by unfold supM; omega) (by omega))⟩, v, v1.cg (fun i => w _ _ (by unfold supW; omega) (by omega)), v2.cg (fun i i0 i1 => m _ _ (by unfold supM; omega) (by omega))⟩
def Fw : Nat → Int → Prop := fun o i => (25 ≤ o ∧ o ≤ 27) ∨ o = 58 ∨ o = 35 ∨ (62 ≤ o ∧ o ≤ 64) ∨ o = 23 ∨ (102 ≤ o ∧ o < 120) ∨ (o = 100 ∧ (i = 1 ∨ i = 2))
def Fmo : Nat → Int → Prop := fun o i => o = 124 ∨ o = 127 ∨ (142 ≤ o ∧ o ≤ 145) ∨ o = 125 ∨ (o = 123 ∧ (i = 0 ∨ i = 3))
theorem Fw_c {o : Nat} {i : Int} (h : Fw o i) : cnt o i ∈ [0, 1, 2] := by
  rcases h with h | rfl | rfl | h | rfl | h | ⟨rfl, rfl | rfl⟩
  · rcases (by omega : o = 25 ∨ o = 26 ∨ o = 27) with rfl | rfl | rfl <;> exact m012 (Or.inr (Or.inl rfl))
  · exact m012 (Or.inr (Or.inl rfl))
  · exact m012 (Or.inl rfl)
  · rcases (by omega : o = 62 ∨ o = 63 ∨ o = 64) with rfl | rfl | rfl <;> exact m012 (Or.inl rfl)
  · exact m012 (Or.inl rfl)
  · exact m012 (Or.inr (Or.inr (c2_c (by omega))))
  · decide
  · decide
theorem Fm_c {o : Nat} {i : Int} (h : Fmo o i) : cnt o i ∈ [0, 1, 2] := by
  rcases h with rfl | rfl | h | rfl | ⟨rfl, rfl | rfl⟩
  · rcases c0i (a := 28) (i := i) (k := 1) with h | h
    · exact m012 (Or.inl h)
    · exact m012 (Or.inr (Or.inl h))
  · rcases c0i (a := 600) (i := i) (k := 1) with h | h
    · exact m012 (Or.inl h)
    · exact m012 (Or.inr (Or.inl h))
  · rcases (by omega : o = 142 ∨ o = 143 ∨ o = 144 ∨ o = 145) with rfl | rfl | rfl | rfl <;> exact m012 (Or.inl rfl)
  · exact m012 (Or.inr (Or.inr rfl))
  · decide
  · decide
theorem KW.fw (h : KW μ K) (e : Ep Fw μ μ') : KW μ' K := h.ep e fun k i k0 k1 k2 => by unfold Fw; omega
theorem KM.fm (h : KM μ K) (ok : KOK K) (e : Ep Fmo μ μ') : KM μ' K := h.cg ok fun o i k => e o i (by unfold kmS at k; unfold Fmo; omega)
theorem Sd25 {o : Nat} {i : Int} (h : Sd 25 o i) : Fw o i := by unfold Sd at h; unfold Fw; omega
theorem SmF {o : Nat} {i : Int} (h : Sm o i) : Fmo o i := by unfold Sm at h; unfold Fmo; omega
theorem ptQ {c : Int} {u : Nat} {R : Nat → Int → Int} (ok : KOK K) (hb : StB s) (hc : c = jc K) (h7 : s 7 < ((2 ^ c.toNat : Nat) : Int)) (hq : QB c u R) : ∀ m : Nat, s 0 + m ≤ 10000 → QB c (ptN K s t (u, R) m).1 (ptN K s t (u, R) m).2
  | 0, _ => hq
  | m + 1, hm => by
    subst hc
    have hy := dyN_b (th := 0) (t := t) ok hb m (by omega)
    exact kpB (ptQ ok hb rfl h7 hq m (by omega)) hy.1 ⟨by rw [hy.2]; omega, dyN_7 ok hb h7 m (by omega)⟩
theorem o3 {a : Int} (hd : 20 ≤ d) (ha : inR a) (hI : Inv μ) : OP E d 115 231 [.inl a] μ := by
  obtain ⟨K, ok, k2, k3⟩ := hI.1.1
  obtain ⟨s, s1, s2, s3, s4⟩ := hI.1.2.1
  obtain ⟨u, nx, R, q1, q2, q3⟩ := hI.2.1
  have tr := hI.1.2.2.1
  have e36 : μ 36 0 = jc K := k2.2.1.1
  have b0 := s1.1
  have no : ¬ (1 ≤ a ∧ a ≤ 60 ∧ s 0 + a ≤ 9999) → Ct E d 231 [.inr 123, .inl a] μ (rI fun w μ2 => -1 = w ∧ Inv μ2) := fun hn => by
    refine v231 (by omega) (s153 (by omega) ha (inR_of (by omega) (by omega)) (inR_of (by omega) (by omega)) ⟨b2_in _, fun _ => ⟨rfl, hI.sc sc0⟩, fun k => ?_⟩)
    have k := b2_ne0.mp k
    rw [mu_o (by decide), s4.at (by omega) (by omega)]
    exact ⟨inR_of (by omega) (by omega), fun k2 => by omega, fun _ => ⟨rfl, hI.sc sc0⟩⟩
  refine v115 (by omega) ⟨ha, fun k => no (by omega), fun k => ⟨ha, fun k2 => no (by omega), fun k2' => ?_⟩⟩
  rw [s3.1]
  refine ⟨inR_of (by omega) (by omega), fun k3' => ?_, fun k3 => no (by omega)⟩
  obtain ⟨n, rfl⟩ := Int.eq_ofNat_of_zero_le (show 0 ≤ a by omega)
  have e5 : μ 25 5 = s 5 := s3.2.2.2.2.2.1
  rw [e5]
  -- the reference, after the class
  have model : ∀ {μ1 : Mm} {nx' : Nat}, Ep Fw μ μ1 → StW μ1 25 (dyN K 0 s (μ 127) n).1 → (∀ i, 0 ≤ i → i < 600 → μ1 58 i = (dyN K 0 s (μ 127) n).2 i) → QW μ1 (ptN K s (μ 127) (u, R) n).1 nx' (ptN K s (μ 127) (u, R) n).2 → Ct E d 231 [.inr 123, .inl (n : Int)] μ1 (rI fun w μ2 => (dyN K 0 s (μ 127) n).1 5 - s 5 = w ∧ Inv μ2) := by
    intro μ1 nx' hE hS hT hQ
    have w0 : ∀ o i, Fmo o i → ¬ Fw o i := fun o i k => by unfold Fmo at k; unfold Fw; omega
    have key : ∀ (m i : Nat) (μ2 : Mm), i + m = n → Ep Fmo μ1 μ2 → StM μ2 124 0 (dyN K 0 s (μ 127) i).1 → (∀ j, 0 ≤ j → j < 600 → μ2 127 j = (dyN K 0 s (μ 127) i).2 j) → QR μ2 (ptN K s (μ 127) (u, R) i).1 (ptN K s (μ 127) (u, R) i).2 → G E d 231 (rI fun w μ2 => (dyN K 0 s (μ 127) n).1 5 - s 5 = w ∧ Inv μ2) 23 [some (.inr 123), some (.inl (n : Int)), some (.inl ((dyN K 0 s (μ 127) i).1 5 - s 5)), some (.inl (i : Int))] [] μ2 := by
      intro m
      induction m with
      | zero =>
        intro i μ2 hi hE2 hS2 hT2 hQ2
        refine v231_23 (by omega) ⟨inR_of (by omega) (by omega), inR_of (by omega) (by omega), fun _ => ?_, fun k => by omega⟩
        have : i = n := by omega
        subst this
        have hy := dyN_b (th := 0) (t := μ 127) ok s1 i (by omega)
        have c12 : Cg [0, 1, 2] μ μ2 := (hE.cg (fun o i k => Fw_c k)).tr (hE2.cg (fun o i k => Fm_c k))
        have g36 : μ2 36 0 = μ 36 0 := by rw [hE2 _ _ (by unfold Fmo; omega), hE _ _ (by unfold Fw; omega)]
        refine ⟨rfl, hI.s12 c12 (hI.1.dy (fun o i k1 k2 => ?_) ⟨_, hy.1, ⟨by rw [hy.2]; omega, ?_⟩, hS.cg (fun k i hk => hE2 _ _ (by unfold Fmo; omega)), hS2⟩ (fun j j0 j1 => ?_)) ⟨_, nx', _, hQ.cg (fun o i k => hE2 _ _ (by unfold Fmo; omega)), hQ2, ?_⟩⟩
        · have f1 : ¬ Fw o i := fun k => by
            unfold Fw at k
            rcases k with k | k | rfl | k | rfl | k | ⟨rfl, k⟩
            · exact k2 (Or.inl k)
            · exact k2 (Or.inr (Or.inl k))
            · rw [show cnt 35 i = 0 from rfl] at k1; cases k1
            · rcases (by omega : o = 62 ∨ o = 63 ∨ o = 64) with rfl | rfl | rfl <;> (have k1 : (0 : Nat) = 1 := k1; cases k1)
            · rw [show cnt 23 i = 0 from rfl] at k1; cases k1
            · rw [c2_c (by omega)] at k1; cases k1
            · rw [c2_c (Or.inl ⟨rfl, k⟩)] at k1; cases k1
          have f2 : ¬ Fmo o i := fun k => by
            unfold Fmo at k
            rcases k with k | k | k | k | ⟨rfl, rfl | rfl⟩
            · exact k2 (by omega)
            · exact k2 (by omega)
            · rcases (by omega : o = 142 ∨ o = 143 ∨ o = 144 ∨ o = 145) with rfl | rfl | rfl | rfl <;> (have k1 : (0 : Nat) = 1 := k1; cases k1)
            · rw [c2_c (by omega)] at k1; cases k1
            · have k1 : (0 : Nat) = 1 := k1; cases k1
            · have k1 : (2 : Nat) = 1 := k1; cases k1
          rw [hE2 _ _ f2, hE _ _ f1]
        · rw [g36, e36]
          exact dyN_7 ok s1 (by have := s2.2; rwa [e36] at this) i (by omega)
        · rw [hE2 _ _ (by unfold Fmo; omega), hT j j0 j1, hT2 j j0 j1]
        · rw [g36]
          exact ptQ ok s1 e36 s2.2 q3 i (by omega)
      | succ m ih =>
        intro i μ2 hi hE2 hS2 hT2 hQ2
        have hy := dyN_b (th := 0) (t := μ 127) ok s1 i (by omega)
        have hK2 : KM μ2 K := (k3.cg ok (fun o i k => hE o i (by unfold kmS at k; unfold Fw; omega))).fm ok hE2
        refine v231_23 (by omega) ⟨inR_of (by omega) (by omega), inR_of (by omega) (by omega), fun k => by omega, fun _ => ?_⟩
        refine s159 (by omega) hQ2 (ptN_u q1.2.2.1 i) hS2 (fun μ3 h3 hQ3 => ?_)
        have h3' : Ep Fmo μ2 μ3 := h3.mono (fun o i k => by unfold Fmo; omega)
        have z5 : μ3 123 5 = 0 := by rw [h3 _ _ (by omega), hE2 _ _ (by unfold Fmo; omega), hE _ _ (by unfold Fw; omega)]; exact hI.2.2.2.2.2.2.1
        refine b230 (t := (dyN K 0 s (μ 127) i).2) (by omega) (Or.inl rfl) (hK2.fm ok h3') ok z5 (hS2.cg (fun i _ _ => h3 _ _ (by omega))) hy.1 (fun j j0 j1 => by rw [h3 _ _ (by omega)]; exact hT2 j j0 j1) (fun μ4 h4 hS4 hT4 => ?_)
        have h4' : Ep Fmo μ3 μ4 := h4.mono (fun o i k => SmF k)
        have nx := ih (i + 1) μ4 (by omega) ((hE2.tr h3').tr h4') hS4 hT4 (hQ3.cg (fun o i k => h4 _ _ (by unfold Sm; omega)))
        have e5 : (dyN K 0 s (μ 127) (i + 1)).1 5 - s 5 = (dyN K 0 s (μ 127) i).1 5 - s 5 + onZ (dy1 K 0 (dyN K 0 s (μ 127) i).1 (dyN K 0 s (μ 127) i).2).2 := by
          show (dyZ K 0 _ _).1 5 - s 5 = _
          rw [dy_5 ok]; omega
        rw [e5] at nx
        exact nx
    refine v231 (by omega) (s153 (by omega) ha (inR_of (by omega) (by omega)) (inR_of (by omega) (by omega)) ⟨b2_in _, fun k => absurd (by omega) (b2_0.mp k), fun _ => ?_⟩)
    have e0 : μ1 124 0 = s 0 := by rw [hE _ _ (by unfold Fw; omega)]; exact s4.at (by omega) (by omega)
    rw [mu_o (by decide), e0]
    refine ⟨inR_of (by omega) (by omega), fun _ => ?_, fun k => by omega⟩
    have := key n 0 (mu μ1 123 0 0) (by omega) (Ep.rf.mu (by unfold Fmo; omega)) (s4.cg (fun i _ _ => by rw [mu_o (by decide), hE _ _ (by unfold Fw; omega)])) (fun j _ _ => by rw [mu_o (by decide), hE _ _ (by unfold Fw; omega)]; rfl) (q2.cg (fun o i k => by
      rcases k with ⟨rfl, rfl⟩ | rfl
      · rw [mu_i (by decide), hE _ _ (by unfold Fw; omega)]
      · rw [mu_o (by decide), hE _ _ (by unfold Fw; omega)]))
    rw [show (dyN K 0 s (μ 127) 0).1 5 - s 5 = 0 by show s 5 - s 5 = 0; omega] at this
    exact this
  have key : ∀ (m i : Nat) (μ1 : Mm) (nx' : Nat), i + m = n → Ep Fw μ μ1 → StW μ1 25 (dyN K 0 s (μ 127) i).1 → (∀ j, 0 ≤ j → j < 600 → μ1 58 j = (dyN K 0 s (μ 127) i).2 j) → QW μ1 (ptN K s (μ 127) (u, R) i).1 nx' (ptN K s (μ 127) (u, R) i).2 → G E d 115 (rI fun z μ1 => Ct E d 231 [.inr 123, .inl (n : Int)] μ1 (rI fun w μ2 => z = w ∧ Inv μ2)) 23 [some (.inr 0), some (.inl (n : Int)), some (.inl (s 5)), some (.inl (i : Int))] [] μ1 := by
    intro m
    induction m with
    | zero =>
      intro i μ1 nx' hi hE hS hT hQ
      refine v115_23 (by omega) ⟨inR_of (by omega) (by omega), inR_of (by omega) (by omega), fun _ => ?_, fun k => by omega⟩
      have : i = n := by omega
      subst this
      have e5 : μ1 25 5 = (dyN K 0 s (μ 127) i).1 5 := hS.2.2.2.2.2.1
      rw [e5]
      exact model hE hS hT hQ
    | succ m ih =>
      intro i μ1 nx' hi hE hS hT hQ
      have hy := dyN_b (th := 0) (t := μ 127) ok s1 i (by omega)
      refine v115_23 (by omega) ⟨inR_of (by omega) (by omega), inR_of (by omega) (by omega), fun k => by omega, fun _ => ?_⟩
      refine s18 (by omega) hQ hS (fun μ2 nx2 h2 hQ2 => ?_)
      have h2' : Ep Fw μ1 μ2 := h2.mono (fun o i k => by unfold Fw; omega)
      refine a21_25 (t := (dyN K 0 s (μ 127) i).2) (by omega) (k2.fw (hE.tr h2')) ok ⟨Or.inl rfl, Or.inl rfl, fun _ => rfl⟩ (hS.cg (fun k i hk => h2 _ _ (by omega))) hy.1 (by rw [hy.2]; omega) (fun j j0 j1 => by rw [h2 _ _ (by omega)]; exact hT j j0 j1) (fun μ3 h3 hS3 hT3 => ?_)
      exact ih (i + 1) μ3 nx2 (by omega) ((hE.tr h2').tr (h3.mono (fun o i k => Sd25 k))) hS3 hT3 (hQ2.cg (fun o i k => h3 _ _ (by unfold Sd; omega)))
  exact key n 0 μ nx (by omega) Ep.rf s3 tr q1
end S43
