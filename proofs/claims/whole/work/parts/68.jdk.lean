/-! texts: how long, what stands where, whether a sign is one of them -/
def sgn (c : Int) : Prop := c = 59 ∨ c = 43 ∨ c = 45 ∨ c = 42 ∨ c = 47 ∨ c = 40 ∨ c = 41 ∨ c = 60 ∨ c = 61 ∨ c = 62
def alp (c : Int) : Prop := (97 ≤ c ∧ c ≤ 122) ∨ (65 ≤ c ∧ c ≤ 90)
def dig (c : Int) : Prop := 48 ≤ c ∧ c ≤ 57
def blk (c : Int) : Prop := c = 32 ∨ c = 10
theorem sln_0 : ∀ k, k < 5 → iShr (sln k : Int) 0 = (sln k : Int) ∧ sln k ≤ 100 := by decide +kernel
theorem sch_c : ∀ k, k < 5 → ∀ i, i < sln k → iChr (iAnd (sch k (i : Nat)) 255) = sch k (i : Nat) ∧ 0 ≤ sch k (i : Nat) ∧ sch k (i : Nat) ≤ 122 := by decide +kernel
theorem byt_c : ∀ v, v < 256 → iChr (v : Nat) = (v : Nat) ∧ iByt (v : Nat) = (if v < 128 then ((v : Nat) : Int) else ((v : Nat) : Int) - 256) := by decide +kernel
theorem sgn_s : (∀ i, i < 10 → sgn (sch 1 (i : Nat))) ∧ sln 1 = 10 := by
  refine ⟨fun i hi => ?_, by decide⟩
  rcases (by omega : i = 0 ∨ i = 1 ∨ i = 2 ∨ i = 3 ∨ i = 4 ∨ i = 5 ∨ i = 6 ∨ i = 7 ∨ i = 8 ∨ i = 9) with rfl | rfl | rfl | rfl | rfl | rfl | rfl | rfl | rfl | rfl <;> unfold sgn <;> decide
theorem sgn_i {c : Int} (h : sgn c) : ∃ i : Nat, i < 10 ∧ sch 1 i = c := by
  rcases h with rfl | rfl | rfl | rfl | rfl | rfl | rfl | rfl | rfl | rfl
  · exact ⟨0, by decide, by decide⟩
  · exact ⟨1, by decide, by decide⟩
  · exact ⟨2, by decide, by decide⟩
  · exact ⟨3, by decide, by decide⟩
  · exact ⟨4, by decide, by decide⟩
  · exact ⟨5, by decide, by decide⟩
  · exact ⟨6, by decide, by decide⟩
  · exact ⟨7, by decide, by decide⟩
  · exact ⟨8, by decide, by decide⟩
  · exact ⟨9, by decide, by decide⟩
section S52
variable {E : En} {d : Nat} {Φ : Option AV → Mm → Prop} {μ : Mm}
theorem s286 {k : Nat} (hd : 2 ≤ d) (hk : k < 5) (h : Φ (some (.inl (sln k : Int))) μ) : Ct E d 286 [.inr (1000 + k)] μ Φ := by
  refine v286 (by omega) ⟨by omega, by omega, by omega, v290 (by omega) ⟨by omega, ?_⟩⟩
  show Φ (some (.inl (iShr (sln (1000 + k + 100 - 1100) : Int) 0))) μ
  rw [show 1000 + k + 100 - 1100 = k by omega, (sln_0 k hk).1]
  exact h
theorem s287 {k : Nat} {i : Int} (hd : 4 ≤ d) (hk : k < 5) (i0 : 0 ≤ i) (i1 : i < (sln k : Int)) (h : Φ (some (.inl (sch k i))) μ) : Ct E d 287 [.inr (1000 + k), .inl i] μ Φ := by
  obtain ⟨n, rfl⟩ := Int.eq_ofNat_of_zero_le i0
  have hs := sch_c k hk n (by omega)
  have l100 := (sln_0 k hk).2
  refine v287 (by omega) ⟨by omega, v291 (by omega) ⟨by omega, inR_of (by decide) (by decide), fun e => absurd e (by decide), fun _ => ⟨by omega, v293 (by omega) ⟨by omega, v292 (by omega) ?_⟩⟩⟩⟩
  rw [show 1000 + k + 100 - 1100 = k by omega]
  refine v297 (by omega) ⟨inR_of (by omega) (by omega), fun e => by omega, fun _ => ⟨inR_of (by omega) (by omega), inR_of (by omega) (by omega), fun _ => ?_, fun e => by omega⟩⟩
  show (1100 ≤ 1000 + k + 100 ∧ 1000 + k + 100 < 1105) ∧ _ ∧ _
  rw [hs.1]
  exact ⟨by omega, ⟨by omega, i1⟩, ⟨by omega, by omega⟩, ⟨by omega, by omega⟩, h⟩
theorem s288 {c : Int} (hd : 5 ≤ d) (c0 : 0 ≤ c) (c1 : c ≤ 255) (hn : ¬ sgn c → Φ (some (.inl (-1))) μ) (hy : sgn c → ∀ z, inR z → 0 ≤ z → Φ (some (.inl z)) μ) : Ct E d 288 [.inr 1001, .inl (iChr c)] μ Φ := by
  obtain ⟨v, rfl⟩ := Int.eq_ofNat_of_zero_le c0
  obtain ⟨b1, b2⟩ := byt_c v (by omega)
  rw [b1]
  have l1 : (sln 1 : Int) = 10 := by rw [sgn_s.2]; rfl
  refine v288 (by omega) ⟨by omega, v289 (by omega) ⟨by omega, v291 (by omega) ⟨by omega, inR_of (by decide) (by decide), fun e => absurd e (by decide), fun _ => ⟨by omega, by omega, s286 (k := 1) (by omega) (by omega) ?_⟩⟩⟩⟩
  simp only [rI]
  refine v295 (by omega) (v294 (by omega) ⟨inR_of (by omega) (by omega), fun e => by omega, fun _ => ⟨inR_of (by omega) (by omega), fun e => by omega, fun _ => ⟨inR_of (by decide) (by decide), fun _ => ⟨by omega, ?_⟩, fun e => absurd e (by decide)⟩⟩⟩)
  rw [show 1001 + 100 - 1100 = 1 by decide, l1]
  have m1 : iMax 0 0 = 0 := by decide
  have m2 : iMin 10 10 = 10 := by decide
  rw [m1, m2]
  refine ⟨inR_of (by decide) (by decide), inR_of (by decide) (by decide), fun _ => v296 (by omega) ?_, fun e => absurd e (by decide)⟩
  have key : ∀ (m i : Nat), i + m = 10 → (∀ j : Nat, j < i → sch 1 j ≠ (v : Int)) → G E (d - 1 - 1 - 1) 296 (rI fun z4 μ3 => (rI fun z8 μ7 => (rI fun z2 μ1 => Φ (some (.inl z2)) μ1) (some (.inl z8)) μ7) (some (.inl z4)) μ3) 5 [some (.inr 1101), none, none, some (.inl 10), some (.inl (iByt (v : Nat))), some (.inl (i : Int))] [] μ := by
    intro m
    have hb : inR (iByt (v : Nat)) := by rw [b2]; split <;> exact inR_of (by omega) (by omega)
    induction m with
    | zero =>
      intro i hi hall
      refine v296_5 (by omega) ⟨inR_of (by omega) (by omega), inR_of (by omega) (by omega), fun _ => hn (fun hs => ?_), fun e => by omega⟩
      obtain ⟨j, j1, j2⟩ := sgn_i hs
      exact hall j (by omega) j2
    | succ m ih =>
      intro i hi hall
      have hs := sch_c 1 (by decide) i (by rw [sgn_s.2]; omega)
      have hg := sgn_s.1 i (by omega)
      refine v296_5 (by omega) ?_
      rw [show 1101 - 1100 = 1 by decide, l1]
      refine ⟨inR_of (by omega) (by omega), inR_of (by omega) (by omega), fun e => by omega, fun _ => ⟨by omega, ⟨by omega, by omega⟩, inR_of (by omega) (by omega), hb, fun e => ih (i + 1) (by omega) (fun j hj => ?_), fun e => ?_⟩⟩
      · rcases Nat.lt_or_ge j i with g | g
        · exact hall j g
        · rw [show j = i by omega]
          intro q
          apply e
          rw [b2, if_pos (by omega)]
          exact q
      · refine hy ?_ _ (inR_of (by omega) (by omega)) (by omega)
        have : ((v : Nat) : Int) = sch 1 (i : Nat) := by
          rw [b2] at e
          split at e <;> omega
        rw [this]; exact hg
  exact key 10 0 (by omega) (fun j hj => absurd hj (Nat.not_lt_zero _))
theorem s47 {c : Int} (hd : 1 ≤ d) (hc : inR c) (h : Φ (some (.inl (b2 (blk c)))) μ) : Ct E d 47 [.inl c] μ Φ := by
  unfold blk at h
  exact v47 hd ⟨hc, fun k => ft h (by omega), fun k => ⟨hc, fun k2 => ff h (by omega), fun k2 => ft h (by omega)⟩⟩
theorem s48 {c : Int} (hd : 1 ≤ d) (hc : inR c) (h : Φ (some (.inl (b2 (alp c)))) μ) : Ct E d 48 [.inl c] μ Φ := by
  unfold alp at h
  exact v48 hd ⟨hc, fun k => ⟨hc, fun k2 => ff h (by omega), fun k2 => ⟨hc, fun k3 => ff h (by omega), fun k3 => ft h (by omega)⟩⟩, fun k => ⟨hc, fun k2 => ft h (by omega), fun k2 => ⟨hc, fun k3 => ff h (by omega), fun k3 => ⟨hc, fun k4 => ff h (by omega), fun k4 => ft h (by omega)⟩⟩⟩⟩
theorem s49 {c : Int} (hd : 1 ≤ d) (hc : inR c) (h : Φ (some (.inl (b2 (dig c)))) μ) : Ct E d 49 [.inl c] μ Φ := by
  unfold dig at h
  exact v49 hd ⟨hc, fun k => ff h (by omega), fun k => ⟨hc, fun k2 => ff h (by omega), fun k2 => ft h (by omega)⟩⟩
theorem s172 {c : Int} (hd : 2 ≤ d) (hc : inR c) (h : Φ (some (.inl (b2 (alp c)))) μ) : Ct E d 172 [.inr 123, .inl c] μ Φ := by
  unfold alp at h
  have k : ∀ x : Nat, x < 2147483648 → inR (x : Int) := fun x hx => inR_of (by omega) (by omega)
  refine v172 (by omega) (s153 (by omega) hc (k 97 (by omega)) (k 122 (by omega)) ⟨b2_in _, fun g => ft h (Or.inl (b2_ne0.mp g)), fun g => s153 (by omega) hc (k 65 (by omega)) (k 90 (by omega)) ⟨b2_in _, fun g2 => ff h ?_, fun g2 => ft h (Or.inr (b2_ne0.mp g2))⟩⟩)
  have := b2_0.mp g
  have := b2_0.mp g2
  omega
theorem s173 {c : Int} (hd : 2 ≤ d) (hc : inR c) (h : Φ (some (.inl (b2 (dig c)))) μ) : Ct E d 173 [.inr 123, .inl c] μ Φ :=
  v173 (by omega) (s153 (by omega) hc (inR_of (by decide) (by decide)) (inR_of (by decide) (by decide)) ⟨b2_01 _, h⟩)
theorem s174 {c : Int} (hd : 1 ≤ d) (hc : inR c) (h : Φ (some (.inl (b2 (sgn c)))) μ) : Ct E d 174 [.inr 123, .inl c] μ Φ := by
  unfold sgn at h
  exact v174 hd ⟨hc, fun k => ft h (by omega), fun k => ⟨hc, fun k => ft h (by omega), fun k => ⟨hc, fun k => ft h (by omega), fun k => ⟨hc, fun k => ft h (by omega), fun k => ⟨hc, fun k => ft h (by omega), fun k => ⟨hc, fun k => ft h (by omega), fun k => ⟨hc, fun k => ft h (by omega), fun k => ⟨hc, fun k => ft h (by omega), fun k => ⟨hc, fun k => ft h (by omega), fun k => ⟨hc, fun k => ff h (by omega), fun k => ft h (by omega)⟩⟩⟩⟩⟩⟩⟩⟩⟩⟩
end S52
