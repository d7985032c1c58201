/-! counts and sums of the standing state -/
section S23
variable {E : En} {d : Nat} {Φ : Option AV → Mm → Prop} {μ : Mm} {c : Int} {L : Int → Int} {X : Int → Int → Int}
theorem s158 {a : Int} {i : Nat} (hd : 1 ≤ d) (hi : i < 32) (h : Φ (some (.inl (iAnd (iShr a i) 1))) μ) : Ct E d 158 [.inr 123, .inl a, .inl (i : Int)] μ Φ :=
  v158 hd ⟨i32_in _, fun h1 => fe h (by have := iz (x := a) hi; omega), fun h1 => fe h h1⟩
theorem s214 {i : Nat} (hd : 2 ≤ d) (hi : i < 32) (h : Φ (some (.inl (iAnd (iShr (μ 124 7) i) 1))) μ) : Ct E d 214 [.inr 123, .inl (i : Int)] μ Φ :=
  v214 (by omega) (s158 (by omega) hi ⟨iz hi, h⟩)
theorem s232 {l : Int} (hd : 3 ≤ d) (hl : inR l) (hW : WM μ 31 0 c L X) (h : Φ (some (.inl (ot L X l (μ 124 7) c.toNat))) μ) : Ct E d 232 [.inr 123, .inl l] μ Φ := by
  have w1 := hW.1
  have w2 := hW.2.1
  have w3 := hW.2.2.1
  have key : ∀ (m i : Nat), (i : Int) + m = c → G E d 232 Φ 4 [some (.inr 123), some (.inl l), some (.inl (ot L X l (μ 124 7) i)), some (.inl (i : Int))] [] μ := by
    intro m
    induction m with
    | zero =>
      intro i hm
      refine v232_4 (by omega) ?_
      rw [w1]
      exact ⟨inR_of (by omega) (by omega), inR_of (by omega) (by omega), fun _ => fe h (by rw [show c.toNat = i by omega]), fun h1 => by omega⟩
    | succ m ih =>
      intro i hm
      have nx := ih (i + 1) (by omega)
      have es : ot L X l (μ 124 7) (i + 1) = ot L X l (μ 124 7) i + if iAnd (iShr (μ 124 7) i) 1 = 0 then oc X l i (L i).toNat else 0 := rfl
      rw [es, show ((i + 1 : Nat) : Int) = (i : Int) + 1 by omega] at nx
      refine v232_4 (by omega) ?_
      rw [w1]
      refine ⟨inR_of (by omega) (by omega), inR_of (by omega) (by omega), fun h1 => by omega, fun _ => s214 (by omega) (by omega) ⟨i32_in _, fun h1 => ?_, fun h1 => ?_⟩⟩
      · rw [if_neg h1, Int.add_zero] at nx; exact nx
      · rw [if_pos h1] at nx
        have := s211 (E := E) (i := i) (d := d - 1) (Φ := rI fun z4 μ3 => G E d 232 Φ 4 [some (.inr 123), some (.inl l), some (.inl (ot L X l (μ 124 7) i + z4)), some (.inl ((i : Int) + 1))] [] μ3) (by omega) hl (by omega) (by omega) hW (by omega) nx
        rw [Int.zero_add] at this
        exact this
  exact v232 (by omega) (key c.toNat 0 (by omega))
theorem s97_25 (hd : 1 ≤ d) (h : Φ (some (.inl (su (fun i => μ 26 i) 10))) μ) : Ct E d 97 [.inr 25] μ Φ := by
  have key : ∀ (m i : Nat), i + m = 10 → G E d 97 Φ 4 [some (.inr 25), some (.inl (su (fun i => μ 26 i) i)), some (.inl (i : Int))] [] μ := by
    intro m
    induction m with
    | zero =>
      intro i hm
      exact v97_25_4 hd ⟨inR_of (by omega) (by omega), fun _ => fe h (by rw [show 10 = i by omega]), fun h1 => by omega⟩
    | succ m ih =>
      intro i hm
      exact v97_25_4 hd ⟨inR_of (by omega) (by omega), fun h1 => by omega, fun _ => ⟨by omega, ih (i + 1) (by omega)⟩⟩
  exact v97_25 hd (key 10 0 (by omega))
theorem s97_59 (hd : 1 ≤ d) (h : Φ (some (.inl (su (fun i => μ 60 i) 10))) μ) : Ct E d 97 [.inr 59] μ Φ := by
  have key : ∀ (m i : Nat), i + m = 10 → G E d 97 Φ 4 [some (.inr 59), some (.inl (su (fun i => μ 60 i) i)), some (.inl (i : Int))] [] μ := by
    intro m
    induction m with
    | zero =>
      intro i hm
      exact v97_59_4 hd ⟨inR_of (by omega) (by omega), fun _ => fe h (by rw [show 10 = i by omega]), fun h1 => by omega⟩
    | succ m ih =>
      intro i hm
      exact v97_59_4 hd ⟨inR_of (by omega) (by omega), fun h1 => by omega, fun _ => ⟨by omega, ih (i + 1) (by omega)⟩⟩
  exact v97_59 hd (key 10 0 (by omega))
theorem s239 (hd : 1 ≤ d) (h : Φ (some (.inl (su (fun i => μ 124 (8 + i)) 10))) μ) : Ct E d 239 [.inr 123] μ Φ := by
  have key : ∀ (m i : Nat), i + m = 10 → G E d 239 Φ 4 [some (.inr 123), some (.inl (su (fun i => μ 124 (8 + i)) i)), some (.inl (i : Int))] [] μ := by
    intro m
    induction m with
    | zero =>
      intro i hm
      exact v239_4 hd ⟨inR_of (by omega) (by omega), fun _ => fe h (by rw [show 10 = i by omega]), fun h1 => by omega⟩
    | succ m ih =>
      intro i hm
      exact v239_4 hd ⟨inR_of (by omega) (by omega), fun h1 => by omega, fun _ => ⟨by omega, ih (i + 1) (by omega)⟩⟩
  exact v239 hd (key 10 0 (by omega))
/-- the answer to tray -/
def trZ (g : Int → Int) (n a b z : Int) : Prop := z = if 0 ≤ a ∧ a < n ∧ 0 ≤ b ∧ b < 4 then g (4 * a + b) else -2
theorem s124 {a b n : Int} (hd : 1 ≤ d) (ha : inR a) (hb : inR b) (hn : μ 25 9 = n) (n0 : 0 ≤ n) (n1 : n ≤ 150) (h : Φ (some (.inl (if 0 ≤ a ∧ a < n ∧ 0 ≤ b ∧ b < 4 then μ 58 (4 * a + b) else -2))) μ) : Ct E d 124 [.inr 0, .inl a, .inl b] μ Φ := by
  refine v124 hd ?_
  rw [hn]
  refine ⟨ha, fun h1 => fe h (by rw [if_neg (by omega)]), fun h1 => ⟨ha, inR_of (by omega) (by omega), fun h2 => fe h (by rw [if_neg (by omega)]), fun h2 => ⟨hb, fun h3 => fe h (by rw [if_neg (by omega)]), fun h3 => ⟨hb, fun h4 => ⟨by omega, ?_⟩, fun h4 => fe h (by rw [if_neg (by omega)])⟩⟩⟩⟩
  exact fe h (by rw [if_pos (by omega), show 4 * a + b = a * 4 + b by omega])
theorem s238 {a b n : Int} (hd : 2 ≤ d) (ha : inR a) (hb : inR b) (hn : μ 124 2 = n) (n0 : 0 ≤ n) (n1 : n ≤ 150) (h : Φ (some (.inl (if 0 ≤ a ∧ a < n ∧ 0 ≤ b ∧ b < 4 then μ 127 (4 * a + b) else -2))) (mu μ 123 0 0)) : Ct E d 238 [.inr 123, .inl a, .inl b] μ Φ := by
  refine v238 (by omega) ?_
  rw [hn]
  refine s153 (by omega) ha (inR_of (by omega) (by omega)) (inR_of (by omega) (by omega)) ⟨b2_in _, fun h1 => fe h (by have := b2_0.mp h1; rw [if_neg (by omega)]), fun h1 => s153 (by omega) hb (inR_of (by omega) (by omega)) (inR_of (by omega) (by omega)) ⟨b2_in _, fun h2 => fe h (by have := b2_0.mp h2; rw [if_neg (by omega)]), fun h2 => ?_⟩⟩
  have h1 := b2_ne0.mp h1
  have h2 := b2_ne0.mp h2
  refine ⟨by omega, ?_⟩
  rw [mu_o (by decide)]
  exact fe h (by rw [if_pos (by omega)])
end S23
