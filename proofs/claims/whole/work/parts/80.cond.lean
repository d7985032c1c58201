/-! a condition: what waits, and what comes out -/
def tst (b : Bool) (st : List Int) : List Int := if b = true then List.replicate (jnN st) 2 else 2 :: List.replicate (jnN st) 2
def eTy (l0 l : Cd) (t : List Int) : Prop := ∃ e, l = l0 ++ e ∧ tyS e [] t
section S65
variable {n p q : Int} {T : Int → Int} {l l0 : Cd} {x y : Int × Cd}
theorem adj_h : ∀ st : List Int, adj st → 9 ≤ st.headD 12 ∧ st.headD 12 ≤ 12
  | [], _ => ⟨by decide, by decide⟩
  | x :: r, h => h.1
theorem pTop_s {x : Int} : ∀ (st : List Int) (l : Cd), st.headD 12 ≠ x → pTop x st l = (st, l)
  | [], l, _ => rfl
  | y :: r, l, h => if_neg h
theorem pTop_p {x : Int} {r : List Int} : pTop x (x :: r) l = pTop x r (l ++ [(x, 0)]) := if_pos rfl
theorem pTop_h {x : Int} (hx : x ≠ 12) : ∀ (st : List Int) (l : Cd), (pTop x st l).1.headD 12 ≠ x
  | [], l => fun h => hx h.symm
  | y :: r, l => by
    by_cases g : y = x
    · rw [g, pTop_p]; exact pTop_h hx r _
    · rw [pTop_s (y :: r) l g]; exact g
theorem pTop_l {x : Int} : ∀ (st : List Int) (l : Cd), (pTop x st l).2.length + (pTop x st l).1.length = l.length + st.length
  | [], l => rfl
  | y :: r, l => by
    by_cases g : y = x
    · rw [g, pTop_p, pTop_l r, List.length_append]
      show l.length + 1 + r.length = l.length + (r.length + 1)
      omega
    · rw [pTop_s (y :: r) l g]
theorem pTop_a {x : Int} : ∀ (st : List Int) (l : Cd), adj st → adj (pTop x st l).1
  | [], l, h => h
  | y :: r, l, h => by
    by_cases g : y = x
    · rw [g, pTop_p]; exact pTop_a r _ h.2.2.2
    · rw [pTop_s (y :: r) l g]; exact h
theorem opN_0 : ∀ st : List Int, 0 ≤ opN st
  | [] => by decide
  | x :: r => by
    show 0 ≤ (if x = 9 ∨ x = 12 then (1 : Int) else 0) + opN r
    have := opN_0 r
    split <;> omega
theorem pTop_op {x : Int} : ∀ (st : List Int) (l : Cd), opN (pTop x st l).1 ≤ opN st
  | [], l => Int.le_refl _
  | y :: r, l => by
    by_cases g : y = x
    · rw [g, pTop_p]
      have := pTop_op (x := x) r (l ++ [(x, 0)])
      show _ ≤ (if x = 9 ∨ x = 12 then (1 : Int) else 0) + opN r
      split <;> omega
    · rw [pTop_s (y :: r) l g]; exact Int.le_refl _
theorem pTop_br {x : Int} (hx : x ≠ 12) : ∀ (st : List Int) (l : Cd), brN (pTop x st l).1 = brN st
  | [], l => rfl
  | y :: r, l => by
    by_cases g : y = x
    · rw [g, pTop_p, pTop_br hx r]
      show _ = (if x = 12 then (1 : Int) else 0) + brN r
      rw [if_neg hx]; omega
    · rw [pTop_s (y :: r) l g]
theorem tyN {a : List Int} (e : Cd) (h : tyS e [] (2 :: a)) : tyS (e ++ [(9, 0)]) [] (2 :: a) := (tyS_app _ _ _ _).mpr ⟨_, h, tyS_1 (Or.inr (Or.inr (Or.inl ⟨rfl, a, rfl, rfl⟩)))⟩
theorem tyA {o : Int} {a : List Int} (ho : o = 10 ∨ o = 11) (e : Cd) (h : tyS e [] (2 :: 2 :: a)) : tyS (e ++ [(o, 0)]) [] (2 :: a) :=
  (tyS_app _ _ _ _).mpr ⟨_, h, tyS_1 (Or.inr (Or.inr (Or.inr ⟨2, 2, a, rfl, by show 2 ≤ o; omega, by show o ≤ 11; omega, by show o ≠ 9; omega, fun (q : o = 5) => by omega, fun _ => ⟨rfl, rfl⟩, by show _ = (if o ≤ 5 then (0 : Int) else 2) :: a; rw [if_neg (by omega)]⟩)))⟩
theorem pTop_t {x : Int} (hx : x = 9 ∨ x = 10 ∨ x = 11) : ∀ (st : List Int) (l : Cd), eTy l0 l (tst false st) → eTy l0 (pTop x st l).2 (tst false (pTop x st l).1)
  | [], l, h => h
  | y :: r, l, h => by
    by_cases g : y = x
    · rw [g, pTop_p]
      rw [g] at h
      obtain ⟨e, h1, h2⟩ := h
      refine pTop_t hx r _ ⟨e ++ [(x, 0)], by rw [h1]; simp, ?_⟩
      rcases hx with rfl | hx
      · have h2 : tyS e [] (2 :: List.replicate (jnN (9 :: r)) 2) := h2
        have e1 : jnN ((9 : Int) :: r) = jnN r := by
          show (if (9 : Int) = 10 ∨ (9 : Int) = 11 then 1 else 0) + jnN r = _
          rw [if_neg (by decide)]; omega
        rw [e1] at h2
        exact tyN e h2
      · have e1 : jnN (x :: r) = jnN r + 1 := by
          show (if x = 10 ∨ x = 11 then 1 else 0) + jnN r = _
          rw [if_pos hx]; omega
        have h2 : tyS e [] (2 :: List.replicate (jnN (x :: r)) 2) := h2
        rw [e1, List.replicate_succ] at h2
        exact tyA hx e h2
    · rw [pTop_s (y :: r) l g]; exact h
/-- heads -/
theorem h10 {st : List Int} (h : adj st) (h9 : st.headD 12 ≠ 9) : 11 ≤ (pTop 10 st l).1.headD 12 := by
  match st, h, h9 with
  | [], _, _ => show (11 : Int) ≤ 12; decide
  | y :: r, h, h9 =>
    have h9 : y ≠ 9 := h9
    by_cases g : y = 10
    · subst g
      have g2 := h.2.1 rfl
      rw [pTop_p, pTop_s r _ (by omega)]
      exact g2
    · rw [pTop_s (y :: r) l g]
      show 11 ≤ y
      have := h.1
      omega
theorem h11 {st : List Int} (h : adj st) (h9 : 11 ≤ st.headD 12) : (pTop 11 st l).1.headD 12 = 12 := by
  match st, h, h9 with
  | [], _, _ => rfl
  | y :: r, h, h9 =>
    have h9 : 11 ≤ y := h9
    by_cases g : y = 11
    · subst g
      have g2 := h.2.2.1 rfl
      rw [pTop_p, pTop_s r _ (by omega)]
      exact g2
    · rw [pTop_s (y :: r) l g]
      show y = 12
      have := h.1
      omega
theorem pGe_s {b : Int} : ∀ (st : List Int) (l : Cd), b < st.headD 12 → pGe b st l = (st, l)
  | [], l, _ => rfl
  | y :: r, l, h => if_neg (by have h : b < y := h; omega)
theorem pGe_p {b y : Int} {r : List Int} (h : y ≤ b) : pGe b (y :: r) l = pGe b r (l ++ [(y, 0)]) := if_pos h
theorem pGe_10 : ∀ (st : List Int) (l : Cd), adj st → pGe 10 st l = pTop 10 (pTop 9 st l).1 (pTop 9 st l).2
  | [], l, _ => rfl
  | y :: r, l, h => by
    by_cases g : y = 9
    · subst g
      rw [pGe_p (by decide), pTop_p]
      exact pGe_10 r _ h.2.2.2
    · rw [pTop_s (x := 9) (y :: r) l g]
      by_cases g2 : y = 10
      · subst g2
        have g3 := h.2.1 rfl
        rw [pGe_p (by decide), pGe_s r _ (by omega)]
        show _ = pTop 10 (10 :: r) l
        rw [pTop_p, pTop_s r _ (by omega)]
      · show _ = pTop 10 (y :: r) l
        have := h.1
        rw [pGe_s (y :: r) l (by show 10 < y; omega), pTop_s (y :: r) l g2]
theorem pGe_11 : ∀ (st : List Int) (l : Cd), adj st → pGe 11 st l = pTop 11 (pGe 10 st l).1 (pGe 10 st l).2
  | [], l, _ => rfl
  | y :: r, l, h => by
    have hb := h.1
    by_cases g : y ≤ 10
    · rw [pGe_p (by omega), pGe_p g]
      exact pGe_11 r _ h.2.2.2
    · rw [pGe_s (b := 10) (y :: r) l (by show 10 < y; omega)]
      by_cases g2 : y = 11
      · subst g2
        have g3 := h.2.2.1 rfl
        rw [pGe_p (by decide), pGe_s r _ (by omega)]
        show _ = pTop 11 (11 :: r) l
        rw [pTop_p, pTop_s r _ (by omega)]
      · show _ = pTop 11 (y :: r) l
        rw [pGe_s (y :: r) l (by show 11 < y; omega), pTop_s (y :: r) l g2]
theorem jn_b : ∀ st : List Int, adj st → (jnN st : Int) ≤ 2 * opN st + (if st.headD 12 = 10 then 2 else if st.headD 12 = 11 then 1 else 0)
  | [], _ => by decide
  | y :: r, h => by
    have ih := jn_b r h.2.2.2
    have h1 := h.1
    have hr := adj_h r h.2.2.2
    have e1 : jnN (y :: r) = (if y = 10 ∨ y = 11 then 1 else 0) + jnN r := rfl
    have e2 : opN (y :: r) = (if y = 9 ∨ y = 12 then 1 else 0) + opN r := rfl
    have e3 : (y :: r).headD 12 = y := rfl
    rw [e1, e2, e3]
    rcases (by omega : y = 9 ∨ y = 10 ∨ y = 11 ∨ y = 12) with g | g | g | g
    · subst g
      rw [if_neg (by decide), if_pos (by decide), if_neg (by decide), if_neg (by decide)]
      split at ih <;> try split at ih
      all_goals omega
    · subst g
      have h2 := h.2.1 rfl
      rw [if_pos (by decide), if_neg (by decide), if_pos (by decide)]
      rw [if_neg (by omega)] at ih
      split at ih <;> omega
    · subst g
      have h2 := h.2.2.1 rfl
      rw [if_pos (by decide), if_neg (by decide), if_neg (by decide), if_pos (by decide)]
      rw [if_neg (by omega), if_neg (by omega)] at ih
      omega
    · subst g
      rw [if_neg (by decide), if_pos (by decide), if_neg (by decide), if_neg (by decide)]
      split at ih <;> try split at ih
      all_goals omega
theorem st_len : ∀ st : List Int, adj st → (st.length : Int) = opN st + jnN st
  | [], _ => rfl
  | y :: r, h => by
    have ih := st_len r h.2.2.2
    have h1 := h.1
    show ((r.length + 1 : Nat) : Int) = ((if y = 9 ∨ y = 12 then 1 else 0) + opN r) + (((if y = 10 ∨ y = 11 then 1 else 0) + jnN r : Nat) : Int)
    rcases (by omega : (y = 9 ∨ y = 12) ∨ (y = 10 ∨ y = 11)) with g | g
    · rw [if_pos g, if_neg (by omega)]; omega
    · rw [if_neg (by omega), if_pos g]; omega
theorem st_26 {st : List Int} (h : adj st) (h8 : opN st ≤ 8) : jnN st ≤ 18 ∧ st.length ≤ 26 := by
  have h1 := jn_b st h
  have h2 := st_len st h
  have h3 : (if st.headD 12 = 10 then (2 : Int) else if st.headD 12 = 11 then 1 else 0) ≤ 2 := by
    split
    · decide
    · split <;> decide
  omega
theorem brq_0 : ∀ st : List Int, 0 ≤ brN st ∧ brN st ≤ opN st
  | [] => ⟨Int.le_refl _, Int.le_refl _⟩
  | y :: r => by
    have ih := brq_0 r
    show 0 ≤ (if y = 12 then (1 : Int) else 0) + brN r ∧ (if y = 12 then (1 : Int) else 0) + brN r ≤ (if y = 9 ∨ y = 12 then (1 : Int) else 0) + opN r
    by_cases g : y = 12
    · rw [if_pos g, if_pos (Or.inr g)]; omega
    · rw [if_neg g]; split <;> omega
/-- all that waits above the latest bracket has come out -/
theorem brq_e {st : List Int} (h : st.headD 12 = 12) (hb : brN st = 0) : st = [] := by
  match st, h, hb with
  | [], _, _ => rfl
  | y :: r, h, hb =>
    have h : y = 12 := h
    have hb : (if y = 12 then (1 : Int) else 0) + brN r = 0 := hb
    have := brq_0 r
    rw [if_pos h] at hb
    omega
theorem brq_c {st : List Int} (h : st.headD 12 = 12) (hb : brN st ≠ 0) : ∃ r, st = 12 :: r := by
  match st, h, hb with
  | [], _, hb => exact absurd rfl hb
  | y :: r, h, hb =>
    have h : y = 12 := h
    exact ⟨r, by rw [h]⟩
variable {f : Nat} {st : List Int}
theorem pCd_o1 (h : toK 0 n T p = 134 ∨ toK 0 n T p = 40) (h8 : opN st ≠ 8) : pCd n T (f + 1) p st l true = pCd n T f (toE n T p) ((if toK 0 n T p = 134 then 9 else 12) :: st) l true := by
  show (if true = true then _ else _) = _
  rw [if_pos rfl, if_pos h, if_neg h8]
theorem pCd_o3 (h : toK 0 n T p = 134 ∨ toK 0 n T p = 40) (h8 : opN st = 8) : pCd n T (f + 1) p st l true = .error (3, toF n T p) := by
  show (if true = true then _ else _) = _
  rw [if_pos rfl, if_pos h, if_pos h8]
theorem pCd_c (h : ¬ (toK 0 n T p = 134 ∨ toK 0 n T p = 40)) : pCd n T (f + 1) p st l true = (pCm n T p l).bind fun x => pCd n T f x.1 (pTop 9 st x.2).1 (pTop 9 st x.2).2 false := by
  show (if true = true then _ else _) = _
  rw [if_pos rfl, if_neg h]
theorem pCd_a (h : toK 0 n T p = 133) : pCd n T (f + 1) p st l false = pCd n T f (toE n T p) (10 :: (pTop 10 st l).1) (pTop 10 st l).2 true := by
  show (if false = true then _ else _) = _
  rw [if_neg (by decide), if_pos h]
theorem pCd_r (h : toK 0 n T p = 132) : pCd n T (f + 1) p st l false = pCd n T f (toE n T p) (11 :: (pTop 11 (pTop 10 st l).1 (pTop 10 st l).2).1) (pTop 11 (pTop 10 st l).1 (pTop 10 st l).2).2 true := by
  show (if false = true then _ else _) = _
  rw [if_neg (by decide), if_neg (by omega), if_pos h]
theorem pCd_e (h : toK 0 n T p ≠ 133) (h2 : toK 0 n T p ≠ 132) (hb : brN (pTop 11 (pTop 10 st l).1 (pTop 10 st l).2).1 = 0) : pCd n T (f + 1) p st l false = .ok (p, (pTop 11 (pTop 10 st l).1 (pTop 10 st l).2).2) := by
  show (if false = true then _ else _) = _
  rw [if_neg (by decide), if_neg h, if_neg h2, if_pos hb]
theorem pCd_b (h : toK 0 n T p = 41) (hb : brN (pTop 11 (pTop 10 st l).1 (pTop 10 st l).2).1 ≠ 0) : pCd n T (f + 1) p st l false = pCd n T f (toE n T p) (pTop 9 (pTop 11 (pTop 10 st l).1 (pTop 10 st l).2).1.tail (pTop 11 (pTop 10 st l).1 (pTop 10 st l).2).2).1 (pTop 9 (pTop 11 (pTop 10 st l).1 (pTop 10 st l).2).1.tail (pTop 11 (pTop 10 st l).1 (pTop 10 st l).2).2).2 false := by
  show (if false = true then _ else _) = _
  rw [if_neg (by decide), if_neg (by omega), if_neg (by omega), if_neg hb, if_pos h]
theorem pCd_1 (h : toK 0 n T p ≠ 133) (h2 : toK 0 n T p ≠ 132) (h3 : toK 0 n T p ≠ 41) (hb : brN (pTop 11 (pTop 10 st l).1 (pTop 10 st l).2).1 ≠ 0) : pCd n T (f + 1) p st l false = .error (1, toF n T p) := by
  show (if false = true then _ else _) = _
  rw [if_neg (by decide), if_neg h, if_neg h2, if_neg hb, if_neg h3]
theorem brN_12 {r : List Int} : brN (12 :: r) = 1 + brN r := rfl
/-- what holds of the stack all along -/
def okS (b : Bool) (st : List Int) (l : Cd) (p : Int) : Prop := adj st ∧ opN st ≤ 8 ∧ (b = false → st.headD 12 ≠ 9) ∧ (l.length : Int) + st.length ≤ p
theorem okS_o (h : okS true st l p) (hk : toK 0 n T p = 134 ∨ toK 0 n T p = 40) (p1 : p ≤ n) (h8 : opN st ≠ 8) : okS true ((if toK 0 n T p = 134 then 9 else 12) :: st) l (toE n T p) := by
  have e := toE_1 (T := T) (k := 0) p1 (by omega)
  obtain ⟨h1, h2, h3, h4⟩ := h
  refine ⟨?_, ?_, fun g => absurd g (by decide), ?_⟩
  · split
    · exact ⟨⟨by decide, by decide⟩, fun g => absurd g (by decide), fun g => absurd g (by decide), h1⟩
    · exact ⟨⟨by decide, by decide⟩, fun g => absurd g (by decide), fun g => absurd g (by decide), h1⟩
  · split
    · show 1 + opN st ≤ 8; omega
    · show 1 + opN st ≤ 8; omega
  · show (l.length : Int) + ((st.length + 1 : Nat) : Int) ≤ _
    omega
theorem okS_c (h : okS true st l p) {x : Int × Cd} (ha : addC n p l x p2h) (g : (x.2.length : Int) + st.length ≤ x.1) : okS false (pTop 9 st x.2).1 (pTop 9 st x.2).2 x.1 := by
  obtain ⟨h1, h2, h3, h4⟩ := h
  refine ⟨pTop_a _ _ h1, by have := pTop_op (x := 9) st x.2; omega, fun _ => pTop_h (by decide) _ _, ?_⟩
  have := pTop_l (x := 9) st x.2
  omega
theorem okS_a (h : okS false st l p) (hk : toK 0 n T p = 133) (p1 : p ≤ n) : okS true (10 :: (pTop 10 st l).1) (pTop 10 st l).2 (toE n T p) := by
  have e := toE_1 (T := T) (k := 0) p1 (by omega)
  obtain ⟨h1, h2, h3, h4⟩ := h
  refine ⟨⟨⟨by decide, by decide⟩, fun _ => h10 h1 (h3 rfl), fun g => absurd g (by decide), pTop_a _ _ h1⟩, ?_, fun g => absurd g (by decide), ?_⟩
  · have := pTop_op (x := 10) st l
    show 0 + _ ≤ (8 : Int)
    omega
  · have := pTop_l (x := 10) st l
    rw [List.length_cons]
    omega
theorem tA (h : adj st) (h9 : st.headD 12 ≠ 9) : adj (pTop 11 (pTop 10 st l).1 (pTop 10 st l).2).1 ∧ (pTop 11 (pTop 10 st l).1 (pTop 10 st l).2).1.headD 12 = 12 ∧ opN (pTop 11 (pTop 10 st l).1 (pTop 10 st l).2).1 ≤ opN st ∧ brN (pTop 11 (pTop 10 st l).1 (pTop 10 st l).2).1 = brN st ∧ (pTop 11 (pTop 10 st l).1 (pTop 10 st l).2).2.length + (pTop 11 (pTop 10 st l).1 (pTop 10 st l).2).1.length = l.length + st.length := by
  have a1 := pTop_a (x := 10) st l h
  refine ⟨pTop_a _ _ a1, h11 a1 (h10 h h9), ?_, ?_, ?_⟩
  · have := pTop_op (x := 10) st l
    have := pTop_op (x := 11) (pTop 10 st l).1 (pTop 10 st l).2
    omega
  · rw [pTop_br (by decide), pTop_br (by decide)]
  · rw [pTop_l, pTop_l]
theorem okS_r (h : okS false st l p) (hk : toK 0 n T p = 132) (p1 : p ≤ n) : okS true (11 :: (pTop 11 (pTop 10 st l).1 (pTop 10 st l).2).1) (pTop 11 (pTop 10 st l).1 (pTop 10 st l).2).2 (toE n T p) := by
  have e := toE_1 (T := T) (k := 0) p1 (by omega)
  obtain ⟨h1, h2, h3, h4⟩ := h
  obtain ⟨a1, a2, a3, a4, a5⟩ := tA (l := l) h1 (h3 rfl)
  refine ⟨⟨⟨by decide, by decide⟩, fun g => absurd g (by decide), fun _ => a2, a1⟩, ?_, fun g => absurd g (by decide), ?_⟩
  · show 0 + _ ≤ (8 : Int)
    omega
  · rw [List.length_cons]
    omega
/-- behind a bracket that closes, before nots come out -/
theorem okS_b0 (h : okS false st l p) (hb : brN st ≠ 0) : ∃ r, (pTop 11 (pTop 10 st l).1 (pTop 10 st l).2).1 = 12 :: r ∧ adj r ∧ 1 + opN r ≤ opN st ∧ 1 + brN r = brN st ∧ (pTop 11 (pTop 10 st l).1 (pTop 10 st l).2).2.length + (r.length + 1) = l.length + st.length := by
  obtain ⟨h1, h2, h3, h4⟩ := h
  obtain ⟨a1, a2, a3, a4, a5⟩ := tA (l := l) h1 (h3 rfl)
  obtain ⟨r, hr⟩ := brq_c a2 (by rw [a4]; exact hb)
  rw [hr] at a1 a3 a4 a5
  exact ⟨r, hr, a1.2.2.2, a3, a4, a5⟩
theorem okS_b (h : okS false st l p) (hk : toK 0 n T p ≠ 0) (p1 : p ≤ n) (hb : brN st ≠ 0) : okS false (pTop 9 (pTop 11 (pTop 10 st l).1 (pTop 10 st l).2).1.tail (pTop 11 (pTop 10 st l).1 (pTop 10 st l).2).2).1 (pTop 9 (pTop 11 (pTop 10 st l).1 (pTop 10 st l).2).1.tail (pTop 11 (pTop 10 st l).1 (pTop 10 st l).2).2).2 (toE n T p) := by
  have e := toE_1 (T := T) (k := 0) p1 hk
  obtain ⟨r, hr, b1, b2, b3, b4⟩ := okS_b0 h hb
  obtain ⟨h1, h2, h3, h4⟩ := h
  rw [hr]
  show okS false (pTop 9 r _).1 (pTop 9 r _).2 _
  refine ⟨pTop_a _ _ b1, by have := pTop_op (x := 9) r (pTop 11 (pTop 10 st l).1 (pTop 10 st l).2).2; omega, fun _ => pTop_h (by decide) _ _, ?_⟩
  have := pTop_l (x := 9) r (pTop 11 (pTop 10 st l).1 (pTop 10 st l).2).2
  omega
/-- a condition's codes leave one truth value -/
theorem pCd_ok : ∀ (f : Nat) (p : Int) (st : List Int) (l : Cd) (b : Bool) (x : Int × Cd), 0 ≤ p → p ≤ n → okS b st l p → eTy l0 l (tst b st) → pCd n T f p st l b = .ok x → p ≤ x.1 ∧ x.1 ≤ n ∧ (x.2.length : Int) ≤ x.1 ∧ eTy l0 x.2 [2]
  | 0, p, st, l, b, x, _, _, _, _, h => by cases h
  | f + 1, p, st, l, true, x, p0, p1, hs, ht, h => by
    by_cases g : toK 0 n T p = 134 ∨ toK 0 n T p = 40
    · have e := toE_1 (T := T) (k := 0) p1 (by omega)
      by_cases g8 : opN st = 8
      · rw [pCd_o3 g g8] at h; cases h
      · rw [pCd_o1 g g8] at h
        have := pCd_ok f _ _ _ _ x (by omega) e.2 (okS_o hs g p1 g8) (by
          obtain ⟨u, u1, u2⟩ := ht
          refine ⟨u, u1, ?_⟩
          have : jnN ((if toK 0 n T p = 134 then 9 else 12) :: st) = jnN st := by
            show (if _ then 1 else 0) + jnN st = _
            rw [if_neg (by split <;> decide)]; omega
          unfold tst
          rw [this]
          exact u2) h
        exact ⟨by omega, this.2.1, this.2.2.1, this.2.2.2⟩
    · rw [pCd_c g] at h
      cases h1 : pCm n T p l with
      | error f => rw [h1] at h; cases h
      | ok y =>
        rw [h1] at h
        replace h : pCd n T f y.1 (pTop 9 st y.2).1 (pTop 9 st y.2).2 false = .ok x := h
        obtain ⟨a0, a1, a2, u, a3, a4, a5⟩ := pCm_o p0 p1 h1
        have hl : (y.2.length : Int) + st.length ≤ y.1 := by
          have := hs.2.2.2
          rw [a3, List.length_append]
          omega
        have s26 := st_26 hs.1 hs.2.1
        have := pCd_ok f _ _ _ _ x (by omega) a2 (okS_c hs ⟨a1, a2, u, a3, a4, a5⟩ hl) (pTop_t (Or.inl rfl) st y.2 (by
          obtain ⟨w, w1, w2⟩ := ht
          refine ⟨w ++ u, by rw [a3, w1, List.append_assoc], (tyS_app _ _ _ _).mpr ⟨_, w2, ?_⟩⟩
          refine a5 _ ?_
          show (List.replicate (jnN st) (2 : Int)).length < 47
          rw [List.length_replicate]
          omega)) h
        exact ⟨by omega, this.2.1, this.2.2.1, this.2.2.2⟩
  | f + 1, p, st, l, false, x, p0, p1, hs, ht, h => by
    have hs' := hs
    obtain ⟨s1, s2, s3, s4⟩ := hs'
    have t10 := pTop_t (x := 10) (Or.inr (Or.inl rfl)) st l ht
    have t11 := pTop_t (x := 11) (Or.inr (Or.inr rfl)) _ _ t10
    by_cases ga : toK 0 n T p = 133
    · rw [pCd_a ga] at h
      have e := toE_1 (T := T) (k := 0) p1 (by omega)
      have := pCd_ok f _ _ _ _ x (by omega) e.2 (okS_a hs ga p1) (by
        obtain ⟨u, u1, u2⟩ := t10
        refine ⟨u, u1, ?_⟩
        show tyS u [] (List.replicate (1 + jnN (pTop 10 st l).1) 2)
        rw [Nat.add_comm, List.replicate_succ]
        exact u2) h
      exact ⟨by omega, this.2.1, this.2.2.1, this.2.2.2⟩
    · by_cases gr : toK 0 n T p = 132
      · rw [pCd_r gr] at h
        have e := toE_1 (T := T) (k := 0) p1 (by omega)
        have := pCd_ok f _ _ _ _ x (by omega) e.2 (okS_r hs gr p1) (by
          obtain ⟨u, u1, u2⟩ := t11
          refine ⟨u, u1, ?_⟩
          show tyS u [] (List.replicate (1 + jnN (pTop 11 (pTop 10 st l).1 (pTop 10 st l).2).1) 2)
          rw [Nat.add_comm, List.replicate_succ]
          exact u2) h
        exact ⟨by omega, this.2.1, this.2.2.1, this.2.2.2⟩
      · obtain ⟨a1, a2, a3, a4, a5⟩ := tA (l := l) s1 (s3 rfl)
        by_cases gb : brN st = 0
        · rw [pCd_e ga gr (by rw [a4]; exact gb)] at h
          have := brq_e a2 (by rw [a4]; exact gb)
          cases h
          refine ⟨Int.le_refl _, p1, by show ((pTop 11 (pTop 10 st l).1 (pTop 10 st l).2).2.length : Int) ≤ p; omega, ?_⟩
          show eTy l0 (pTop 11 (pTop 10 st l).1 (pTop 10 st l).2).2 [2]
          rw [this] at t11
          exact t11
        · by_cases gc : toK 0 n T p = 41
          · rw [pCd_b gc (by rw [a4]; exact gb)] at h
            have e := toE_1 (T := T) (k := 0) p1 (by omega)
            have := pCd_ok f _ _ _ _ x (by omega) e.2 (okS_b hs (by omega) p1 gb) (by
              obtain ⟨r, hr, b1, b2, b3, b4⟩ := okS_b0 hs gb
              refine pTop_t (Or.inl rfl) _ _ ?_
              rw [hr] at t11 ⊢
              have e1 : jnN ((12 : Int) :: r) = jnN r := by
                show (if (12 : Int) = 10 ∨ (12 : Int) = 11 then 1 else 0) + jnN r = _
                rw [if_neg (by decide)]; omega
              have t12 : eTy l0 (pTop 11 (pTop 10 st l).1 (pTop 10 st l).2).2 (2 :: List.replicate (jnN ((12 : Int) :: r)) 2) := t11
              rw [e1] at t12
              exact t12) h
            exact ⟨by omega, this.2.1, this.2.2.1, this.2.2.2⟩
          · rw [pCd_1 ga gr gc (by rw [a4]; exact gb)] at h
            cases h
end S65
