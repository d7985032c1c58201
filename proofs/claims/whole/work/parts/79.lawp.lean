/-! a law's text as functions of the place -/
noncomputable def pUn (n : Int) (T : Int → Int) (p : Int) (l : Cd) : Except Flt (Int × Cd) := if 135 ≤ toK 0 n T p ∧ toK 0 n T p < 144 then .ok (toE n T p, l ++ [(1, toK 0 n T p - 135)]) else if toK 0 n T p = 3 then .ok (toE n T p, l ++ [(0, toN n T p)]) else .error (1, toF n T p)
noncomputable def pDv (n : Int) (T : Int → Int) (p : Int) (l : Cd) : Except Flt (Int × Cd) := if toK 0 n T p = 3 then (if toN n T p = 0 then .error (2, toF n T p) else .ok (toE n T p, l ++ [(0, toN n T p)])) else .error (1, toF n T p)
noncomputable def pPr (n : Int) (T : Int → Int) : Nat → Int → Cd → Except Flt (Int × Cd)
  | 0, _, _ => .error (0, 0)
  | f + 1, p, l => if toK 0 n T p = 42 then (pUn n T (toE n T p) l).bind fun x => pPr n T f x.1 (x.2 ++ [(4, 0)]) else if toK 0 n T p = 47 then (pDv n T (toE n T p) l).bind fun x => pPr n T f x.1 (x.2 ++ [(5, 0)]) else .ok (p, l)
noncomputable def pSr (n : Int) (T : Int → Int) : Nat → Int → Cd → Except Flt (Int × Cd)
  | 0, _, _ => .error (0, 0)
  | f + 1, p, l => if toK 0 n T p = 43 ∨ toK 0 n T p = 45 then (pUn n T (toE n T p) l).bind fun x => (pPr n T 401 x.1 x.2).bind fun y => pSr n T f y.1 (y.2 ++ [(if toK 0 n T p = 43 then 2 else 3, 0)]) else .ok (p, l)
noncomputable def pSm (n : Int) (T : Int → Int) (p : Int) (l : Cd) : Except Flt (Int × Cd) := (pUn n T p l).bind fun x => (pPr n T 401 x.1 x.2).bind fun y => pSr n T 401 y.1 y.2
noncomputable def pCm (n : Int) (T : Int → Int) (p : Int) (l : Cd) : Except Flt (Int × Cd) := (pSm n T p l).bind fun x => if toK 0 n T x.1 = 60 ∨ toK 0 n T x.1 = 61 ∨ toK 0 n T x.1 = 62 then (pSm n T (toE n T x.1) x.2).bind fun y => .ok (y.1, y.2 ++ [(toK 0 n T x.1 - 54, 0)]) else .error (1, toF n T x.1)
/-- what waits on top, as long as it is so, comes out -/
def pTop (x : Int) : List Int → Cd → List Int × Cd
  | [], l => ([], l)
  | y :: r, l => if y = x then pTop x r (l ++ [(x, 0)]) else (y :: r, l)
/-- as the class does it: all that joins as closely or closer -/
def pGe (b : Int) : List Int → Cd → List Int × Cd
  | [], l => ([], l)
  | y :: r, l => if y ≤ b then pGe b r (l ++ [(y, 0)]) else (y :: r, l)
def opN : List Int → Int
  | [] => 0
  | x :: r => (if x = 9 ∨ x = 12 then 1 else 0) + opN r
def brN : List Int → Int
  | [] => 0
  | x :: r => (if x = 12 then 1 else 0) + brN r
def jnN : List Int → Nat
  | [] => 0
  | x :: r => (if x = 10 ∨ x = 11 then 1 else 0) + jnN r
def adj : List Int → Prop
  | [] => True
  | x :: r => (9 ≤ x ∧ x ≤ 12) ∧ (x = 10 → 11 ≤ r.headD 12) ∧ (x = 11 → r.headD 12 = 12) ∧ adj r
noncomputable def pCd (n : Int) (T : Int → Int) : Nat → Int → List Int → Cd → Bool → Except Flt (Int × Cd)
  | 0, _, _, _, _ => .error (0, 0)
  | f + 1, p, st, l, b =>
    if b = true then
      (if toK 0 n T p = 134 ∨ toK 0 n T p = 40 then (if opN st = 8 then .error (3, toF n T p) else pCd n T f (toE n T p) ((if toK 0 n T p = 134 then 9 else 12) :: st) l true)
      else (pCm n T p l).bind fun x => pCd n T f x.1 (pTop 9 st x.2).1 (pTop 9 st x.2).2 false)
    else if toK 0 n T p = 133 then pCd n T f (toE n T p) (10 :: (pTop 10 st l).1) (pTop 10 st l).2 true
    else if toK 0 n T p = 132 then pCd n T f (toE n T p) (11 :: (pTop 11 (pTop 10 st l).1 (pTop 10 st l).2).1) (pTop 11 (pTop 10 st l).1 (pTop 10 st l).2).2 true
    else if brN (pTop 11 (pTop 10 st l).1 (pTop 10 st l).2).1 = 0 then .ok (p, (pTop 11 (pTop 10 st l).1 (pTop 10 st l).2).2)
    else if toK 0 n T p = 41 then pCd n T f (toE n T p) (pTop 9 (pTop 11 (pTop 10 st l).1 (pTop 10 st l).2).1.tail (pTop 11 (pTop 10 st l).1 (pTop 10 st l).2).2).1 (pTop 9 (pTop 11 (pTop 10 st l).1 (pTop 10 st l).2).1.tail (pTop 11 (pTop 10 st l).1 (pTop 10 st l).2).2).2 false
    else .error (1, toF n T p)
/-- codes that come behind l, from p to q, and what they do to the kinds on the stack -/
def addC (n p : Int) (l : Cd) (x : Int × Cd) (P : Cd → Prop) : Prop := p ≤ x.1 ∧ x.1 ≤ n ∧ ∃ e, x.2 = l ++ e ∧ (e.length : Int) ≤ x.1 - p ∧ P e
def psh (M : Nat) (e : Cd) : Prop := ∀ t : List Int, t.length < M → ∃ x, tyS e t (x :: t)
def rpl (M : Nat) (e : Cd) : Prop := ∀ (a : Int) (t : List Int), t.length < M → ∃ x, tyS e (a :: t) (x :: t)
section S64
variable {n p q : Int} {T : Int → Int} {l : Cd} {x y : Int × Cd}
theorem addC.tr {P Q R : Cd → Prop} (h1 : addC n p l x P) (h2 : addC n x.1 x.2 y Q) (h : ∀ a b, P a → Q b → R (a ++ b)) : addC n p l y R := by
  obtain ⟨a1, a2, e, e1, e2, e3⟩ := h1
  obtain ⟨b1, b2, g, g1, g2, g3⟩ := h2
  refine ⟨by omega, b2, e ++ g, by rw [g1, e1, List.append_assoc], ?_, h e g e3 g3⟩
  rw [List.length_append]
  omega
theorem toE_1 {k : Nat} (p1 : p ≤ n) (h : toK k n T p ≠ 0) : p + 1 ≤ toE n T p ∧ toE n T p ≤ n := by
  have fb := toF_b (T := T) p1
  have eb := toE_b (T := T) p1
  have : toF n T p ≠ n := fun g => h ((toK_0 p1).mpr g)
  have := eb.2.2 (by omega)
  omega
theorem tyS_1 {c : Int × Int} {t u : List Int} (h : tyR c t u) : tyS [c] t u := ⟨u, h, rfl⟩
theorem pUn_o (p0 : 0 ≤ p) (p1 : p ≤ n) (h : pUn n T p l = .ok x) : p < x.1 ∧ addC n p l x (psh 50) := by
  unfold pUn at h
  split at h
  · rename_i g
    have e := toE_1 (T := T) (k := 0) p1 (by omega)
    cases h
    refine ⟨by show p < toE n T p; omega, by show p ≤ toE n T p; omega, e.2, _, rfl, by show (1 : Int) ≤ toE n T p - p; omega, fun t ht => ⟨0, tyS_1 (Or.inr (Or.inl ⟨rfl, by show 0 ≤ toK 0 n T p - 135; omega, by show toK 0 n T p - 135 < 9; omega, by omega, rfl⟩))⟩⟩
  · split at h
    · rename_i g
      have e := toE_1 (T := T) (k := 0) p1 (by omega)
      have nr := toN_r (T := T) (k := 0) (by decide) p1 g
      cases h
      exact ⟨by show p < toE n T p; omega, by show p ≤ toE n T p; omega, e.2, _, rfl, by show (1 : Int) ≤ toE n T p - p; omega, fun t ht => ⟨_, tyS_1 (Or.inl ⟨rfl, nr.1, nr.2, by omega, rfl⟩)⟩⟩
    · cases h
theorem pDv_o (p0 : 0 ≤ p) (p1 : p ≤ n) (h : pDv n T p l = .ok x) : p < x.1 ∧ addC n p l x (fun e => ∀ t : List Int, t.length < 51 → tyS e t (1 :: t)) := by
  unfold pDv at h
  split at h
  · rename_i g
    split at h
    · cases h
    · rename_i g2
      have e := toE_1 (T := T) (k := 0) p1 (by omega)
      have nr := toN_r (T := T) (k := 0) (by decide) p1 g
      cases h
      exact ⟨by show p < toE n T p; omega, by show p ≤ toE n T p; omega, e.2, _, rfl, by show (1 : Int) ≤ toE n T p - p; omega, fun t ht => tyS_1 (Or.inl ⟨rfl, nr.1, nr.2, by omega, by rw [if_neg g2]⟩)⟩
  · cases h
theorem tyJ {o a b : Int} {t : List Int} (h2 : 2 ≤ o) (h3 : o ≤ 5) (h5 : o = 5 → a = 1) : tyS [(o, 0)] (a :: b :: t) (0 :: t) :=
  tyS_1 (Or.inr (Or.inr (Or.inr ⟨a, b, t, rfl, h2, by show o ≤ 11; omega, by show o ≠ 9; omega, h5, fun (q : 10 ≤ o) => by omega, by show _ = (if o ≤ 5 then (0 : Int) else 2) :: t; rw [if_pos h3]⟩)))
theorem pPr_o : ∀ (f : Nat) (p : Int) (l : Cd) (x : Int × Cd), 0 ≤ p → p ≤ n → pPr n T f p l = .ok x → addC n p l x (rpl 49)
  | 0, p, l, x, _, _, h => by cases h
  | f + 1, p, l, x, p0, p1, h => by
    have h : (if toK 0 n T p = 42 then (pUn n T (toE n T p) l).bind fun x => pPr n T f x.1 (x.2 ++ [(4, 0)]) else if toK 0 n T p = 47 then (pDv n T (toE n T p) l).bind fun x => pPr n T f x.1 (x.2 ++ [(5, 0)]) else .ok (p, l)) = Except.ok x := h
    split at h
    · rename_i g
      have e := toE_1 (T := T) (k := 0) p1 (by omega)
      cases h1 : pUn n T (toE n T p) l with
      | error f => rw [h1] at h; cases h
      | ok y =>
        rw [h1] at h
        replace h : pPr n T f y.1 (y.2 ++ [(4, 0)]) = .ok x := h
        obtain ⟨a0, a1, a2, u, a3, a4, a5⟩ := pUn_o (by omega) e.2 h1
        obtain ⟨b1, b2, v, b3, b4, b5⟩ := pPr_o f y.1 _ x (by omega) a2 h
        refine ⟨by omega, b2, u ++ ([(4, 0)] ++ v), by rw [b3, a3]; simp, ?_, fun a t ht => ?_⟩
        · rw [List.length_append, List.length_append, show [((4 : Int), (0 : Int))].length = 1 from rfl]
          omega
        · obtain ⟨z, hz⟩ := a5 (a :: t) (by rw [List.length_cons]; omega)
          obtain ⟨w, hw⟩ := b5 0 t ht
          exact ⟨w, (tyS_app _ _ _ _).mpr ⟨_, hz, (tyS_app _ _ _ _).mpr ⟨0 :: t, tyJ (by decide) (by decide) (fun q => absurd q (by decide)), hw⟩⟩⟩
    · split at h
      · rename_i g
        have e := toE_1 (T := T) (k := 0) p1 (by omega)
        cases h1 : pDv n T (toE n T p) l with
        | error f => rw [h1] at h; cases h
        | ok y =>
          rw [h1] at h
          replace h : pPr n T f y.1 (y.2 ++ [(5, 0)]) = .ok x := h
          obtain ⟨a0, a1, a2, u, a3, a4, a5⟩ := pDv_o (by omega) e.2 h1
          obtain ⟨b1, b2, v, b3, b4, b5⟩ := pPr_o f y.1 _ x (by omega) a2 h
          refine ⟨by omega, b2, u ++ ([(5, 0)] ++ v), by rw [b3, a3]; simp, ?_, fun a t ht => ?_⟩
          · rw [List.length_append, List.length_append, show [((5 : Int), (0 : Int))].length = 1 from rfl]
            omega
          · obtain ⟨w, hw⟩ := b5 0 t ht
            exact ⟨w, (tyS_app _ _ _ _).mpr ⟨_, a5 (a :: t) (by rw [List.length_cons]; omega), (tyS_app _ _ _ _).mpr ⟨0 :: t, tyJ (by decide) (by decide) (fun _ => rfl), hw⟩⟩⟩
      · cases h
        exact ⟨Int.le_refl _, p1, [], (List.append_nil _).symm, by show (0 : Int) ≤ p - p; omega, fun a t _ => ⟨a, rfl⟩⟩
theorem pSr_o : ∀ (f : Nat) (p : Int) (l : Cd) (x : Int × Cd), 0 ≤ p → p ≤ n → pSr n T f p l = .ok x → addC n p l x (rpl 48)
  | 0, p, l, x, _, _, h => by cases h
  | f + 1, p, l, x, p0, p1, h => by
    have h : (if toK 0 n T p = 43 ∨ toK 0 n T p = 45 then (pUn n T (toE n T p) l).bind fun x => (pPr n T 401 x.1 x.2).bind fun y => pSr n T f y.1 (y.2 ++ [(if toK 0 n T p = 43 then 2 else 3, 0)]) else .ok (p, l)) = Except.ok x := h
    split at h
    · rename_i g
      have e := toE_1 (T := T) (k := 0) p1 (by omega)
      cases h1 : pUn n T (toE n T p) l with
      | error f => rw [h1] at h; cases h
      | ok y =>
        rw [h1] at h
        replace h : ((pPr n T 401 y.1 y.2).bind fun y => pSr n T f y.1 (y.2 ++ [(if toK 0 n T p = 43 then 2 else 3, 0)])) = .ok x := h
        obtain ⟨a0, a1, a2, u, a3, a4, a5⟩ := pUn_o (by omega) e.2 h1
        cases h2 : pPr n T 401 y.1 y.2 with
        | error f => rw [h2] at h; cases h
        | ok z =>
          rw [h2] at h
          replace h : pSr n T f z.1 (z.2 ++ [(if toK 0 n T p = 43 then 2 else 3, 0)]) = .ok x := h
          obtain ⟨c1, c2, w, c3, c4, c5⟩ := pPr_o 401 y.1 _ z (by omega) a2 h2
          obtain ⟨b1, b2, v, b3, b4, b5⟩ := pSr_o f z.1 _ x (by omega) c2 h
          refine ⟨by omega, b2, u ++ (w ++ ([(if toK 0 n T p = 43 then 2 else 3, 0)] ++ v)), by rw [b3, c3, a3]; simp, ?_, fun a t ht => ?_⟩
          · rw [List.length_append, List.length_append, List.length_append, show [((if toK 0 n T p = 43 then 2 else 3 : Int), (0 : Int))].length = 1 from rfl]
            omega
          · obtain ⟨z1, hz⟩ := a5 (a :: t) (by rw [List.length_cons]; omega)
            obtain ⟨z2, hz2⟩ := c5 z1 (a :: t) (by rw [List.length_cons]; omega)
            obtain ⟨z3, hz3⟩ := b5 0 t ht
            exact ⟨z3, (tyS_app _ _ _ _).mpr ⟨_, hz, (tyS_app _ _ _ _).mpr ⟨_, hz2, (tyS_app _ _ _ _).mpr ⟨0 :: t, tyJ (by split <;> decide) (by split <;> decide) (fun q => by split at q <;> omega), hz3⟩⟩⟩⟩
    · cases h
      exact ⟨Int.le_refl _, p1, [], (List.append_nil _).symm, by show (0 : Int) ≤ p - p; omega, fun a t _ => ⟨a, rfl⟩⟩
theorem pSm_o (p0 : 0 ≤ p) (p1 : p ≤ n) (h : pSm n T p l = .ok x) : p < x.1 ∧ addC n p l x (psh 48) := by
  unfold pSm at h
  cases h1 : pUn n T p l with
  | error f => rw [h1] at h; cases h
  | ok y =>
    rw [h1] at h
    replace h : ((pPr n T 401 y.1 y.2).bind fun y => pSr n T 401 y.1 y.2) = .ok x := h
    obtain ⟨a0, a⟩ := pUn_o p0 p1 h1
    have a2 := a.2.1
    cases h2 : pPr n T 401 y.1 y.2 with
    | error f => rw [h2] at h; cases h
    | ok z =>
      rw [h2] at h
      replace h : pSr n T 401 z.1 z.2 = .ok x := h
      have c := pPr_o 401 y.1 _ z (by omega) a2 h2
      have c1 := c.1
      have b := pSr_o 401 z.1 _ x (by omega) c.2.1 h
      have b1 := b.1
      refine ⟨by omega, (a.tr c (R := psh 48) (fun u w hu hw t ht => ?_)).tr b (fun u w hu hw t ht => ?_)⟩
      · obtain ⟨z1, k1⟩ := hu t (by omega)
        obtain ⟨z2, k2⟩ := hw z1 t (by omega)
        exact ⟨z2, (tyS_app _ _ _ _).mpr ⟨_, k1, k2⟩⟩
      · obtain ⟨z1, k1⟩ := hu t ht
        obtain ⟨z2, k2⟩ := hw z1 t ht
        exact ⟨z2, (tyS_app _ _ _ _).mpr ⟨_, k1, k2⟩⟩
def p2h (e : Cd) : Prop := ∀ t : List Int, t.length < 47 → tyS e t (2 :: t)
theorem pCm_o (p0 : 0 ≤ p) (p1 : p ≤ n) (h : pCm n T p l = .ok x) : p < x.1 ∧ addC n p l x p2h := by
  unfold pCm at h
  cases h1 : pSm n T p l with
  | error f => rw [h1] at h; cases h
  | ok y =>
    rw [h1] at h
    replace h : (if toK 0 n T y.1 = 60 ∨ toK 0 n T y.1 = 61 ∨ toK 0 n T y.1 = 62 then (pSm n T (toE n T y.1) y.2).bind fun z => .ok (z.1, z.2 ++ [(toK 0 n T y.1 - 54, 0)]) else .error (1, toF n T y.1)) = Except.ok x := h
    obtain ⟨a0, a1, a2, u, a3, a4, a5⟩ := pSm_o p0 p1 h1
    split at h
    · rename_i g
      have e := toE_1 (T := T) (k := 0) a2 (by omega)
      cases h2 : pSm n T (toE n T y.1) y.2 with
      | error f => rw [h2] at h; cases h
      | ok z =>
        rw [h2] at h
        obtain ⟨b0, b1, b2, v, b3, b4, b5⟩ := pSm_o (by omega) e.2 h2
        cases h
        refine ⟨by show p < z.1; omega, by show p ≤ z.1; omega, b2, u ++ (v ++ [(toK 0 n T y.1 - 54, 0)]), by rw [b3, a3]; simp, ?_, fun t ht => ?_⟩
        · rw [List.length_append, List.length_append, show [((toK 0 n T y.1 - 54 : Int), (0 : Int))].length = 1 from rfl]
          show _ ≤ z.1 - p
          omega
        · obtain ⟨z1, k1⟩ := a5 t (by omega)
          obtain ⟨z2, k2⟩ := b5 (z1 :: t) (by rw [List.length_cons]; omega)
          exact (tyS_app _ _ _ _).mpr ⟨_, k1, (tyS_app _ _ _ _).mpr ⟨_, k2, tyS_1 (Or.inr (Or.inr (Or.inr ⟨z2, z1, t, rfl, by show 2 ≤ toK 0 n T y.1 - 54; omega, by show toK 0 n T y.1 - 54 ≤ 11; omega, by show toK 0 n T y.1 - 54 ≠ 9; omega, fun (q : toK 0 n T y.1 - 54 = 5) => by omega, fun (q : 10 ≤ toK 0 n T y.1 - 54) => by omega, by show _ = (if toK 0 n T y.1 - 54 ≤ 5 then (0 : Int) else 2) :: t; rw [if_neg (by omega)]⟩)))⟩⟩
    · cases h
end S64
