/-! codes of a law -/
abbrev Cd : Type := List (Int × Int)
/-- a code as the class has it -/
def trC (c : Int × Int) : Int := if c.1 = 0 then c.2 else if c.1 = 1 then -1 - c.2 else if c.1 = 2 then -143 else if c.1 = 3 then -145 else if c.1 = 4 then -142 else if c.1 = 5 then -147 else if c.1 = 6 then -160 else if c.1 = 7 then -161 else if c.1 = 8 then -162 else if c.1 = 9 then -234 else if c.1 = 10 then -233 else -232
noncomputable def twZ (o x y : Int) : Int := if o = 2 then x + y else if o = 3 then x - y else if o = 4 then x * y else if o = 5 then iDiv x y else if o = 6 then b2 (w32 x < w32 y) else if o = 7 then b2 (w32 x = w32 y) else if o = 8 then b2 (w32 y < w32 x) else if o = 10 then x * y else b2 (0 < w32 (x + y))
noncomputable def ev1 (F : Int → Int) (c : Int × Int) (s : List Int) : List Int :=
  if c.1 = 0 then c.2 :: s else if c.1 = 1 then F c.2 :: s else match s with
  | x :: r => if c.1 = 9 then (1 - x) :: r else match r with
    | y :: r' => twZ c.1 y x :: r'
    | [] => x :: r
  | [] => s
noncomputable def evS (F : Int → Int) : Cd → List Int → List Int
  | [], s => s
  | c :: l, s => evS F l (ev1 F c s)
noncomputable def evV (F : Int → Int) (l : Cd) : Int := (evS F l []).headD 0
/-- kinds of what lies on the stack: 1 a number that is not 0, 2 a truth value -/
def tyR (c : Int × Int) (t t' : List Int) : Prop :=
  (c.1 = 0 ∧ 0 ≤ c.2 ∧ c.2 ≤ 9999 ∧ t.length < 60 ∧ t' = (if c.2 = 0 then 0 else 1) :: t) ∨ (c.1 = 1 ∧ 0 ≤ c.2 ∧ c.2 < 9 ∧ t.length < 60 ∧ t' = 0 :: t) ∨ (c.1 = 9 ∧ ∃ r, t = 2 :: r ∧ t' = 2 :: r) ∨
  ∃ a b r, t = a :: b :: r ∧ 2 ≤ c.1 ∧ c.1 ≤ 11 ∧ c.1 ≠ 9 ∧ (c.1 = 5 → a = 1) ∧ (10 ≤ c.1 → a = 2 ∧ b = 2) ∧ t' = (if c.1 ≤ 5 then 0 else 2) :: r
def tyS : Cd → List Int → List Int → Prop
  | [], t, t' => t = t'
  | c :: l, t, t' => ∃ u, tyR c t u ∧ tyS l u t'
def vt : List Int → List Int → Prop
  | [], s => s = []
  | t :: r, s => ∃ v q, s = v :: q ∧ (t = 1 → w32 v ≠ 0) ∧ (t = 2 → v = 0 ∨ v = 1) ∧ vt r q
theorem vt_len : ∀ (t s : List Int), vt t s → s.length = t.length
  | [], s, h => by have h : s = [] := h; rw [h]
  | t :: r, s, h => by obtain ⟨v, q, rfl, _, _, h⟩ := h; rw [List.length_cons, List.length_cons, vt_len r q h]
theorem tyS_app : ∀ (a b : Cd) (t u : List Int), tyS (a ++ b) t u ↔ ∃ v, tyS a t v ∧ tyS b v u
  | [], b, t, u => ⟨fun h => ⟨t, rfl, h⟩, fun ⟨v, h1, h2⟩ => by have h1 : t = v := h1; subst h1; exact h2⟩
  | c :: a, b, t, u => by
    constructor
    · rintro ⟨x, h1, h2⟩
      obtain ⟨v, h3, h4⟩ := (tyS_app a b x u).mp h2
      exact ⟨v, ⟨x, h1, h3⟩, h4⟩
    · rintro ⟨v, ⟨x, h1, h3⟩, h4⟩
      exact ⟨x, h1, (tyS_app a b x u).mpr ⟨v, h3, h4⟩⟩
theorem twZ_b {o x y : Int} (h : 6 ≤ o) (hx : 10 ≤ o → x = 0 ∨ x = 1) (hy : 10 ≤ o → y = 0 ∨ y = 1) : twZ o x y = 0 ∨ twZ o x y = 1 := by
  unfold twZ
  rw [if_neg (by omega), if_neg (by omega), if_neg (by omega), if_neg (by omega)]
  split
  · exact b2_01 _
  · split
    · exact b2_01 _
    · split
      · exact b2_01 _
      · split
        · rcases hx (by omega) with e | e <;> rcases hy (by omega) with g | g <;> rw [e, g] <;> decide
        · exact b2_01 _
theorem ev1_vt {F : Int → Int} {c : Int × Int} {t t' s : List Int} (h : tyR c t t') (hv : vt t s) : vt t' (ev1 F c s) := by
  rcases h with ⟨h1, h2, h3, h4, rfl⟩ | ⟨h1, h2, h3, h4, rfl⟩ | ⟨h1, r, rfl, rfl⟩ | ⟨a, b, r, rfl, h2, h3, h4, h5, h6, rfl⟩
  · unfold ev1
    rw [if_pos h1]
    refine ⟨_, _, rfl, fun e => ?_, fun e => ?_, hv⟩
    · have : c.2 ≠ 0 := fun g => by rw [if_pos g] at e; omega
      exact w32_ne0 (inR_of (by omega) (by omega)) this
    · split at e <;> omega
  · unfold ev1
    rw [if_neg (by omega), if_pos h1]
    exact ⟨_, _, rfl, fun e => by omega, fun e => by omega, hv⟩
  · obtain ⟨v, q, rfl, g1, g2, g3⟩ := hv
    unfold ev1
    rw [if_neg (by omega), if_neg (by omega)]
    show vt _ (if c.1 = 9 then (1 - v) :: q else _)
    rw [if_pos h1]
    exact ⟨_, _, rfl, fun e => by omega, fun _ => by rcases g2 rfl with e | e <;> omega, g3⟩
  · obtain ⟨x, q, rfl, g1, g2, y, q, rfl, g4, g5, g6⟩ := hv
    have e : ev1 F c (x :: y :: q) = twZ c.1 y x :: q := by
      unfold ev1
      rw [if_neg (by omega), if_neg (by omega)]
      exact if_neg h4
    rw [e]
    refine ⟨_, _, rfl, fun e => ?_, fun e => ?_, g6⟩
    · split at e <;> omega
    · have : 6 ≤ c.1 := by
        rcases Int.lt_or_le 5 c.1 with h | h
        · omega
        · rw [if_pos h] at e; omega
      exact twZ_b this (fun h => g5 (h6 h).2) (fun h => g2 (h6 h).1)
/-- the stack in memory -/
def stk (m : Int → Int) : List Int → Prop
  | [] => True
  | x :: r => m (r.length : Nat) = x ∧ stk m r
theorem stk_mu {μ : Mm} {o : Nat} {i v : Int} : ∀ s : List Int, stk (μ o) s → (s.length : Int) ≤ i → stk (mu μ o i v o) s
  | [], _, _ => trivial
  | x :: r, h, hi => by
    rw [List.length_cons] at hi
    exact ⟨by rw [mu_i (by omega)]; exact h.1, stk_mu r h.2 (by omega)⟩
/-- codes in memory, of the class and of the reference -/
def cod (m : Int → Int) : Int → Cd → Prop
  | _, [] => True
  | i, c :: l => m i = trC c ∧ cod m (i + 1) l
def coM (m g : Int → Int) : Int → Cd → Prop
  | _, [] => True
  | i, c :: l => m i = c.1 ∧ g i = c.2 ∧ coM m g (i + 1) l
def kdC (o : Int) : Int := -100 - trC (o, 0)
theorem iAnd_b {x y : Int} (hx : x = 0 ∨ x = 1) (hy : y = 0 ∨ y = 1) : iAnd x y = x * y := by
  rcases hx with rfl | rfl <;> rcases hy with rfl | rfl <;> decide
theorem iOr_b {x y : Int} (hx : x = 0 ∨ x = 1) (hy : y = 0 ∨ y = 1) : iOr x y = b2 (0 < w32 (x + y)) := by
  rcases hx with rfl | rfl <;> rcases hy with rfl | rfl
  · rw [b2_f (by decide)]; decide
  · rw [b2_t (by decide)]; decide
  · rw [b2_t (by decide)]; decide
  · rw [b2_t (by decide)]; decide
section S27
variable {E : En} {d : Nat} {Φ : Option AV → Mm → Prop} {μ : Mm}
/-- a number that comes back may be taken as the machine has it -/
theorem ct_w {j : Nat} {as : List AV} {f : Int → Mm → Prop} (h : Ct E d j as μ (rI fun z μ => f (w32 z) μ)) : Ct E d j as μ (rI f) := by
  refine ⟨h.1, ?_⟩
  have := h.2
  unfold Met at this ⊢
  refine MetFree.mono this (fun _ _ h => h) (fun _ _ _ _ _ h => h) ?_
  intro a s o t _ h
  obtain ⟨⟨⟨v, μ', h1, h2, h3⟩, h4⟩, h5⟩ := h
  refine ⟨⟨?_, h4⟩, h5⟩
  match v, h2 with
  | some (.inl z), h2 =>
    refine ⟨some (.inl (w32 z)), μ', ?_, h2, h3⟩
    rw [h1]
    show Outcome.returned (some (Value.int (Int32.ofInt z))) = Outcome.returned (some (Value.int (Int32.ofInt (w32 z))))
    rw [ofI_inj.mpr (w32_id (w32_in z)).symm]
theorem s17 {o x y : Int} (hd : 1 ≤ d) (h2 : 2 ≤ o) (h3 : o ≤ 11) (h4 : o ≠ 9) (h5 : o = 5 → w32 y ≠ 0) (h6 : 10 ≤ o → (x = 0 ∨ x = 1) ∧ (y = 0 ∨ y = 1)) (h : Φ (some (.inl (twZ o x y))) μ) : Ct E d 17 [.inl (kdC o), .inl x, .inl y] μ Φ := by
  refine v17 hd ?_
  rcases (by omega : o = 2 ∨ o = 3 ∨ o = 4 ∨ o = 5 ∨ o = 6 ∨ o = 7 ∨ o = 8 ∨ o = 10 ∨ o = 11) with rfl | rfl | rfl | rfl | rfl | rfl | rfl | rfl | rfl
  · have e : kdC 2 = 43 := by decide
    have g : twZ 2 x y = x + y := rfl
    rw [e]; rw [g] at h
    exact ⟨inR_of (by omega) (by omega), fun _ => by omega, fun _ => h, fun _ => by omega, fun _ => by omega, fun _ => by omega, fun _ => by omega, fun _ => by omega, fun _ => by omega, fun _ _ _ _ _ _ _ _ => by omega⟩
  · have e : kdC 3 = 45 := by decide
    have g : twZ 3 x y = x - y := rfl
    rw [e]; rw [g] at h
    exact ⟨inR_of (by omega) (by omega), fun _ => by omega, fun _ => by omega, fun _ => h, fun _ => by omega, fun _ => by omega, fun _ => by omega, fun _ => by omega, fun _ => by omega, fun _ _ _ _ _ _ _ _ => by omega⟩
  · have e : kdC 4 = 42 := by decide
    have g : twZ 4 x y = x * y := rfl
    rw [e]; rw [g] at h
    exact ⟨inR_of (by omega) (by omega), fun _ => h, fun _ => by omega, fun _ => by omega, fun _ => by omega, fun _ => by omega, fun _ => by omega, fun _ => by omega, fun _ => by omega, fun _ _ _ _ _ _ _ _ => by omega⟩
  · have e : kdC 5 = 47 := by decide
    have g : twZ 5 x y = iDiv x y := rfl
    rw [e]; rw [g] at h
    exact ⟨inR_of (by omega) (by omega), fun _ => by omega, fun _ => by omega, fun _ => by omega, fun _ => ⟨fun k => ⟨k, h⟩, fun k => absurd k (h5 rfl)⟩, fun _ => by omega, fun _ => by omega, fun _ => by omega, fun _ => by omega, fun _ _ _ _ _ _ _ _ => by omega⟩
  · have e : kdC 6 = 60 := by decide
    have g : twZ 6 x y = b2 (w32 x < w32 y) := rfl
    rw [e]; rw [g] at h
    exact ⟨inR_of (by omega) (by omega), fun _ => by omega, fun _ => by omega, fun _ => by omega, fun _ => by omega, fun _ => ⟨fun k => ff h (by omega), fun k => ft h k⟩, fun _ => by omega, fun _ => by omega, fun _ => by omega, fun _ _ _ _ _ _ _ _ => by omega⟩
  · have e : kdC 7 = 61 := by decide
    have g : twZ 7 x y = b2 (w32 x = w32 y) := rfl
    rw [e]; rw [g] at h
    exact ⟨inR_of (by omega) (by omega), fun _ => by omega, fun _ => by omega, fun _ => by omega, fun _ => by omega, fun _ => by omega, fun _ => ⟨fun k => ff h (by omega), fun k => ft h k⟩, fun _ => by omega, fun _ => by omega, fun _ _ _ _ _ _ _ _ => by omega⟩
  · have e : kdC 8 = 62 := by decide
    have g : twZ 8 x y = b2 (w32 y < w32 x) := rfl
    rw [e]; rw [g] at h
    exact ⟨inR_of (by omega) (by omega), fun _ => by omega, fun _ => by omega, fun _ => by omega, fun _ => by omega, fun _ => by omega, fun _ => by omega, fun _ => ⟨fun k => ff h (by omega), fun k => ft h k⟩, fun _ => by omega, fun _ _ _ _ _ _ _ _ => by omega⟩
  · have e : kdC 10 = 133 := by decide
    have g : twZ 10 x y = x * y := rfl
    rw [e]; rw [g] at h
    exact ⟨inR_of (by omega) (by omega), fun _ => by omega, fun _ => by omega, fun _ => by omega, fun _ => by omega, fun _ => by omega, fun _ => by omega, fun _ => by omega, fun _ => fe h (iAnd_b (h6 (by omega)).1 (h6 (by omega)).2).symm, fun _ _ _ _ _ _ _ _ => by omega⟩
  · have e : kdC 11 = 132 := by decide
    have g : twZ 11 x y = b2 (0 < w32 (x + y)) := rfl
    rw [e]; rw [g] at h
    exact ⟨inR_of (by omega) (by omega), fun _ => by omega, fun _ => by omega, fun _ => by omega, fun _ => by omega, fun _ => by omega, fun _ => by omega, fun _ => by omega, fun _ => by omega, fun _ _ _ _ _ _ _ _ => fe h (iOr_b (h6 (by omega)).1 (h6 (by omega)).2).symm⟩
theorem s206 {o x y : Int} (hd : 1 ≤ d) (h2 : 2 ≤ o) (h3 : o ≤ 11) (h4 : o ≠ 9) (h5 : o = 5 → w32 y ≠ 0) (h : Φ (some (.inl (twZ o x y))) μ) : Ct E d 206 [.inr 123, .inl o, .inl x, .inl y] μ Φ := by
  have ho : inR o := inR_of (by omega) (by omega)
  unfold twZ at h
  refine v206 hd ⟨ho, fun a2 => ⟨ho, fun a3 => ⟨ho, fun a4 => ⟨ho, fun a5 => ⟨ho, fun a6 => ⟨ho, fun a7 => ⟨ho, fun a8 => ⟨ho, fun a9 => ?_, fun a9 => ?_⟩, fun a8 => ?_⟩, fun a7 => ?_⟩, fun a6 => ?_⟩, fun a5 => ⟨h5 a5, ?_⟩⟩, fun a4 => ?_⟩, fun a3 => ?_⟩, fun a2 => ?_⟩
  · rw [if_neg a2, if_neg a3, if_neg a4, if_neg a5, if_neg a6, if_neg a7, if_neg a8, if_neg a9] at h
    exact ⟨fun k => ff h (by omega), fun k => ft h k⟩
  · rwa [if_neg a2, if_neg a3, if_neg a4, if_neg a5, if_neg a6, if_neg a7, if_neg a8, if_pos a9] at h
  · rw [if_neg a2, if_neg a3, if_neg a4, if_neg a5, if_neg a6, if_neg a7, if_pos a8] at h
    exact ⟨fun k => ff h (by omega), fun k => ft h k⟩
  · rw [if_neg a2, if_neg a3, if_neg a4, if_neg a5, if_neg a6, if_pos a7] at h
    exact ⟨fun k => ff h (by omega), fun k => ft h k⟩
  · rw [if_neg a2, if_neg a3, if_neg a4, if_neg a5, if_pos a6] at h
    exact ⟨fun k => ff h (by omega), fun k => ft h k⟩
  · rwa [if_neg a2, if_neg a3, if_neg a4, if_pos a5] at h
  · rwa [if_neg a2, if_neg a3, if_pos a4] at h
  · rwa [if_neg a2, if_pos a3] at h
  · rwa [if_pos a2] at h
end S27
