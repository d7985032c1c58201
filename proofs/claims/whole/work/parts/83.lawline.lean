/-! lines of a law, in the class -/
noncomputable def pWh (n : Int) (T : Int → Int) (x : Int × Cd) : Except Flt (Int × Cd) := if toK 0 n T x.1 = 131 then pCd n T 401 (toE n T x.1) [] x.2 true else .ok x
noncomputable def pLw (n : Int) (T : Int → Int) (p : Int) (l : Cd) : Except Flt ((Int × Int × Int × Int) × Int × Cd) :=
  if 128 ≤ toK 0 n T p ∧ toK 0 n T p < 131 then (pSm n T (toE n T p) l).bind fun x => (pWh n T x).bind fun y => if toK 0 n T y.1 = 59 then .ok ((toK 0 n T p - 128, l.length, x.2.length, y.2.length), toE n T y.1, y.2) else .error (1, toF n T y.1) else .error (1, toF n T p)
noncomputable def pLL (n : Int) (T : Int → Int) : Nat → Int → (Int → Int × Int × Int × Int) → Int → Cd → Except Flt (Int × (Int → Int × Int × Int × Int) × Cd)
  | 0, i, D, p, l => if toK 0 n T p = 0 then .ok (i, D, l) else if 128 ≤ toK 0 n T p ∧ toK 0 n T p < 131 then .error (3, toF n T p) else .error (1, toF n T p)
  | m + 1, i, D, p, l => if toK 0 n T p = 0 then .ok (i, D, l) else (pLw n T p l).bind fun x => pLL n T m (i + 1) (uf D i x.1) x.2.1 x.2.2
def lwB (l : Cd) (x : Int × Int × Int × Int) : Prop := 0 ≤ x.1 ∧ x.1 ≤ 2 ∧ 0 ≤ x.2.1 ∧ x.2.1 ≤ x.2.2.1 ∧ x.2.2.1 ≤ x.2.2.2 ∧ x.2.2.2 ≤ l.length ∧ (∃ t, tyS (sg l x.2.1 x.2.2.1) [] [t]) ∧ (x.2.2.1 < x.2.2.2 → ∃ t, tyS (sg l x.2.2.1 x.2.2.2) [] [t])
def lw4 (μ : Mm) (i : Int) (x : Int × Int × Int × Int) : Prop := μ 7 i = x.1 ∧ μ 8 i = x.2.1 ∧ μ 9 i = x.2.2.1 ∧ μ 10 i = x.2.2.2
def S5 (i0 : Int) : Nat → Int → Prop := fun o i => S6 o i ∨ (7 ≤ o ∧ o ≤ 10 ∧ i = i0)
def S4 : Nat → Int → Prop := fun o i => Rd o i ∨ (6 ≤ o ∧ o ≤ 12)
section S68
variable {E : En} {d : Nat} {Φ : Option AV → Mm → Prop} {μ μ' : Mm} {n p q : Int} {T : Int → Int} {l : Cd} {O : Except Flt (Int × Cd)}
theorem sg_ap {l e : Cd} {a b : Int} (h0 : 0 ≤ a) (h1 : a ≤ b) (h2 : b ≤ l.length) : sg (l ++ e) a b = sg l a b := by
  unfold sg
  rw [List.drop_append_of_le_length (by omega), List.take_append_of_le_length (by rw [List.length_drop]; omega)]
theorem sg_m (a b c : Cd) : sg (a ++ b ++ c) a.length (a ++ b).length = b := by
  unfold sg
  rw [Int.toNat_natCast, List.append_assoc, List.drop_left]
  rw [show ((((a ++ b).length : Nat) : Int) - (a.length : Int)).toNat = b.length by rw [List.length_append]; omega, List.take_left]
theorem sg_e (a b : Cd) : sg (a ++ b) a.length (a ++ b).length = b := by
  have := sg_m a b []
  rwa [List.append_nil] at this
theorem lwB.ap {x : Int × Int × Int × Int} (h : lwB l x) (e : Cd) : lwB (l ++ e) x := by
  obtain ⟨h1, h2, h3, h4, h5, h6, h7, h8⟩ := h
  refine ⟨h1, h2, h3, h4, h5, ?_, ?_, fun g => ?_⟩
  · rw [List.length_append]; omega
  · rw [sg_ap h3 h4 (by omega)]; exact h7
  · rw [sg_ap (by omega) h5 h6]; exact h8 g
theorem pWh_o {x y : Int × Cd} (p0 : 0 ≤ x.1) (p1 : x.1 ≤ n) (hl : (x.2.length : Int) ≤ x.1) (h : pWh n T x = .ok y) : x.1 ≤ y.1 ∧ y.1 ≤ n ∧ (y.2.length : Int) ≤ y.1 ∧ ∃ e, y.2 = x.2 ++ e ∧ (e = [] ∨ tyS e [] [2]) := by
  unfold pWh at h
  split at h
  · rename_i g
    have e := toE_1 (T := T) (k := 0) p1 (by omega)
    obtain ⟨a1, a2, a3, u, a4, a5⟩ := pCd_ok (l0 := x.2) 401 (toE n T x.1) [] x.2 true y (by omega) e.2 ⟨trivial, by decide, fun q => absurd q (by decide), by show _ + ((0 : Nat) : Int) ≤ _; omega⟩ ⟨[], (List.append_nil _).symm, rfl⟩ h
    exact ⟨by omega, a2, a3, u, a4, Or.inr a5⟩
  · cases h
    exact ⟨Int.le_refl _, p1, hl, [], (List.append_nil _).symm, Or.inl rfl⟩
theorem pLw_o {z : (Int × Int × Int × Int) × Int × Cd} (p0 : 0 ≤ p) (p1 : p ≤ n) (hl : (l.length : Int) ≤ p) (h : pLw n T p l = .ok z) : p ≤ z.2.1 ∧ z.2.1 ≤ n ∧ (z.2.2.length : Int) ≤ z.2.1 ∧ lwB z.2.2 z.1 ∧ ∃ e, z.2.2 = l ++ e := by
  unfold pLw at h
  split at h
  · rename_i g
    have e := toE_1 (T := T) (k := 0) p1 (by omega)
    cases h1 : pSm n T (toE n T p) l with
    | error f => rw [h1] at h; cases h
    | ok x =>
      rw [h1] at h
      replace h : ((pWh n T x).bind fun y => if toK 0 n T y.1 = 59 then .ok ((toK 0 n T p - 128, (l.length : Int), (x.2.length : Int), (y.2.length : Int)), toE n T y.1, y.2) else .error (1, toF n T y.1)) = Except.ok z := h
      obtain ⟨a0, a1, a2, u, a3, a4, a5⟩ := pSm_o (by omega) e.2 h1
      have hx : (x.2.length : Int) ≤ x.1 := by rw [a3, List.length_append]; omega
      cases h2 : pWh n T x with
      | error f => rw [h2] at h; cases h
      | ok y =>
        rw [h2] at h
        replace h : ((if toK 0 n T y.1 = 59 then .ok ((toK 0 n T p - 128, (l.length : Int), (x.2.length : Int), (y.2.length : Int)), toE n T y.1, y.2) else .error (1, toF n T y.1)) : Except Flt ((Int × Int × Int × Int) × Int × Cd)) = Except.ok z := h
        obtain ⟨b1, b2, b3, v, b4, b5⟩ := pWh_o (by omega) a2 hx h2
        split at h
        · rename_i g2
          have e2 := toE_1 (T := T) (k := 0) b2 (by omega)
          cases h
          refine ⟨by show p ≤ toE n T y.1; omega, e2.2, by show (y.2.length : Int) ≤ toE n T y.1; omega, ⟨by show 0 ≤ toK 0 n T p - 128; omega, by show toK 0 n T p - 128 ≤ 2; omega, by show (0 : Int) ≤ (l.length : Int); omega, ?_, ?_, Int.le_refl _, ?_, fun g3 => ?_⟩, u ++ v, by show y.2 = _; rw [b4, a3, List.append_assoc]⟩
          · show (l.length : Int) ≤ x.2.length
            rw [a3, List.length_append]; omega
          · show (x.2.length : Int) ≤ y.2.length
            rw [b4, List.length_append]; omega
          · show ∃ t, tyS (sg y.2 l.length x.2.length) [] [t]
            rw [b4, a3, sg_m]
            exact a5 [] (by decide)
          · show ∃ t, tyS (sg y.2 x.2.length y.2.length) [] [t]
            replace g3 : (x.2.length : Int) < y.2.length := g3
            rw [b4, sg_e]
            rcases b5 with b5 | b5
            · rw [b4, b5, List.append_nil] at g3
              omega
            · exact ⟨2, b5⟩
        · cases h
  · cases h
theorem S6r {o : Nat} {i : Int} (h : Rd o i) : S6 o i := Or.inl h
theorem S6_7 {o : Nat} {i : Int} (h : S7 o i) : S6 o i := by unfold S7 at h; unfold S6; rcases h with h | h | h; exact Or.inl h; exact Or.inr (by omega); exact Or.inr (by omega)
theorem S6_8 {o : Nat} {i : Int} (h : S8 o i) : S6 o i := by unfold S8 at h; unfold S6; rcases h with h | h | h; exact Or.inl h; exact Or.inr (by omega); exact Or.inr (by omega)
theorem S6_11 {o : Nat} {i : Int} (h : S11 o i) : S6 o i := by unfold S11 at h; unfold S6; rcases h with h | h | h; exact Or.inl h; exact Or.inr (by omega); exact Or.inr (by omega)
theorem S6_10 {o : Nat} {i : Int} (h : S10 o i) : S6 o i := by unfold S10 at h; unfold S6; exact Or.inr (by omega)
/-- a condition -/
theorem g6 (hd : 6 ≤ d) (hB : TB n T) (hy : ∀ x, O = .ok x → ∀ μ', Ep S6 μ μ' → CR 0 n T μ' x.1 → LC μ' x.2 → Φ (some (.inl 1)) μ') (hn : ∀ fl, O = .error fl → ∀ μ', Ef S6 μ μ' → CF fl μ' → Φ (some (.inl 0)) μ') : ∀ (m : Nat) (p : Int) (st : List Int) (l : Cd) (x2 : Int) (μ1 : Mm) (f : Nat), n - p < m → n - p < f → Ep S6 μ μ1 → CR 0 n T μ1 p → SD μ1 st → LC μ1 l → okS true st l p → 0 ≤ x2 → 2 * x2 ≤ p → O = pCd n T f p st l true → G E d 6 Φ 8 [some (.inr 6), some (.inr 1), some (.inl x2), none, none] [] μ1 := by
  intro m
  have kk : (0 : Nat) < 4 := by decide
  have n4 := hB.2.1
  have z01 : inR (0 : Int) ∧ inR (1 : Int) := ⟨inR_of (by decide) (by decide), inR_of (by decide) (by decide)⟩
  induction m with
  | zero =>
    intro p st l x2 μ1 f hm hf e1 hR
    obtain ⟨h1, j, t, g2, g3, h4, h5, h6, p0, p1⟩ := hR
    omega
  | succ m ih =>
    intro p st l x2 μ1 f hm hf e1 hR hS hL hK x0 xp hO
    have hR' := hR
    obtain ⟨-, -, -, -, -, -, -, -, p0, p1⟩ := hR'
    refine v6_8 (by omega) ⟨inR_of (by omega) (by omega), fun g => by omega, fun _ => ?_⟩
    refine v7 (by omega) (g7 (by omega) hB 402 p st 0 μ1 f (by omega) hf hR hS hK (Int.le_refl _) (opN_0 st) hO (fun q st' f' hq hf' pq hK' nk μ2 e2 c2 s2 => ⟨z01.2, fun g => absurd g (by decide), fun _ => ?_⟩) (fun fl hq μ2 e2 f2 => ⟨z01.1, fun _ => hn fl hq μ2 (e1.trg (e2.mono (fun o i => S6_7))) f2, fun g => absurd rfl g⟩))
    have l2 : LC μ2 l := hL.ep e2 (fun o i k => by unfold S7 Rd; omega)
    have e12 : Ep S6 μ μ2 := e1.trg (e2.mono (fun o i => S6_7))
    have c2' := c2
    obtain ⟨-, -, -, -, -, -, -, -, q0, q1⟩ := c2'
    have hK2 := hK'
    obtain ⟨k1, k2, k3, k4⟩ := hK2
    obtain ⟨f', rfl⟩ : ∃ f'', f' = f'' + 1 := ⟨f' - 1, by omega⟩
    have hO2 : O = (pCm n T q l).bind fun x => pCd n T f' x.1 (pTop 9 st' x.2).1 (pTop 9 st' x.2).2 false := by rw [hq, pCd_c nk]
    refine s11 (by omega) hB c2 l2 (by omega) (fun x hx μ3 e3 c3 l3 => ⟨z01.2, fun _ => ?_, fun g => absurd g (by decide)⟩) (fun fl hx μ3 e3 f3 => ⟨z01.1, fun g => absurd rfl g, fun _ => hn fl (by rw [hO2]; unfold pCm; rw [hx]; rfl) μ3 (e12.trg (e3.mono (fun o i => S6_11))) f3⟩)
    obtain ⟨a0, a1, a2, u, a3, a4, a5⟩ := pSm_o q0 q1 hx
    have e13 : Ep S6 μ μ3 := e12.trg (e3.mono (fun o i => S6_11))
    have s3 : SD μ3 st' := s2.ep e3 (fun o i k => by unfold S11 Rd; omega)
    have kr := toK_r (T := T) (k := 0) kk hB (p := x.1) (by omega) a2
    have ki : inR (toK 0 n T x.1) := inR_of (by omega) (by omega)
    have hx2 : (x.2.length : Int) + st'.length ≤ x.1 := by rw [a3, List.length_append]; omega
    have hO3 : O = (((if toK 0 n T x.1 = 60 ∨ toK 0 n T x.1 = 61 ∨ toK 0 n T x.1 = 62 then (pSm n T (toE n T x.1) x.2).bind fun y => .ok (y.1, y.2 ++ [(toK 0 n T x.1 - 54, 0)]) else .error (1, toF n T x.1)) : Except Flt (Int × Cd)).bind fun x => pCd n T f' x.1 (pTop 9 st' x.2).1 (pTop 9 st' x.2).2 false) := by
      rw [hO2]
      unfold pCm
      rw [hx]
      rfl
    -- the other side of the comparison, what closes, what joins
    have tl : toK 0 n T x.1 = 60 ∨ toK 0 n T x.1 = 61 ∨ toK 0 n T x.1 = 62 → Ct E (d - 1) 50 [.inr 1] μ3 (rV (fun μ33 => (Ct E (d - 1) 11 [.inr 6, .inr 1] μ33 (rI (fun z35 μ34 => inR z35 ∧ (z35 ≠ 0 → (Ct E (d - 1) 13 [.inr 6, .inl (toK 0 n T x.1)] μ34 (rV (fun μ36 => (Ct E (d - 1) 8 [.inr 6, .inr 1] μ36 (rV (fun μ37 => ((inR (μ37 1 7)) ∧ ((μ37 1 7) = 133 → (Ct E (d - 1) 10 [.inr 6, .inl (μ37 1 7)] μ37 (rV (fun μ38 => (Ct E (d - 1) 9 [.inr 6, .inl (μ37 1 7)] μ38 (rV (fun μ39 => (Ct E (d - 1) 50 [.inr 1] μ39 (rV (fun μ40 => G E d 6 Φ 8 [some (.inr 6), some (.inr 1), some (.inl (x2 + 1)), none, none] [] μ40)))))))))) ∧ ((μ37 1 7) ≠ 133 → (inR (μ37 1 7)) ∧ ((μ37 1 7) = 132 → (Ct E (d - 1) 10 [.inr 6, .inl (μ37 1 7)] μ37 (rV (fun μ41 => (Ct E (d - 1) 9 [.inr 6, .inl (μ37 1 7)] μ41 (rV (fun μ42 => (Ct E (d - 1) 50 [.inr 1] μ42 (rV (fun μ43 => G E d 6 Φ 8 [some (.inr 6), some (.inr 1), some (.inl (x2 + 1)), none, none] [] μ43)))))))))) ∧ ((μ37 1 7) ≠ 132 → (Ct E (d - 1) 10 [.inr 6, .inl 132] μ37 (rV (fun μ44 => ((inR (μ44 6 8)) ∧ ((μ44 6 8) = 0 → (Φ (some (.inl 1)) μ44)) ∧ ((μ44 6 8) ≠ 0 → (Ct E (d - 1) 51 [.inr 1, .inl 1] μ44 (rI (fun z46 μ45 => inR z46 ∧ (z46 = 0 → (Φ (some (.inl 0)) μ45)) ∧ (z46 ≠ 0 → (Φ (some (.inl 1)) μ45)))))))))))))))))))) ∧ (z35 = 0 → (Φ (some (.inl 0)) μ34))))))) := by
      intro hk
      rw [if_pos hk] at hO3
      have te := toE_1 (T := T) (k := 0) a2 (by omega)
      refine t_50 (by omega) hB.1 c3 (fun μ4 e4 c4 => ?_)
      have e14 : Ep S6 μ μ4 := e13.trg (e4.mono (fun o i k => S6r (Rd67 k)))
      refine s11 (by omega) hB c4 (l3.ep e4 (fun o i k => by omega)) (by omega) (fun y hyy μ5 e5 c5 l5 => ⟨z01.2, fun _ => ?_, fun g => absurd g (by decide)⟩) (fun fl hyy μ5 e5 f5 => ⟨z01.1, fun g => absurd rfl g, fun _ => hn fl (by rw [hO3, hyy]; rfl) μ5 (e14.trg (e5.mono (fun o i => S6_11))) f5⟩)
      obtain ⟨b0, b1, b2, w, b3, b4, b5⟩ := pSm_o (by omega) te.2 hyy
      have e15 : Ep S6 μ μ5 := e14.trg (e5.mono (fun o i => S6_11))
      have hy2 : (y.2.length : Int) + st'.length + 1 ≤ y.1 := by rw [b3, List.length_append]; omega
      have hO4 : O = pCd n T f' y.1 (pTop 9 st' (y.2 ++ [(toK 0 n T x.1 - 54, 0)])).1 (pTop 9 st' (y.2 ++ [(toK 0 n T x.1 - 54, 0)])).2 false := by rw [hO3, hyy]; rfl
      refine t_13 (c := (toK 0 n T x.1 - 54, 0)) (by omega) ?_ l5 (by omega) (fun μ6 e6 l6 => ?_)
      · rcases hk with k | k | k <;> rw [k] <;> rfl
      have e16 : Ep S6 μ μ6 := e15.trg (e6.mono (fun o i k => by unfold S6; omega))
      have s6 : SD μ6 st' := ((s3.ep e4 (fun o i k => by omega)).ep e5 (fun o i k => by unfold S11 Rd; omega)).ep e6 (fun o i k => by omega)
      have c6 := c5.ep e6 (fun o i k => by omega)
      have len6 : (((y.2 ++ [(toK 0 n T x.1 - 54, (0 : Int))]).length : Nat) : Int) + st'.length ≤ y.1 := by
        rw [List.length_append]
        show ((y.2.length + 1 : Nat) : Int) + _ ≤ _
        omega
      refine v8 (by omega) (g8 (by omega) hB 402 y.1 st' _ 0 μ6 f' (by omega) (by omega) c6 s6 l6 k1 k2 len6 (Int.le_refl _) (by omega) hO4 (fun r cs lc f3 hr hf3 pr j1 j2 j3 j4 μ7 e7 c7 s7 l7 => ?_))
      have e17 : Ep S6 μ μ7 := e16.trg (e7.mono (fun o i => S6_8))
      have c7' := c7
      obtain ⟨-, -, -, -, -, -, h7, -, r0, r1⟩ := c7'
      have krr := toK_r (T := T) (k := 0) kk hB r0 r1
      have kri : inR (toK 0 n T r) := inR_of (by omega) (by omega)
      obtain ⟨f3, rfl⟩ : ∃ f'', f3 = f'' + 1 := ⟨f3 - 1, by omega⟩
      have a9 := pTop_a (x := 9) cs lc j1
      have h9 := pTop_h (x := 9) (by decide) cs lc
      have o9 := pTop_op (x := 9) cs lc
      have l9 := pTop_l (x := 9) cs lc
      have b9 := pTop_br (x := 9) (by decide) cs lc
      have ok9 : okS false (pTop 9 cs lc).1 (pTop 9 cs lc).2 r := ⟨a9, by omega, fun _ => h9, by omega⟩
      simp only [rV]
      rw [h7]
      refine ⟨kri, fun k => ?_, fun k33 => ⟨kri, fun k => ?_, fun k32 => ?_⟩⟩
      · have te2 := toE_1 (T := T) (k := 0) r1 (by omega)
        have hO5 := pCd_a (f := f3) (st := (pTop 9 cs lc).1) (l := (pTop 9 cs lc).2) k
        have okn := okS_a ok9 k r1
        rw [← pGe_10 cs lc j1] at hO5 okn
        rw [k]
        refine c_10 (b := 10) (by omega) (Or.inl ⟨rfl, rfl⟩) j1 j2 (by omega) s7 l7 (fun μ8 e8 s8 l8 => ?_)
        have ok2 := okn.1
        have s26 := st_26 (okn.1.2.2.2) (by have := okn.2.1; have e : opN (10 :: (pGe 10 cs lc).1) = 0 + opN (pGe 10 cs lc).1 := rfl; omega)
        refine t_9 (x := 10) (cs := (pGe 10 cs lc).1) (by omega) rfl s8.1 s8.2.1 (by omega) (fun μ9 e9 s89 s129 => t_50 (by omega) hB.1 ((c7.ep e8 (fun o i k => by unfold S10; omega)).ep e9 (fun o i k => by omega)) (fun μ10 e10 c10 => ?_))
        refine ih (toE n T r) (10 :: (pGe 10 cs lc).1) (pGe 10 cs lc).2 (x2 + 1) μ10 f3 (by omega) (by omega) (((e17.trg (e8.mono (fun o i => S6_10))).trg (e9.mono (fun o i k => by unfold S6; omega))).trg (e10.mono (fun o i k => S6r (Rd67 k)))) c10 ⟨by rw [e10 _ _ (by omega)]; exact s89, stk_c _ (fun j _ _ => e10 _ _ (by omega)) s129, ?_⟩ ((l8.ep e9 (fun o i k => by omega)).ep e10 (fun o i k => by omega)) okn (by omega) (by omega) (by rw [hr]; exact hO5)
        rw [e10 _ _ (by omega), e9 _ _ (by omega), s8.2.2]
        show _ = 0 + opN _
        omega
      · have te2 := toE_1 (T := T) (k := 0) r1 (by omega)
        have hO5 := pCd_r (f := f3) (st := (pTop 9 cs lc).1) (l := (pTop 9 cs lc).2) k
        have okn := okS_r ok9 k r1
        rw [← pGe_t j1] at hO5 okn
        rw [k]
        refine c_10 (b := 11) (by omega) (Or.inr ⟨rfl, rfl⟩) j1 j2 (by omega) s7 l7 (fun μ8 e8 s8 l8 => ?_)
        have s26 := st_26 (okn.1.2.2.2) (by have := okn.2.1; have e : opN (11 :: (pGe 11 cs lc).1) = 0 + opN (pGe 11 cs lc).1 := rfl; omega)
        refine t_9 (x := 11) (cs := (pGe 11 cs lc).1) (by omega) rfl s8.1 s8.2.1 (by omega) (fun μ9 e9 s89 s129 => t_50 (by omega) hB.1 ((c7.ep e8 (fun o i k => by unfold S10; omega)).ep e9 (fun o i k => by omega)) (fun μ10 e10 c10 => ?_))
        refine ih (toE n T r) (11 :: (pGe 11 cs lc).1) (pGe 11 cs lc).2 (x2 + 1) μ10 f3 (by omega) (by omega) (((e17.trg (e8.mono (fun o i => S6_10))).trg (e9.mono (fun o i k => by unfold S6; omega))).trg (e10.mono (fun o i k => S6r (Rd67 k)))) c10 ⟨by rw [e10 _ _ (by omega)]; exact s89, stk_c _ (fun j _ _ => e10 _ _ (by omega)) s129, ?_⟩ ((l8.ep e9 (fun o i k => by omega)).ep e10 (fun o i k => by omega)) okn (by omega) (by omega) (by rw [hr]; exact hO5)
        rw [e10 _ _ (by omega), e9 _ _ (by omega), s8.2.2]
        show _ = 0 + opN _
        omega
      · obtain ⟨a1', a2', a3', a4', a5'⟩ := tA (l := (pTop 9 cs lc).2) a9 h9
        have hO6 : brN cs = 0 → O = .ok (r, (pGe 11 cs lc).2) := fun hb => by rw [hr, pCd_e k33 k32 (by rw [a4', b9]; exact hb), ← pGe_t j1]
        have hO7 : brN cs ≠ 0 → toK 0 n T r ≠ 41 → O = .error (1, toF n T r) := fun hb k41 => by rw [hr, pCd_1 k33 k32 k41 (by rw [a4', b9]; exact hb)]
        rw [← pGe_t j1] at a2' a4'
        refine c_10 (b := 11) (by omega) (Or.inr ⟨rfl, rfl⟩) j1 j2 (by omega) s7 l7 (fun μ8 e8 s8 l8 => ?_)
        have e18 := e17.trg (e8.mono (fun o i => S6_10))
        have c8 := c7.ep e8 (fun o i k => by unfold S10; omega)
        have sz := s8.1
        have s26 := st_26 (by have := a1'; rw [← pGe_t j1] at this; exact this) (by have := a3'; rw [← pGe_t j1] at this; omega)
        refine ⟨by rw [sz]; exact inR_of (by omega) (by omega), fun g => ?_, fun g => ?_⟩
        · have hnil : (pGe 11 cs lc).1 = [] := List.eq_nil_of_length_eq_zero (by omega)
          exact hy _ (hO6 (by rw [← b9, ← a4', hnil]; rfl)) μ8 e18 c8 l8
        · have hb : brN cs ≠ 0 := fun e => g (by rw [sz, brq_e a2' (by rw [a4', b9]; exact e)]; rfl)
          have k41 : toK 0 n T r ≠ 41 := by
            rcases j4 with j4 | j4
            · exact j4
            · exact absurd j4 hb
          exact t_51 (by omega) c8 (fun μ9 e9 b1 b2 => ⟨z01.1, fun _ => hn _ (hO7 hb k41) μ9 (e18.trg (e9.mono (fun o i => S6r))) ⟨b1, b2⟩, fun g => absurd rfl g⟩)
    have h7 := c3.K
    rw [h7]
    refine ⟨ki, fun k => tl (Or.inl k), fun k60 => ⟨ki, fun k => tl (Or.inr (Or.inl k)), fun k61 => ⟨ki, fun k => tl (Or.inr (Or.inr k)), fun k62 => ?_⟩⟩⟩
    rw [if_neg (by omega)] at hO3
    exact t_51 (by omega) c3 (fun μ4 e4 b1 b2 => ⟨Or.inl rfl, hn _ (by rw [hO3]; rfl) μ4 (e13.trg (e4.mono (fun o i => S6r))) ⟨b1, b2⟩⟩)
theorem s6 (hd : 6 ≤ d) (hB : TB n T) (hR : CR 0 n T μ p) (hL : LC μ l) (hl : (l.length : Int) ≤ p) (hy : ∀ x, pCd n T 401 p [] l true = .ok x → ∀ μ', Ep S6 μ μ' → CR 0 n T μ' x.1 → LC μ' x.2 → Φ (some (.inl 1)) μ') (hn : ∀ fl, pCd n T 401 p [] l true = .error fl → ∀ μ', Ef S6 μ μ' → CF fl μ' → Φ (some (.inl 0)) μ') : Ct E d 6 [.inr 6, .inr 1] μ Φ := by
  have e0 : Ep (fun o i => o = 6 ∧ (i = 8 ∨ i = 9)) μ (mu (mu μ 6 8 0) 6 9 0) := (Ep.rf.mu (by omega)).mu (by omega)
  have n4 := hB.2.1
  have hR' := hR
  obtain ⟨-, -, -, -, -, -, -, -, p0, p1⟩ := hR'
  exact v6 (by omega) (g6 hd hB hy hn 402 p [] l 0 _ 401 (by omega) (by omega) (e0.mono (fun o i k => by unfold S6; omega)) (hR.ep e0 (fun o i k => by omega)) ⟨by rw [mu_i (by decide), mu_s]; rfl, trivial, mu_s _ _ _ _⟩ (hL.ep e0 (fun o i k => by omega)) ⟨trivial, by decide, fun q => absurd q (by decide), by show _ + ((0 : Nat) : Int) ≤ _; omega⟩ (Int.le_refl _) (by omega) rfl)
end S68
