/-! what a day leaves as it is; days in a row -/
section S42
variable {th S : Int} {K : Kt} {s t : Int → Int}
theorem nt_j {j : Int} (hj : j ≠ 2) (w a b c : Int) (y : Dy) : (nt w a b c y).1 j = y.1 j := by
  show ntS w y.1 j = y.1 j
  unfold ntS
  split
  · rfl
  · exact ud_n hj
theorem hp_j {j : Int} (hj : j ≠ 1) (w a : Int) (y : Dy) : (hp w a y).1 j = y.1 j := by
  show hpS w a y.1 j = y.1 j
  unfold hpS
  split
  · exact ud_n hj
  · rfl
theorem pr_j {j : Int} (h7 : j ≠ 7) (h5 : j ≠ 5) (i : Int) (y : Dy) : (pr i y).1 j = y.1 j := by
  show ud (ud y.1 7 (iOr (y.1 7) (iShl 1 i))) 5 (y.1 5 + 1) j = y.1 j
  rw [ud_n h5, ud_n h7]
theorem pr_7 (i : Int) (y : Dy) : (pr i y).1 7 = iOr (y.1 7) (iShl 1 i) := by
  show ud (ud y.1 7 (iOr (y.1 7) (iShl 1 i))) 5 (y.1 5 + 1) 7 = _
  rw [ud_n (by decide), ud_s]
theorem stj_j {j : Int} (h2 : j ≠ 2) (h7 : j ≠ 7) (h5 : j ≠ 5) (i : Int) (y : Dy) : (stj K th i y).1 j = y.1 j := (nt_j h2 th 0 i (sjB K i y) (sjY K i y)).trans (pr_j h7 h5 i (tk (jX K) i (jL K i).toNat y))
theorem stj_7 (i : Int) (y : Dy) : (stj K th i y).1 7 = iOr (y.1 7) (iShl 1 i) := (nt_j (by decide) th 0 i (sjB K i y) (sjY K i y)).trans (pr_7 i (tk (jX K) i (jL K i).toNat y))
theorem jsR_0 (q : Dy × Int) : ∀ m : Nat, (jsR K th q m).1.1 0 = q.1.1 0
  | 0 => rfl
  | m + 1 => by
    have ih := jsR_0 q m
    show (jst K th m (jsR K th q m)).1.1 0 = _
    unfold jst
    split
    · exact ih
    · split
      · exact (nt_j (by decide) _ _ _ _ _).trans ih
      · split
        · exact (hp_j (by decide) _ _ _).trans ih
        · exact ((stj_j (by decide) (by decide) (by decide) _ _).trans (hp_j (by decide) _ _ _)).trans ih
theorem or_lt {a : Int} {i n : Nat} (hn : n ≤ 16) (hi : i < n) (h0 : 0 ≤ a) (h1 : a < ((2 ^ n : Nat) : Int)) : iOr a (iShl 1 (i : Int)) < ((2 ^ n : Nat) : Int) := by
  have p16 : 2 ^ n ≤ 2 ^ 16 := Nat.pow_le_pow_right (by omega) hn
  have pi : 2 ^ i ≤ 2 ^ 15 := Nat.pow_le_pow_right (by omega) (by omega)
  have pin : 2 ^ i < 2 ^ n := Nat.pow_lt_pow_right (by omega) hi
  obtain ⟨k, rfl⟩ := Int.eq_ofNat_of_zero_le h0
  have e1 : iShl 1 (i : Int) = ((2 ^ i : Nat) : Int) := by
    have := nShl (a := 1) (k := i) (by omega) (by omega)
    rwa [Nat.one_mul] at this
  have e : iOr (k : Int) ((2 ^ i : Nat) : Int) = ((k ||| 2 ^ i : Nat) : Int) := nOr (by omega) (by omega)
  rw [e1, e]
  have := Nat.or_lt_two_pow (n := n) (x := k) (y := 2 ^ i) (by omega) pin
  omega
theorem jsR_7 (q : Dy × Int) (hc : jc K ≤ 16) (hb : DB q.1) (h : q.1.1 7 < ((2 ^ (jc K).toNat : Nat) : Int)) : ∀ m : Nat, (m : Int) ≤ jc K → (jsR K th q m).1.1 7 < ((2 ^ (jc K).toNat : Nat) : Int)
  | 0, _ => h
  | m + 1, hm => by
    have ih := jsR_7 q hc hb h m (by omega)
    have hb1 : DB (jsR K th q m).1 := jsR_b hb m (by omega)
    show (jst K th m (jsR K th q m)).1.1 7 < _
    unfold jst
    split
    · exact ih
    · split
      · rw [nt_j (by decide)]; exact ih
      · split
        · rw [hp_j (by decide)]; exact ih
        · show (stj K th m _).1 7 < _
          rw [stj_7, hp_j (by decide)]
          exact or_lt (by omega) (by omega) hb1.1.2.2.2.1.1 ih
theorem dsR_j {j : Int} (h1 : j ≠ 1) (h2 : j ≠ 2) (h4 : j ≠ 4) (q : Dy × Int) : ∀ m : Nat, (dsR K th q m).1.1 j = q.1.1 j
  | 0 => rfl
  | m + 1 => by
    have ih := dsR_j h1 h2 h4 q m
    show (dst K th m (dsR K th q m)).1.1 j = _
    unfold dst
    split
    · exact ih
    · split
      · exact (hp_j h1 _ _ _).trans ih
      · refine (nt_j h2 _ _ _ _ _).trans ?_
        refine (ud_n (i := 4) (j := j) h4).trans ?_
        exact (hp_j h1 _ _ _).trans ih
theorem dfn_j {j : Int} (h2 : j ≠ 2) (h6 : j ≠ 6) (q : Dy × Int) : (dfn K th q).1 j = q.1.1 j := by
  unfold dfn
  split
  · rfl
  · exact (nt_j h2 _ _ _ _ _).trans (ud_n (i := 6) (j := j) h6)
theorem bsR_j {j : Int} (hj : j < 8) (ok : KOK K) (S : Int) (y : Dy) : ∀ m : Nat, (m : Int) ≤ jc K → (bsR K S y m).1 j = y.1 j
  | 0, _ => rfl
  | m + 1, hm => by
    have ih := bsR_j hj ok S y m (by omega)
    have w5 : ∀ (b : Int) (g : Int → Int) (n : Nat), (n : Int) ≤ jL K m → bkW (jX K) m b g n j = g j := by
      intro b g n
      induction n with
      | zero => intro _; rfl
      | succ n ih2 =>
        intro hn
        have wx := ok.2.1.2.2.2 m n (by omega) (by omega) (by omega) (by omega)
        show ud (ud _ _ _) _ _ j = g j
        rw [ud_n (by omega), ud_n (by omega)]
        exact ih2 (by omega)
    have wl := ok.2.1.2.2.1 m (by omega) (by omega)
    show (bst K S m (bsR K S y m)).1 j = _
    unfold bst
    split
    · show bkW _ _ _ _ _ j = _
      rw [w5 _ _ _ (by omega)]
      exact ih
    · exact ih
theorem csR_j {j : Int} (hj : j < 8) (h3 : j ≠ 3) (ok : KOK K) (s : Int → Int) : ∀ m : Nat, (m : Int) ≤ cc K → csR K s m j = s j
  | 0, _ => rfl
  | m + 1, hm => by
    obtain ⟨-, -, -, -, g0, g1, g2⟩ := id ok
    have g := g2 m (by omega) (by omega)
    have ih := csR_j hj h3 ok s m (by omega)
    show cst K m (csR K s m) j = s j
    unfold cst cg1
    split
    · split
      · rw [ud_n (by omega)]; exact ih
      · split
        · rw [ud_n (by omega)]; exact ih
        · rw [ud_n (by omega)]; exact ih
    · exact ih
theorem dy3_0 (ok : KOK K) : (dy3 K th s t).1 0 = s 0 := by
  have c0 := ok.2.1.1
  have k0 := ok.2.2.2.2.1
  refine (bsR_j (by decide) ok _ _ _ (by omega)).trans ?_
  refine (dfn_j (by decide) (by decide) _).trans ?_
  refine (dsR_j (by decide) (by decide) (by decide) _ _).trans ?_
  refine (jsR_0 _ _).trans ?_
  exact csR_j (by decide) (by decide) ok s _ (by omega)
theorem dy_0 (ok : KOK K) : (dyZ K th s t).1 0 = s 0 + 1 := by
  refine (ud_s (dy3 K th s t).1 0 ((dy3 K th s t).1 0 + 1)).trans ?_
  rw [dy3_0 ok]
theorem dyS (ok : KOK K) (hb : StB s) (h : s 0 ≤ 19999) : StB (dyZ K th s t).1 := by
  have c0 := ok.2.1.1
  have h3 : DB (dy3 K th s t) := bsR_b ok (dy2_b ok hb) _ (by omega)
  have b0 := hb.1
  have e := dy3_0 (th := th) (s := s) (t := t) ok
  exact stb_ud h3.1 (fun _ => by omega) (fun e => by omega) (fun e => by omega) (fun e => by omega) (fun e _ => by omega)
theorem dy_7 (ok : KOK K) (hb : StB s) (h : s 7 < ((2 ^ (jc K).toNat : Nat) : Int)) : (dyZ K th s t).1 7 < ((2 ^ (jc K).toNat : Nat) : Int) := by
  have c0 := ok.2.1.1
  have c16 := ok.2.1.2.1
  have k0 := ok.2.2.2.2.1
  have e : (dyZ K th s t).1 7 = (dy1 K th s t).1.1 7 := by
    refine (ud_n (q := (dy3 K th s t).1) (i := 0) (v := (dy3 K th s t).1 0 + 1) (j := 7) (by decide)).trans ?_
    refine (bsR_j (by decide) ok _ _ _ (by omega)).trans ?_
    refine (dfn_j (by decide) (by decide) _).trans ?_
    exact dsR_j (by decide) (by decide) (by decide) _ _
  rw [e]
  refine jsR_7 (dy0 K s t, 0) c16 (dy0_b ok hb) ?_ _ (by omega)
  show csR K s (cc K).toNat 7 < _
  rw [csR_j (by decide) (by decide) ok s _ (by omega)]
  exact h
/-- in thought the tray stays as it is -/
theorem dyT (ht : th ≠ 0) : (dyZ K th s t).2 = t := by
  have n : ∀ (a b c : Int) (y : Dy), (nt th a b c y).2.2.1 = y.2.2.1 := fun a b c y => by
    show ntT th a b c y.1 y.2.2.1 = _
    unfold ntT
    rw [if_pos (Or.inl ht)]
  have js : ∀ (q : Dy × Int) (m : Nat), (jsR K th q m).1.2.2.1 = q.1.2.2.1 := by
    intro q m
    induction m with
    | zero => rfl
    | succ m ih =>
      show (jst K th m (jsR K th q m)).1.2.2.1 = _
      unfold jst
      split
      · exact ih
      · split
        · exact (n _ _ _ _).trans ih
        · split
          · exact ih
          · exact (n _ _ _ _).trans ih
  have ds : ∀ (q : Dy × Int) (m : Nat), (dsR K th q m).1.2.2.1 = q.1.2.2.1 := by
    intro q m
    induction m with
    | zero => rfl
    | succ m ih =>
      show (dst K th m (dsR K th q m)).1.2.2.1 = _
      unfold dst
      split
      · exact ih
      · split
        · exact ih
        · exact (n _ _ _ _).trans ih
  have bs : ∀ (S : Int) (y : Dy) (m : Nat), (bsR K S y m).2.2.1 = y.2.2.1 := by
    intro S y m
    induction m with
    | zero => rfl
    | succ m ih =>
      show (bst K S m (bsR K S y m)).2.2.1 = _
      unfold bst
      split
      · exact ih
      · exact ih
  show (dy3 K th s t).2.2.1 = t
  refine (bs _ _ _).trans ?_
  have df : ∀ q : Dy × Int, (dfn K th q).2.2.1 = q.1.2.2.1 := fun q => by
    unfold dfn
    split
    · rfl
    · exact n _ _ _ _
  exact (df _).trans ((ds _ _).trans (js _ _))
/-- so many days in a row -/
noncomputable def dyN (K : Kt) (th : Int) (s t : Int → Int) : Nat → (Int → Int) × (Int → Int)
  | 0 => (s, t)
  | m + 1 => dyZ K th (dyN K th s t m).1 (dyN K th s t m).2
theorem dyN_b (ok : KOK K) (hb : StB s) : ∀ m : Nat, s 0 + m ≤ 20000 → StB (dyN K th s t m).1 ∧ (dyN K th s t m).1 0 = s 0 + m
  | 0, _ => ⟨hb, by show s 0 = s 0 + ((0 : Nat) : Int); omega⟩
  | m + 1, h => by
    have ih := dyN_b ok hb m (by omega)
    refine ⟨dyS ok ih.1 (by omega), ?_⟩
    show (dyZ K th (dyN K th s t m).1 (dyN K th s t m).2).1 0 = _
    rw [dy_0 ok, ih.2]
    omega
theorem dyN_7 (ok : KOK K) (hb : StB s) (h : s 7 < ((2 ^ (jc K).toNat : Nat) : Int)) : ∀ m : Nat, s 0 + m ≤ 20000 → (dyN K th s t m).1 7 < ((2 ^ (jc K).toNat : Nat) : Int)
  | 0, _ => h
  | m + 1, hm => dy_7 ok (dyN_b ok hb m (by omega)).1 (dyN_7 ok hb h m (by omega))
theorem dyN_T (ht : th ≠ 0) : ∀ m : Nat, (dyN K th s t m).2 = t
  | 0 => rfl
  | m + 1 => (dyT ht).trans (dyN_T ht m)
/-- what is kept of them -/
noncomputable def ptN (K : Kt) (s t : Int → Int) (p : Nat × (Nat → Int → Int)) : Nat → Nat × (Nat → Int → Int)
  | 0 => p
  | m + 1 => (kpU (ptN K s t p m).1, kpR (ptN K s t p m).1 (ptN K s t p m).2 (dyN K 0 s t m).1)
theorem ptN_u {p : Nat × (Nat → Int → Int)} (hp : p.1 ≤ 6) : ∀ m : Nat, (ptN K s t p m).1 ≤ 6
  | 0 => hp
  | m + 1 => by show kpU _ ≤ 6; unfold kpU; omega
end S42
