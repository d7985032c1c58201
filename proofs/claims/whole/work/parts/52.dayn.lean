/-! a day in the reference: the evening, changes, the whole -/
section S36
variable {E : En} {d : Nat} {f : Int → Mm → Prop} {Φ : Option AV → Mm → Prop} {μ μ' : Mm} {th S : Int} {x : Dy} {K : Kt} {s t : Int → Int}
theorem b222 {i : Nat} (hd : 3 ≤ d) (hK : KM μ K) (ok : KOK K) (hD : DM μ th x S) (hb : DB x) (i1 : (i : Int) < jc K) {b : Int} (b0 : 0 ≤ b) (b1 : b ≤ 1000) (h : ∀ μ', Ep Sm μ μ' → DM μ' th (bkW (jX K) i b x.1 (jL K i).toNat, x.2) S → Φ none μ') : Ct E d 222 [.inr 123, .inl (i : Int), .inl b] μ Φ := by
  have c16 := ok.2.1.2.1
  have key : ∀ (m j : Nat) (μ1 : Mm), j + m = (jL K i).toNat → Ep Sm μ μ1 → DM μ1 th (bkW (jX K) i b x.1 j, x.2) S → G E d 222 Φ 2 [some (.inr 123), some (.inl (i : Int)), some (.inl b), some (.inl (j : Int)), none, none] [] μ1 := by
    intro m
    induction m with
    | zero =>
      intro j μ1 hj hE hD1
      have wl := (hK.dy hE).2.1.2.2.2.1 i (by omega) i1
      rw [Int.zero_add] at wl
      refine v222_2 (by omega) ?_
      rw [wl.1]
      refine ⟨⟨by omega, by omega⟩, inR_of (by omega) (by omega), inR_of (by omega) (by omega), fun _ => ?_, fun k => by omega⟩
      rw [show j = (jL K i).toNat by omega] at hD1
      exact h μ1 hE hD1
    | succ m ih =>
      intro j μ1 hj hE hD1
      have hK1 := hK.dy hE
      have wl := hK1.2.1.2.2.2.1 i (by omega) i1
      have wx := hK1.2.1.2.2.2.2 i j (by omega) i1 (by omega) (by omega)
      rw [Int.zero_add] at wl wx
      have hb1 := bkW_b (b := b) b0 hb.1 j (fun k k0 k1 => ok.2.1.2.2.2 i k (by omega) i1 k0 (by omega))
      have bz := hb1.2.2.2.2 (jX K i j) wx.2.1 (by omega)
      have nx := fun μ2 h1 h2 => ih (j + 1) μ2 (by omega) h1 h2
      have hq : bkW (jX K) i b x.1 (j + 1) = bk1 (jX K i j) b (bkW (jX K) i b x.1 j) := rfl
      rw [hq] at nx
      generalize bkW (jX K) i b x.1 j = q at *
      have e8 : μ1 124 (8 + jX K i j) = q (8 + jX K i j) := hD1.2.1.at (by omega) (by omega)
      have e18 : μ1 124 (18 + jX K i j) = q (18 + jX K i j) := hD1.2.1.at (by omega) (by omega)
      refine v222_2 (by omega) ?_
      rw [wl.1]
      refine ⟨⟨by omega, by omega⟩, inR_of (by omega) (by omega), inR_of (by omega) (by omega), fun k => by omega, fun _ => v210 (by omega) ⟨by omega, ?_⟩⟩
      rw [wx.1]
      refine ⟨by omega, ?_⟩
      rw [e8]
      refine s156 (by omega) (inR_of (by omega) (by omega)) (inR_of (by omega) (by omega)) ⟨by omega, by omega, by omega, by omega, ?_⟩
      rw [e8, mu_i (by omega), e18]
      exact nx _ ((hE.mu Sm124).mu Sm124) (hD1.fl.fl)
  exact v222 (by omega) (key (jL K i).toNat 0 μ (by omega) Ep.rf hD)
theorem b227 {i : Nat} (hd : 2 ≤ d) (hK : KM μ K) (ok : KOK K) (hS : StM μ 124 0 s) (hb : StB s) (i1 : (i : Int) < cc K) (h : ∀ μ', Eo 124 μ μ' → StM μ' 124 0 (cg1 (cC K 1 i) (cC K 2 i) (cC K 3 i) s) → Φ none μ') : Ct E d 227 [.inr 123, .inl (4 * (i : Int))] μ Φ := by
  obtain ⟨-, -, -, -, g0, g1, g2⟩ := ok
  have g := g2 i (by omega) i1
  have q := hK.2.2.2.2.2 i (by omega) i1
  have bz := hb.2.2.2.2 (cC K 2 i) g.2.2.1.1 (by omega)
  have e1 : μ 124 (8 + cC K 2 i) = s (8 + cC K 2 i) := hS.at (by omega) (by omega)
  have q0 := g.1
  have q1 := g.2.1
  have q2 := g.2.2.1
  have q3 := g.2.2.2.1
  refine v227 (by omega) ?_
  simp only [q.2.1, q.2.2.1, q.2.2.2, e1]
  have hi : inR (cC K 1 i) := inR_of (by omega) (by omega)
  refine ⟨⟨by omega, by omega⟩, ⟨by omega, by omega⟩, ⟨by omega, by omega⟩, hi, fun k => ⟨hi, fun k2 => ⟨hi, fun k3 => ?_, fun k3 => ⟨hi, fun k4 => by omega, fun k4 => ?_⟩⟩, fun k2 => ⟨by omega, s155 (by omega) (inR_of (by omega) (by omega)) (inR_of (by omega) (by omega)) ⟨by omega, hi, fun k3 => by omega, fun k3 => ⟨hi, fun k4 => ?_, fun k4 => by omega⟩⟩⟩⟩, fun k => ⟨by omega, s156 (by omega) (inR_of (by omega) (by omega)) (inR_of (by omega) (by omega)) ⟨by omega, hi, fun k2 => ⟨hi, fun k3 => by omega, fun k3 => ⟨hi, fun k4 => ?_, fun k4 => by omega⟩⟩, fun k2 => by omega⟩⟩⟩
  · refine h _ Eo.rf.mu ?_
    unfold cg1
    rw [if_neg (by omega), if_neg (by omega)]
    exact hS.mu
  · refine h _ Eo.rf.mu ?_
    unfold cg1
    rw [if_neg (by omega), if_neg (by omega)]
    exact hS.mu
  · refine h _ Eo.rf.mu ?_
    unfold cg1
    rw [if_neg (by omega), if_pos (by omega)]
    exact hS.mu
  · refine h _ Eo.rf.mu ?_
    unfold cg1
    rw [if_pos (by omega)]
    exact hS.mu
/-! how many are set, and how many are done -/
theorem pr5 (i : Int) (y : Dy) : (pr i y).1 5 = y.1 5 + 1 := ud_s (ud y.1 7 (iOr (y.1 7) (iShl 1 i))) 5 (y.1 5 + 1)
theorem sd5 (y : Dy) : (sd1 y).1 5 = y.1 5 := ud_n (q := y.1) (i := 4) (v := y.1 4 + 1) (j := 5) (by decide)
theorem st_b {K : Kt} {th : Int} {q : Dy × Int} (hq : q.2 = 0) : ∀ m : Nat, m ≤ 16 → ∃ k : Nat, (jsR K th q m).2 = k ∧ k < 2 ^ m ∧ (jsR K th q m).1.1 5 = q.1.1 5 + (bcN k : Nat)
  | 0, _ => ⟨0, hq, by decide, by show q.1.1 5 = q.1.1 5 + ((bcN 0 : Nat) : Int); rw [show bcN 0 = 0 by decide]; omega⟩
  | m + 1, hm => by
    obtain ⟨k, k1, k2, k3⟩ := st_b (K := K) (th := th) hq m (by omega)
    have up : k < 2 ^ (m + 1) := by rw [Nat.pow_succ]; omega
    have n5 : ∀ (w a b c : Int) (y : Dy), (nt w a b c y).1 5 = y.1 5 := fun w a b c y => by
      show ntS w y.1 5 = y.1 5
      unfold ntS
      split
      · rfl
      · exact ud_n (by decide)
    have h5 : ∀ (w a : Int) (y : Dy), (hp w a y).1 5 = y.1 5 := fun w a y => by
      show hpS w a y.1 5 = y.1 5
      unfold hpS
      split
      · exact ud_n (by decide)
      · rfl
    show ∃ k : Nat, (jst K th m (jsR K th q m)).2 = k ∧ k < 2 ^ (m + 1) ∧ (jst K th m (jsR K th q m)).1.1 5 = q.1.1 5 + (bcN k : Nat)
    generalize jsR K th q m = p at *
    unfold jst
    split
    · exact ⟨k, k1, up, k3⟩
    · split
      · exact ⟨k, k1, up, by rw [n5]; exact k3⟩
      · split
        · exact ⟨k, k1, up, by rw [h5]; exact k3⟩
        · have pm : 2 ^ m ≤ 2 ^ 15 := Nat.pow_le_pow_right (by omega) (by omega)
          have pp : 0 < 2 ^ m := Nat.two_pow_pos m
          have e1 : iShl 1 (m : Int) = ((2 ^ m : Nat) : Int) := by
            have := nShl (a := 1) (k := m) (by omega) (by omega)
            rwa [Nat.one_mul] at this
          have e2 : k ||| 2 ^ m = 2 ^ m + k := by
            have := Nat.two_pow_add_eq_or_of_lt (i := m) (b := k) k2 1
            rw [Nat.mul_one] at this
            rw [Nat.or_comm]; exact this.symm
          refine ⟨2 ^ m + k, ?_, by rw [Nat.pow_succ]; omega, ?_⟩
          · show iOr p.2 (iShl 1 (m : Int)) = _
            rw [k1, e1]
            have := nOr (a := k) (b := 2 ^ m) (by omega) (by omega)
            rw [this, e2]
          · have hc := cj_any (x := 2 ^ m + k) (by omega)
            unfold ck2 at hc
            have el : Nat.log2 (2 ^ m + k) = m := (Nat.log2_eq_iff (by omega)).mpr ⟨by omega, by rw [Nat.pow_succ]; omega⟩
            rw [el, show 2 ^ m + k - 2 ^ m = k by omega, Bool.or_eq_true] at hc
            have hc : bcN (2 ^ m + k) = bcN k + 1 := by
              rcases hc with g | g
              · exact absurd (Nat.eq_of_beq_eq_true g) (by omega)
              · exact Nat.eq_of_beq_eq_true g
            have e3 : (stj K th m (hp th (fJ K 0 m p.1) p.1)).1 5 = p.1.1 5 + 1 := by
              show (nt th 0 m (sjB K m (hp th (fJ K 0 m p.1) p.1)) (sjY K m (hp th (fJ K 0 m p.1) p.1))).1 5 = _
              rw [n5]
              refine (pr5 _ _).trans ?_
              show (hp th (fJ K 0 m p.1) p.1).1 5 + 1 = _
              rw [h5]
            rw [e3, k3, hc]
            omega
theorem dS_b (ok : KOK K) : 0 ≤ (dy1 K th s t).2 ∧ (dy1 K th s t).2 < 65536 := by
  have c0 := ok.2.1.1
  have c16 := ok.2.1.2.1
  obtain ⟨k, k1, k2, -⟩ := st_b (K := K) (th := th) (q := (dy0 K s t, 0)) rfl (jc K).toNat (by omega)
  have pm : 2 ^ (jc K).toNat ≤ 2 ^ 16 := Nat.pow_le_pow_right (by omega) (by omega)
  unfold dy1
  omega
theorem cs5 {s : Int → Int} (ok : KOK K) : ∀ m : Nat, (m : Int) ≤ cc K → csR K s m 5 = s 5
  | 0, _ => rfl
  | m + 1, hm => by
    obtain ⟨-, -, -, -, g0, g1, g2⟩ := id ok
    have g := g2 m (by omega) (by omega)
    have := cs5 (s := s) ok m (by omega)
    show cst K m (csR K s m) 5 = s 5
    unfold cst cg1
    split
    · split
      · rw [ud_n (by omega)]; exact this
      · split
        · rw [ud_n (by omega)]; exact this
        · rw [ud_n (by omega)]; exact this
    · exact this
/-- as many are done as are set -/
theorem dy_5 (ok : KOK K) : (dyZ K th s t).1 5 = s 5 + onZ (dy1 K th s t).2 := by
  have c0 := ok.2.1.1
  have c16 := ok.2.1.2.1
  have k0 := ok.2.2.2.2.1
  obtain ⟨k, k1, k2, k3⟩ := st_b (K := K) (th := th) (q := (dy0 K s t, 0)) rfl (jc K).toNat (by omega)
  have e0 : (dy0 K s t).1 5 = s 5 := cs5 ok _ (by omega)
  have n5 : ∀ (w a b c : Int) (y : Dy), (nt w a b c y).1 5 = y.1 5 := fun w a b c y => by
    show ntS w y.1 5 = y.1 5
    unfold ntS
    split
    · rfl
    · exact ud_n (by decide)
  have h5 : ∀ (w a : Int) (y : Dy), (hp w a y).1 5 = y.1 5 := fun w a y => by
    show hpS w a y.1 5 = y.1 5
    unfold hpS
    split
    · exact ud_n (by decide)
    · rfl
  have d5 : ∀ (q : Dy × Int) (m : Nat), (dsR K th q m).1.1 5 = q.1.1 5 := by
    intro q m
    induction m with
    | zero => rfl
    | succ m ih =>
      show (dst K th m (dsR K th q m)).1.1 5 = _
      unfold dst
      split
      · exact ih
      · split
        · rw [h5]; exact ih
        · rw [n5]
          refine (sd5 _).trans ?_
          refine (h5 th (fB K m (dsR K th q m).1) (dsR K th q m).1).trans ?_
          exact ih
  have f5 : ∀ q : Dy × Int, (dfn K th q).1 5 = q.1.1 5 := by
    intro q
    unfold dfn
    split
    · rfl
    · rw [n5]; exact ud_n (q := q.1.1) (i := 6) (v := q.1.1 6 + 1) (j := 5) (by decide)
  have b5 : ∀ (S : Int) (y : Dy) (m : Nat), (m : Int) ≤ jc K → (bsR K S y m).1 5 = y.1 5 := by
    intro S y m
    induction m with
    | zero => intro _; rfl
    | succ m ih =>
      intro hm
      have w5 : ∀ (b : Int) (g : Int → Int) (n : Nat), (n : Int) ≤ jL K m → bkW (jX K) m b g n 5 = g 5 := by
        intro b g n
        induction n with
        | zero => intro _; rfl
        | succ n ih2 =>
          intro hn
          have wx := ok.2.1.2.2.2 m n (by omega) (by omega) (by omega) (by omega)
          show ud (ud _ _ _) _ _ 5 = g 5
          rw [ud_n (by omega), ud_n (by omega)]
          exact ih2 (by omega)
      have wl := ok.2.1.2.2.1 m (by omega) (by omega)
      show (bst K S m (bsR K S y m)).1 5 = _
      unfold bst
      split
      · show bkW _ _ _ _ _ 5 = _
        rw [w5 _ _ _ (by omega)]
        exact ih (by omega)
      · exact ih (by omega)
  refine (ud_n (q := (dy3 K th s t).1) (i := 0) (v := (dy3 K th s t).1 0 + 1) (j := 5) (by decide)).trans ?_
  show (bsR K (dy1 K th s t).2 (dy2 K th s t) (jc K).toNat).1 5 = _
  rw [b5 _ _ _ (by omega)]
  show (dfn K th (dsR K th ((dy1 K th s t).1, 0) (bc K).toNat)).1 5 = _
  rw [f5, d5]
  show (jsR K th (dy0 K s t, 0) (jc K).toNat).1.1 5 = s 5 + onZ (jsR K th (dy0 K s t, 0) (jc K).toNat).2
  rw [k3, k1]
  show (dy0 K s t).1 5 + _ = _
  rw [e0]
  unfold onZ
  rw [Int.toNat_natCast]
/-- a day -/
theorem b230 (hd : 8 ≤ d) (hth : th = 0 ∨ th = 1) (hK : KM μ K) (ok : KOK K) (h5 : μ 123 5 = th) (hS : StM μ 124 0 s) (hb : StB s) (ht : ∀ i, 0 ≤ i → i < 600 → μ 127 i = t i) (h : ∀ μ', Ep Sm μ μ' → StM μ' 124 0 (dyZ K th s t).1 → (∀ i, 0 ≤ i → i < 600 → μ' 127 i = (dyZ K th s t).2 i) → Φ (some (.inl (onZ (dy1 K th s t).2))) μ') : Ct E d 230 [.inr 123] μ Φ := by
  have c0 := ok.2.1.1
  have c16 := ok.2.1.2.1
  have k0 := ok.2.2.2.2.1
  have k16 := ok.2.2.2.2.2.1
  have kg := ok.2.2.2.2.2.2
  have sb := dS_b (K := K) (th := th) (s := s) (t := t) ok
  have eve : ∀ (m i : Nat) (μ1 : Mm), (i : Int) + m = jc K → Ep Sm μ μ1 → DM μ1 th (bsR K (dy1 K th s t).2 (dy2 K th s t) i) (dy1 K th s t).2 → G E d 230 Φ 34 [some (.inr 123), some (.inl (dy1 K th s t).2), some (.inl (i : Int))] [] μ1 := by
    intro m
    induction m with
    | zero =>
      intro i μ1 hi hE hD1
      have e1 : μ1 123 31 = jc K := (hK.dy hE).2.1.1
      have e7 : μ1 124 0 = (bsR K (dy1 K th s t).2 (dy2 K th s t) i).1 0 := hD1.2.1.at (by omega) (by omega)
      refine v230_34 (by omega) ?_
      rw [e1, e7]
      refine ⟨inR_of (by omega) (by omega), inR_of (by omega) (by omega), fun _ => s157 (by omega) sb.1 sb.2 ?_, fun k => by omega⟩
      have ei : i = (jc K).toNat := by omega
      subst ei
      refine h _ (hE.mu Sm124) hD1.2.1.mu (fun j j0 j1 => ?_)
      rw [mu_o (by decide)]; exact hD1.2.2.2.1 j j0 j1
    | succ m ih =>
      intro i μ1 hi hE hD1
      have hK1 := hK.dy hE
      have e1 : μ1 123 31 = jc K := hK1.2.1.1
      have hb1 : DB (bsR K (dy1 K th s t).2 (dy2 K th s t) i) := bsR_b ok (dy2_b ok hb) i (by omega)
      have hq : bsR K (dy1 K th s t).2 (dy2 K th s t) (i + 1) = bst K (dy1 K th s t).2 i (bsR K (dy1 K th s t).2 (dy2 K th s t) i) := rfl
      have nx := fun μ2 h1 h2 => ih (i + 1) μ2 (by omega) h1 h2
      rw [hq] at nx
      refine v230_34 (by omega) ?_
      rw [e1]
      have z := iz (x := (dy1 K th s t).2) (i := i) (by omega)
      refine ⟨inR_of (by omega) (by omega), inR_of (by omega) (by omega), fun k => by omega, fun _ => s158 (by omega) (by omega) ⟨i32_in _, fun k => ?_, fun k => ⟨⟨by omega, by omega⟩, ?_⟩⟩⟩
      · rw [show bst K (dy1 K th s t).2 i (bsR K (dy1 K th s t).2 (dy2 K th s t) i) = bsR K (dy1 K th s t).2 (dy2 K th s t) i by unfold bst; rw [if_neg (by omega)]] at nx
        exact nx μ1 hE hD1
      · have k1 : iAnd (iShr (dy1 K th s t).2 i) 1 = 1 := by omega
        have e6 : μ1 145 i = (bsR K (dy1 K th s t).2 (dy2 K th s t) i).2.2.2 i := hD1.2.2.2.2 i (by omega) k1
        have bi := hb1.2.2 i (by omega) (by omega)
        rw [e6]
        refine b222 (by omega) hK1 ok hD1 hb1 (by omega) bi.1 bi.2 (fun μ2 h2 hD2 => nx μ2 (hE.tr h2) ?_)
        unfold bst
        rw [if_pos k1]
        exact hD2
  have mor : ∀ (m i : Nat) (μ1 : Mm), (i : Int) + m = cc K → Ep Sm μ μ1 → StM μ1 124 0 (csR K s i) → (∀ j, 0 ≤ j → j < 600 → μ1 127 j = t j) → G E d 230 Φ 2 [some (.inr 123), some (.inl (4 * (i : Int))), none] [] μ1 := by
    intro m
    induction m with
    | zero =>
      intro i μ1 hi hE hS1 ht1
      have hK1 := hK.dy hE
      have e1 : μ1 123 36 = cc K := hK1.2.2.2.2.1
      have h51 : μ1 123 5 = th := by rw [hE _ _ (by unfold Sm; omega)]; exact h5
      refine v230_2 (by omega) ?_
      rw [e1]
      refine ⟨inR_of (by omega) (by omega), inR_of (by omega) (by omega), fun _ => v209 (by omega) ?_, fun k => by omega⟩
      have ei : i = (cc K).toNat := by omega
      subst ei
      have fill : ∀ (m x : Nat) (μ2 : Mm), x + m = 10 → Eo 144 μ1 μ2 → (∀ z : Int, 0 ≤ z → z < x → μ2 144 z = csR K s (cc K).toNat (8 + z)) → G E (d - 1) 209 (rV fun μ1 => Ct E (d - 1) 228 [.inr 123] μ1 (rI fun z3 μ2 => Ct E (d - 1) 229 [.inr 123] μ2 (rV fun μ4 => G E d 230 Φ 34 [some (.inr 123), some (.inl z3), some (.inl 0)] [] μ4))) 2 [some (.inr 123), some (.inl (x : Int))] [] μ2 := by
        intro m
        induction m with
        | zero =>
          intro x μ2 hx h2 hg
          refine v209_2 (by omega) ⟨inR_of (by omega) (by omega), fun _ => ?_, fun k => by omega⟩
          simp only [rV]
          have hE2 : Ep Sm μ μ2 := hE.tr (Ep.of h2 Sm144)
          have hD2 : DM μ2 th (dy0 K s t) 0 := ⟨by rw [h2 _ _ (by decide)]; exact h51, hS1.ep (T := fun a _ => a = 144) (Ep.of h2 (fun _ => rfl)) (fun i => by show ¬ (124 = 144); omega), fun z z0 z1 => hg z z0 (by omega), fun j j0 j1 => by rw [h2 _ _ (by decide)]; exact ht1 j j0 j1, fun j hj hs => by rw [bq_1 (by omega), bq_0] at hs; cases hs⟩
          refine b228 (by omega) hth (hK.dy hE2) ok hD2 (dy0_b ok hb) (fun μ3 h3 hD3 => ?_)
          have hE3 := hE2.tr h3
          refine b229 (by omega) hth (hK.dy hE3) ok hD3 (dy1_b ok hb) (fun μ4 h4 hD4 => ?_)
          exact eve (jc K).toNat 0 μ4 (by omega) (hE3.tr h4) hD4
        | succ m ih =>
          intro x μ2 hx h2 hg
          refine v209_2 (by omega) ⟨inR_of (by omega) (by omega), fun k => by omega, fun _ => ⟨⟨by omega, by omega⟩, ⟨by omega, by omega⟩, ih (x + 1) _ (by omega) h2.mu (fun z z0 z1 => ?_)⟩⟩
          by_cases e : z = x
          · rw [e, mu_s, h2 _ _ (by decide)]
            exact hS1.at (by omega) (by omega)
          · rw [mu_i e]; exact hg z z0 (by omega)
      exact fill 10 0 μ1 (by omega) Eo.rf (fun z z0 z1 => by omega)
    | succ m ih =>
      intro i μ1 hi hE hS1 ht1
      have hK1 := hK.dy hE
      have e1 : μ1 123 36 = cc K := hK1.2.2.2.2.1
      have q := hK1.2.2.2.2.2 i (by omega) (by omega)
      have g := kg i (by omega) (by omega)
      have hb1 : StB (csR K s i) := csR_b ok hb i (by omega)
      have b0 := hb1.1
      have nx := fun μ2 h1 h2 h3 => ih (i + 1) μ2 (by omega) h1 h2 h3
      have hq : csR K s (i + 1) = cst K i (csR K s i) := rfl
      rw [hq, show 4 * ((i + 1 : Nat) : Int) = 4 * (i : Int) + 4 by omega] at nx
      have e7 : μ1 124 0 = csR K s i 0 := hS1.at (by omega) (by omega)
      refine v230_2 (by omega) ?_
      rw [e1, q.1, e7]
      refine ⟨inR_of (by omega) (by omega), inR_of (by omega) (by omega), fun k => by omega, fun _ => ⟨⟨by omega, by omega⟩, inR_of (by omega) (by omega), inR_of (by omega) (by omega), fun k => ?_, fun k => ?_⟩⟩
      · rw [show cst K i (csR K s i) = csR K s i by unfold cst; rw [if_neg k]] at nx
        exact nx μ1 hE hS1 ht1
      · refine b227 (by omega) hK1 ok hS1 hb1 (by omega) (fun μ2 h2 hS2 => nx μ2 (hE.tr (Ep.of h2 (fun _ => Sm124))) ?_ (fun j j0 j1 => ?_))
        · unfold cst; rw [if_pos k]; exact hS2
        · rw [h2 _ _ (by decide)]; exact ht1 j j0 j1
  exact v230 (by omega) (mor (cc K).toNat 0 μ (by omega) Ep.rf hS ht)
end S36
