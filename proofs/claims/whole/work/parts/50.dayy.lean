/-! a day in the class: the evening, changes, the whole -/
def Sd (o : Nat) : Nat → Int → Prop := fun x _ => x = o ∨ x = o + 1 ∨ x = o + 2 ∨ x = 35 ∨ x = 58 ∨ x = 62 ∨ x = 63 ∨ x = 64 ∨ x = 23
section S34
variable {E : En} {d : Nat} {f : Int → Mm → Prop} {Φ : Option AV → Mm → Prop} {μ μ' : Mm} {o : Nat} {th S : Int} {x : Dy} {K : Kt} {s t : Int → Int}
theorem dy0_b (ok : KOK K) (hb : StB s) : DB (dy0 K s t) := by
  have k0 := ok.2.2.2.2.1
  exact ⟨csR_b ok hb _ (by omega), fun z z0 z1 => (csR_b ok hb _ (by omega)).2.2.2.2 z z0 z1, fun i _ _ => ⟨(by decide : (0 : Int) ≤ 0), (by decide : (0 : Int) ≤ 1000)⟩⟩
theorem dy1_b (ok : KOK K) (hb : StB s) : DB (dy1 K th s t).1 := by
  have c0 := ok.2.1.2.1
  exact jsR_b (q := (dy0 K s t, 0)) (dy0_b ok hb) _ (by omega)
theorem dy2_b (ok : KOK K) (hb : StB s) : DB (dy2 K th s t) := dfn_b (dsR_b (q := ((dy1 K th s t).1, 0)) (dy1_b ok hb) _)
theorem a99 {z b : Int} (hd : 2 ≤ d) (ho : ow o th) (hD : DW μ o th x S) (hb : StB x.1) (z0 : 0 ≤ z) (z1 : z < 10) (b0 : 0 ≤ b) (b1 : b ≤ 1000) (h : ∀ μ', Ep (Sw o) μ μ' → DW μ' o th (bk1 z b x.1, x.2) S → Φ none μ') : Ct E d 99 [.inr o, .inl z, .inl b] μ Φ := by
  have e1 : μ (o + 1) z = x.1 (8 + z) := hD.2.2.1.2.2.2.2.2.2.2.2.1 z z0 z1
  have e2 : μ (o + 2) z = x.1 (18 + z) := hD.2.2.1.2.2.2.2.2.2.2.2.2 z z0 z1
  have bz := hb.2.2.2.2 z z0 z1
  have ho1 := ho.1
  have hm := iMin_eq (x := b) (y := x.1 (8 + z)) (inR_of (by omega) (by omega)) (inR_of (by omega) (by omega))
  have hD2 : DW (mu (mu μ (o + 1) z (x.1 (8 + z) - min b (x.1 (8 + z)))) (o + 2) z (x.1 (18 + z) + min b (x.1 (8 + z)))) o th (bk1 z b x.1, x.2) S :=
    hD.mem (fun i => by rw [mu_o (by omega), mu_o (by omega)]) ((hD.2.2.1.a1 z0 z1).a2 z0 z1) (fun z z0 z1 => by rw [mu_o (by omega), mu_o (by omega)]; exact hD.2.2.2.1 z z0 z1) (fun z z0 z1 => by rw [mu_o (by omega), mu_o (by omega)]; exact hD.2.2.2.2.1 z z0 z1) (fun j hj hs => by rw [mu_o (by omega), mu_o (by omega)]; exact hD.2.2.2.2.2 j hj hs)
  have hh := h _ ((Ep.rf.mu (Or.inr (Or.inl rfl))).mu (Or.inr (Or.inr (Or.inl rfl)))) hD2
  have bb : 0 ≤ z ∧ z < 10 := ⟨z0, z1⟩
  rcases ho.1 with rfl | rfl
  · refine v99_25 (by omega) (s152 (by omega) (inR_of (by omega) (by omega)) ⟨b2_in _, fun _ => ⟨bb, bb, bb, bb, bb, ?_⟩, fun k => absurd bb (b2_0.mp k)⟩)
    have e1 : μ 26 z = x.1 (8 + z) := e1
    have e2 : μ 27 z = x.1 (18 + z) := e2
    rw [e1, e2, hm]; exact hh
  · refine v99_59 (by omega) (s152 (by omega) (inR_of (by omega) (by omega)) ⟨b2_in _, fun _ => ⟨bb, bb, bb, bb, bb, ?_⟩, fun k => absurd bb (b2_0.mp k)⟩)
    have e1 : μ 60 z = x.1 (8 + z) := e1
    have e2 : μ 61 z = x.1 (18 + z) := e2
    rw [e1, e2, hm]; exact hh
theorem a27 {i : Nat} (hd : 3 ≤ d) (hK : KW μ K) (ok : KOK K) (ho : ow o th) (hD : DW μ o th x S) (hb : DB x) (i1 : (i : Int) < jc K) (hs : iAnd (iShr S i) 1 = 1) (h : ∀ μ', Ep (Sw o) μ μ' → DW μ' o th (bkW (jX K) i (x.2.2.2 i) x.1 (jL K i).toNat, x.2) S → Φ none μ') : Ct E d 27 [.inr 23, .inl (i : Int)] μ Φ := by
  have c16 := ok.2.1.2.1
  obtain ⟨c9, -, -, n23⟩ := ow9 ho
  have bi := hb.2.2 i (by omega) (by omega)
  have key : ∀ (m j : Nat) (μ1 : Mm), j + m = (jL K i).toNat → Ep (Sw o) μ μ1 → DW μ1 o th (bkW (jX K) i (x.2.2.2 i) x.1 j, x.2) S → G E d 27 Φ 2 [some (.inr 23), some (.inl (i : Int)), some (.inl (j : Int))] [] μ1 := by
    intro m
    induction m with
    | zero =>
      intro j μ1 hj hE hD1
      have wl := (hK.dy hE ho).2.1.2.2.2.1 i (by omega) i1
      have e1 : μ1 38 i = jL K i := wl.1
      refine v27_2 (by omega) ?_
      rw [e1]
      refine ⟨⟨by omega, by omega⟩, inR_of (by omega) (by omega), inR_of (by omega) (by omega), fun _ => ?_, fun k => by omega⟩
      rw [show j = (jL K i).toNat by omega] at hD1
      exact h μ1 hE hD1
    | succ m ih =>
      intro j μ1 hj hE hD1
      have hK1 := hK.dy hE ho
      have wl := hK1.2.1.2.2.2.1 i (by omega) i1
      have wx := hK1.2.1.2.2.2.2 i j (by omega) i1 (by omega) (by omega)
      have e1 : μ1 38 i = jL K i := wl.1
      refine v27_2 (by omega) ?_
      rw [e1, hD1.N]
      refine ⟨⟨by omega, by omega⟩, inR_of (by omega) (by omega), inR_of (by omega) (by omega), fun k => by omega, fun _ => s104j (by omega) hK1.2.1 (by omega) i1 (by omega) (by omega) ⟨⟨by omega, by omega⟩, c9, ?_⟩⟩
      have e6 : μ1 64 i = x.2.2.2 i := hD1.2.2.2.2.2 i (by omega) hs
      rw [e6]
      refine a99 (by omega) ho hD1 (bkW_b bi.1 hb.1 j (fun k k0 k1 => ok.2.1.2.2.2 i k (by omega) i1 k0 (by omega))) wx.2.1 (by omega) bi.1 bi.2 (fun μ2 h2 hD2 => ih (j + 1) μ2 (by omega) (hE.tr h2) hD2)
  exact v27 (by omega) (key (jL K i).toNat 0 μ (by omega) Ep.rf hD)
/-- a change -/
theorem a22 {i : Nat} (hd : 2 ≤ d) (hK : KW μ K) (ok : KOK K) (ho : ow o th) (hN : μ 23 5 = o) (hS : StW μ o s) (hb : StB s) (i1 : (i : Int) < cc K) (h : ∀ μ', Ep (fun a _ => a = o ∨ a = o + 1) μ μ' → StW μ' o (cg1 (cC K 1 i) (cC K 2 i) (cC K 3 i) s) → Φ none μ') : Ct E d 22 [.inr 23, .inl (i : Int)] μ Φ := by
  obtain ⟨-, -, -, -, g0, g1, g2⟩ := ok
  have g := g2 i (by omega) i1
  have q := hK.2.2.2.2.2 i (by omega) i1
  obtain ⟨c9, c100, al, n23⟩ := ow9 ho
  have hN1 : (μ 23 5).toNat = o := by rw [hN]; simp
  have bb : 0 ≤ (i : Int) ∧ (i : Int) < 16 := ⟨by omega, by omega⟩
  have e1 : μ (o + 1) (cC K 2 i) = s (8 + cC K 2 i) := hS.2.2.2.2.2.2.2.2.1 _ g.2.2.1.1 (by omega)
  have bz := hb.2.2.2.2 (cC K 2 i) g.2.2.1.1 (by omega)
  have q0 := g.1
  have q1 := g.2.1
  have q2 := g.2.2.1
  have q3 := g.2.2.2.1
  refine v22 (by omega) ?_
  rw [q.2.2.1, q.2.2.2]
  refine ⟨bb, bb, s152 (by omega) (inR_of (by omega) (by omega)) ?_⟩
  simp only [rI]
  rw [q.2.1, hN1, c100, al, e1]
  refine ⟨b2_in _, fun _ => ⟨bb, inR_of (by omega) (by omega), fun k => ⟨c9, c9, rfl, ⟨by omega, by omega⟩, rfl, ⟨by omega, by omega⟩, ?_⟩, fun k => ⟨c9, c9, rfl, ⟨by omega, by omega⟩, rfl, ⟨by omega, by omega⟩, ?_⟩, fun k k2 => ⟨c9, ?_⟩⟩, fun k => absurd ⟨by omega, by omega⟩ (b2_0.mp k)⟩
  · rw [iMin_eq (inR_of (by omega) (by omega)) (inR_of (by omega) (by omega))]
    refine h _ (Ep.rf.mu (Or.inr rfl)) ?_
    unfold cg1
    rw [if_pos (by omega)]
    exact hS.a1 (by omega) (by omega)
  · rw [iMax_eq (inR_of (by omega) (by omega)) (inR_of (by omega) (by omega))]
    refine h _ (Ep.rf.mu (Or.inr rfl)) ?_
    unfold cg1
    rw [if_neg (by omega), if_pos (by omega)]
    exact hS.a1 (by omega) (by omega)
  · refine h _ (Ep.rf.mu (Or.inl rfl)) ?_
    unfold cg1
    rw [if_neg (by omega), if_neg (by omega)]
    exact hS.fl (Or.inr (Or.inr (Or.inr (Or.inl ⟨rfl, rfl, by omega⟩))))
/-- a day -/
theorem a21_25 (hd : 7 ≤ d) (hK : KW μ K) (ok : KOK K) (ho : ow 25 th) (hS : StW μ 25 s) (hb : StB s) (h19 : s 0 ≤ 19999) (ht : ∀ i, 0 ≤ i → i < 600 → μ 58 i = t i) (h : ∀ μ', Ep (Sd 25) μ μ' → StW μ' 25 (dyZ K th s t).1 → (∀ i, 0 ≤ i → i < 600 → μ' 58 i = (dyZ K th s t).2 i) → Φ none μ') : Ct E d 21 [.inr 23, .inr 25, .inl th] μ Φ := by
  have c0 := ok.2.1.1
  have c16 := ok.2.1.2.1
  have k0 := ok.2.2.2.2.1
  have k16 := ok.2.2.2.2.2.1
  have kg := ok.2.2.2.2.2.2
  obtain ⟨c9, c100, al, n23⟩ := ow9 ho
  have mono : ∀ {a b : Mm}, Ep (Sw 25) a b → Ep (Sd 25) a b := fun hE => hE.mono (fun a i hk => by unfold Sw at hk; unfold Sd; omega)
  -- the evening
  have eve : ∀ (m i : Nat) (μ1 : Mm), (i : Int) + m = jc K → Ep (Sd 25) μ μ1 → DW μ1 25 th (bsR K (dy1 K th s t).2 (dy2 K th s t) i) (dy1 K th s t).2 → G E d 21 Φ 38 [some (.inr 23), none, none, some (.inl (dy1 K th s t).2), some (.inl (i : Int))] [] μ1 := by
    intro m
    induction m with
    | zero =>
      intro i μ1 hi hE hD1
      have hK1 : KW μ1 K := hK.ep hE (fun k i k0 k1 k2 => by unfold Sd; omega)
      have e1 : μ1 36 0 = jc K := hK1.2.1.1
      have e7 : μ1 25 7 = (bsR K (dy1 K th s t).2 (dy2 K th s t) i).1 0 := hD1.2.2.1.1
      refine v21_25_38 (by omega) ?_
      rw [e1, hD1.N, e7]
      refine ⟨inR_of (by omega) (by omega), inR_of (by omega) (by omega), fun _ => ⟨c9, c9, ?_⟩, fun k => by omega⟩
      have ei : i = (jc K).toNat := by omega
      subst ei
      refine h _ (hE.mu (Or.inl rfl)) ?_ (fun j j0 j1 => ?_)
      · exact hD1.2.2.1.fl (Or.inl ⟨rfl, rfl, rfl⟩)
      · rw [mu_o (by decide)]; exact hD1.2.2.2.2.1 j j0 j1
    | succ m ih =>
      intro i μ1 hi hE hD1
      have hK1 : KW μ1 K := hK.ep hE (fun k i k0 k1 k2 => by unfold Sd; omega)
      have e1 : μ1 36 0 = jc K := hK1.2.1.1
      have hb1 : DB (bsR K (dy1 K th s t).2 (dy2 K th s t) i) := bsR_b ok (dy2_b ok hb) i (by omega)
      have hq : bsR K (dy1 K th s t).2 (dy2 K th s t) (i + 1) = bst K (dy1 K th s t).2 i (bsR K (dy1 K th s t).2 (dy2 K th s t) i) := rfl
      have nx := fun μ2 h1 h2 => ih (i + 1) μ2 (by omega) h1 h2
      rw [hq] at nx
      refine v21_25_38 (by omega) ?_
      rw [e1]
      refine ⟨inR_of (by omega) (by omega), inR_of (by omega) (by omega), fun k => by omega, fun _ => ⟨i32_in _, fun k => ?_, fun k => ?_⟩⟩
      · rw [show bst K (dy1 K th s t).2 i (bsR K (dy1 K th s t).2 (dy2 K th s t) i) = bsR K (dy1 K th s t).2 (dy2 K th s t) i by unfold bst; rw [if_neg k]] at nx
        exact nx μ1 hE hD1
      · refine a27 (by omega) hK1 ok ho hD1 hb1 (by omega) k (fun μ2 h2 hD2 => nx μ2 (hE.tr (mono h2)) ?_)
        unfold bst
        rw [if_pos k]
        exact hD2
  -- the morning
  have mor : ∀ (m i : Nat) (μ1 : Mm), (i : Int) + m = cc K → Ep (Sd 25) μ μ1 → μ1 23 5 = (25 : Nat) → μ1 23 6 = th → StW μ1 25 (csR K s i) → (∀ j, 0 ≤ j → j < 600 → μ1 58 j = t j) → G E d 21 Φ 8 [some (.inr 23), none, none, some (.inl (i : Int)), none] [] μ1 := by
    intro m
    induction m with
    | zero =>
      intro i μ1 hi hE h5 h6 hS1 ht1
      have hK1 : KW μ1 K := hK.ep hE (fun k i k0 k1 k2 => by unfold Sd; omega)
      have e1 : μ1 44 0 = cc K := hK1.2.2.2.2.1
      have hN1 : (μ1 23 5).toNat = 25 := by rw [h5]; rfl
      refine v21_25_8 (by omega) ?_
      rw [e1]
      refine ⟨inR_of (by omega) (by omega), inR_of (by omega) (by omega), fun _ => v23 (by omega) ?_, fun k => by omega⟩
      rw [hN1, c9, c100, al]
      refine ⟨rfl, rfl, ⟨⟨by decide, by decide⟩, ⟨by decide, by decide⟩, by decide⟩, ?_⟩
      have ei : i = (cc K).toNat := by omega
      subst ei
      have hb0 : DB (dy0 K s t) := dy0_b ok hb
      have hD1 : DW (mcp μ1 (25 + 1) 0 62 0 10) 25 th (dy0 K s t) 0 := by
        refine ⟨by rw [mcp_o (by decide)]; exact h5, by rw [mcp_o (by decide)]; exact h6, hS1.ep (T := fun a _ => a = 62) (Ep.rf.mcp (fun _ => rfl)) (fun k i hk => by show ¬ (25 + k = 62); omega), fun z z0 z1 => ?_, fun j j0 j1 => by rw [mcp_o (by decide)]; exact ht1 j j0 j1, fun j hj hs => ?_⟩
        · rw [mcp_in (by omega) (by omega), show 0 + (z - 0) = z by omega]
          exact hS1.2.2.2.2.2.2.2.2.1 z z0 z1
        · rw [bq_1 (by omega), bq_0] at hs
          cases hs
      have hE1 : Ep (Sd 25) μ (mcp μ1 (25 + 1) 0 62 0 10) := hE.mcp (fun _ => by unfold Sd; omega)
      refine a24 (by omega) (hK.ep hE1 (fun k i k0 k1 k2 => by unfold Sd; omega)) ok ho hD1 hb0 (fun μ2 h2 hD2 => ?_)
      have hE2 := hE1.tr (mono h2)
      refine a26 (by omega) (hK.ep hE2 (fun k i k0 k1 k2 => by unfold Sd; omega)) ok ho hD2 (dy1_b ok hb) (fun μ3 h3 hD3 => ?_)
      exact eve (jc K).toNat 0 μ3 (by omega) (hE2.tr (mono h3)) hD3
    | succ m ih =>
      intro i μ1 hi hE h5 h6 hS1 ht1
      have hK1 : KW μ1 K := hK.ep hE (fun k i k0 k1 k2 => by unfold Sd; omega)
      have e1 : μ1 44 0 = cc K := hK1.2.2.2.2.1
      have q := hK1.2.2.2.2.2 i (by omega) (by omega)
      have g := kg i (by omega) (by omega)
      have hN1 : (μ1 23 5).toNat = 25 := by rw [h5]; rfl
      have hb1 : StB (csR K s i) := csR_b ok hb i (by omega)
      have b0 := hb1.1
      have nx := fun μ2 h1 h2 h3 h4 h5 => ih (i + 1) μ2 (by omega) h1 h2 h3 h4 h5
      have hq : csR K s (i + 1) = cst K i (csR K s i) := rfl
      rw [hq] at nx
      have e7 : μ1 25 7 = csR K s i 0 := hS1.1
      refine v21_25_8 (by omega) ?_
      rw [e1, hN1, q.1, e7]
      refine ⟨inR_of (by omega) (by omega), inR_of (by omega) (by omega), fun k => by omega, fun _ => ⟨⟨by omega, by omega⟩, c9, inR_of (by omega) (by omega), inR_of (by omega) (by omega), fun k => ?_, fun k => ?_⟩⟩
      · rw [show cst K i (csR K s i) = csR K s i by unfold cst; rw [if_neg k]] at nx
        exact nx μ1 hE h5 h6 hS1 ht1
      · refine a22 (by omega) hK1 ok ho h5 hS1 hb1 (by omega) (fun μ2 h2 hS2 => nx μ2 (hE.tr (h2.mono (fun a i hk => by unfold Sd; omega))) ?_ ?_ ?_ (fun j j0 j1 => ?_))
        · rw [h2 _ _ (by show ¬ _; omega)]; exact h5
        · rw [h2 _ _ (by show ¬ _; omega)]; exact h6
        · unfold cst; rw [if_pos k]; exact hS2
        · rw [h2 _ _ (by show ¬ _; omega)]; exact ht1 j j0 j1
  refine v21_25 (by omega) ⟨ho.2.1, mor (cc K).toNat 0 _ (by omega) ((Ep.rf.mu (by unfold Sd; omega)).mu (by unfold Sd; omega)) (by rw [mu_i (by decide), mu_s]; rfl) (mu_s _ _ _ _) ?_ (fun j j0 j1 => by rw [mu_o (by decide), mu_o (by decide)]; exact ht j j0 j1)⟩
  exact hS.ep (T := fun a _ => a = 23) ((Ep.rf.mu rfl).mu rfl) (fun k i hk => by show ¬ (25 + k = 23); omega)
/-- a day -/
theorem a21_59 (hd : 7 ≤ d) (hK : KW μ K) (ok : KOK K) (ho : ow 59 th) (hS : StW μ 59 s) (hb : StB s) (h19 : s 0 ≤ 19999) (ht : ∀ i, 0 ≤ i → i < 600 → μ 58 i = t i) (h : ∀ μ', Ep (Sd 59) μ μ' → StW μ' 59 (dyZ K th s t).1 → (∀ i, 0 ≤ i → i < 600 → μ' 58 i = (dyZ K th s t).2 i) → Φ none μ') : Ct E d 21 [.inr 23, .inr 59, .inl th] μ Φ := by
  have c0 := ok.2.1.1
  have c16 := ok.2.1.2.1
  have k0 := ok.2.2.2.2.1
  have k16 := ok.2.2.2.2.2.1
  have kg := ok.2.2.2.2.2.2
  obtain ⟨c9, c100, al, n23⟩ := ow9 ho
  have mono : ∀ {a b : Mm}, Ep (Sw 59) a b → Ep (Sd 59) a b := fun hE => hE.mono (fun a i hk => by unfold Sw at hk; unfold Sd; omega)
  -- the evening
  have eve : ∀ (m i : Nat) (μ1 : Mm), (i : Int) + m = jc K → Ep (Sd 59) μ μ1 → DW μ1 59 th (bsR K (dy1 K th s t).2 (dy2 K th s t) i) (dy1 K th s t).2 → G E d 21 Φ 38 [some (.inr 23), none, none, some (.inl (dy1 K th s t).2), some (.inl (i : Int))] [] μ1 := by
    intro m
    induction m with
    | zero =>
      intro i μ1 hi hE hD1
      have hK1 : KW μ1 K := hK.ep hE (fun k i k0 k1 k2 => by unfold Sd; omega)
      have e1 : μ1 36 0 = jc K := hK1.2.1.1
      have e7 : μ1 59 7 = (bsR K (dy1 K th s t).2 (dy2 K th s t) i).1 0 := hD1.2.2.1.1
      refine v21_59_38 (by omega) ?_
      rw [e1, hD1.N, e7]
      refine ⟨inR_of (by omega) (by omega), inR_of (by omega) (by omega), fun _ => ⟨c9, c9, ?_⟩, fun k => by omega⟩
      have ei : i = (jc K).toNat := by omega
      subst ei
      refine h _ (hE.mu (Or.inl rfl)) ?_ (fun j j0 j1 => ?_)
      · exact hD1.2.2.1.fl (Or.inl ⟨rfl, rfl, rfl⟩)
      · rw [mu_o (by decide)]; exact hD1.2.2.2.2.1 j j0 j1
    | succ m ih =>
      intro i μ1 hi hE hD1
      have hK1 : KW μ1 K := hK.ep hE (fun k i k0 k1 k2 => by unfold Sd; omega)
      have e1 : μ1 36 0 = jc K := hK1.2.1.1
      have hb1 : DB (bsR K (dy1 K th s t).2 (dy2 K th s t) i) := bsR_b ok (dy2_b ok hb) i (by omega)
      have hq : bsR K (dy1 K th s t).2 (dy2 K th s t) (i + 1) = bst K (dy1 K th s t).2 i (bsR K (dy1 K th s t).2 (dy2 K th s t) i) := rfl
      have nx := fun μ2 h1 h2 => ih (i + 1) μ2 (by omega) h1 h2
      rw [hq] at nx
      refine v21_59_38 (by omega) ?_
      rw [e1]
      refine ⟨inR_of (by omega) (by omega), inR_of (by omega) (by omega), fun k => by omega, fun _ => ⟨i32_in _, fun k => ?_, fun k => ?_⟩⟩
      · rw [show bst K (dy1 K th s t).2 i (bsR K (dy1 K th s t).2 (dy2 K th s t) i) = bsR K (dy1 K th s t).2 (dy2 K th s t) i by unfold bst; rw [if_neg k]] at nx
        exact nx μ1 hE hD1
      · refine a27 (by omega) hK1 ok ho hD1 hb1 (by omega) k (fun μ2 h2 hD2 => nx μ2 (hE.tr (mono h2)) ?_)
        unfold bst
        rw [if_pos k]
        exact hD2
  -- the morning
  have mor : ∀ (m i : Nat) (μ1 : Mm), (i : Int) + m = cc K → Ep (Sd 59) μ μ1 → μ1 23 5 = (59 : Nat) → μ1 23 6 = th → StW μ1 59 (csR K s i) → (∀ j, 0 ≤ j → j < 600 → μ1 58 j = t j) → G E d 21 Φ 8 [some (.inr 23), none, none, some (.inl (i : Int)), none] [] μ1 := by
    intro m
    induction m with
    | zero =>
      intro i μ1 hi hE h5 h6 hS1 ht1
      have hK1 : KW μ1 K := hK.ep hE (fun k i k0 k1 k2 => by unfold Sd; omega)
      have e1 : μ1 44 0 = cc K := hK1.2.2.2.2.1
      have hN1 : (μ1 23 5).toNat = 59 := by rw [h5]; rfl
      refine v21_59_8 (by omega) ?_
      rw [e1]
      refine ⟨inR_of (by omega) (by omega), inR_of (by omega) (by omega), fun _ => v23 (by omega) ?_, fun k => by omega⟩
      rw [hN1, c9, c100, al]
      refine ⟨rfl, rfl, ⟨⟨by decide, by decide⟩, ⟨by decide, by decide⟩, by decide⟩, ?_⟩
      have ei : i = (cc K).toNat := by omega
      subst ei
      have hb0 : DB (dy0 K s t) := dy0_b ok hb
      have hD1 : DW (mcp μ1 (59 + 1) 0 62 0 10) 59 th (dy0 K s t) 0 := by
        refine ⟨by rw [mcp_o (by decide)]; exact h5, by rw [mcp_o (by decide)]; exact h6, hS1.ep (T := fun a _ => a = 62) (Ep.rf.mcp (fun _ => rfl)) (fun k i hk => by show ¬ (59 + k = 62); omega), fun z z0 z1 => ?_, fun j j0 j1 => by rw [mcp_o (by decide)]; exact ht1 j j0 j1, fun j hj hs => ?_⟩
        · rw [mcp_in (by omega) (by omega), show 0 + (z - 0) = z by omega]
          exact hS1.2.2.2.2.2.2.2.2.1 z z0 z1
        · rw [bq_1 (by omega), bq_0] at hs
          cases hs
      have hE1 : Ep (Sd 59) μ (mcp μ1 (59 + 1) 0 62 0 10) := hE.mcp (fun _ => by unfold Sd; omega)
      refine a24 (by omega) (hK.ep hE1 (fun k i k0 k1 k2 => by unfold Sd; omega)) ok ho hD1 hb0 (fun μ2 h2 hD2 => ?_)
      have hE2 := hE1.tr (mono h2)
      refine a26 (by omega) (hK.ep hE2 (fun k i k0 k1 k2 => by unfold Sd; omega)) ok ho hD2 (dy1_b ok hb) (fun μ3 h3 hD3 => ?_)
      exact eve (jc K).toNat 0 μ3 (by omega) (hE2.tr (mono h3)) hD3
    | succ m ih =>
      intro i μ1 hi hE h5 h6 hS1 ht1
      have hK1 : KW μ1 K := hK.ep hE (fun k i k0 k1 k2 => by unfold Sd; omega)
      have e1 : μ1 44 0 = cc K := hK1.2.2.2.2.1
      have q := hK1.2.2.2.2.2 i (by omega) (by omega)
      have g := kg i (by omega) (by omega)
      have hN1 : (μ1 23 5).toNat = 59 := by rw [h5]; rfl
      have hb1 : StB (csR K s i) := csR_b ok hb i (by omega)
      have b0 := hb1.1
      have nx := fun μ2 h1 h2 h3 h4 h5 => ih (i + 1) μ2 (by omega) h1 h2 h3 h4 h5
      have hq : csR K s (i + 1) = cst K i (csR K s i) := rfl
      rw [hq] at nx
      have e7 : μ1 59 7 = csR K s i 0 := hS1.1
      refine v21_59_8 (by omega) ?_
      rw [e1, hN1, q.1, e7]
      refine ⟨inR_of (by omega) (by omega), inR_of (by omega) (by omega), fun k => by omega, fun _ => ⟨⟨by omega, by omega⟩, c9, inR_of (by omega) (by omega), inR_of (by omega) (by omega), fun k => ?_, fun k => ?_⟩⟩
      · rw [show cst K i (csR K s i) = csR K s i by unfold cst; rw [if_neg k]] at nx
        exact nx μ1 hE h5 h6 hS1 ht1
      · refine a22 (by omega) hK1 ok ho h5 hS1 hb1 (by omega) (fun μ2 h2 hS2 => nx μ2 (hE.tr (h2.mono (fun a i hk => by unfold Sd; omega))) ?_ ?_ ?_ (fun j j0 j1 => ?_))
        · rw [h2 _ _ (by show ¬ _; omega)]; exact h5
        · rw [h2 _ _ (by show ¬ _; omega)]; exact h6
        · unfold cst; rw [if_pos k]; exact hS2
        · rw [h2 _ _ (by show ¬ _; omega)]; exact ht1 j j0 j1
  refine v21_59 (by omega) ⟨ho.2.1, mor (cc K).toNat 0 _ (by omega) ((Ep.rf.mu (by unfold Sd; omega)).mu (by unfold Sd; omega)) (by rw [mu_i (by decide), mu_s]; rfl) (mu_s _ _ _ _) ?_ (fun j j0 j1 => by rw [mu_o (by decide), mu_o (by decide)]; exact ht j j0 j1)⟩
  exact hS.ep (T := fun a _ => a = 23) ((Ep.rf.mu rfl).mu rfl) (fun k i hk => by show ¬ (59 + k = 23); omega)
end S34
