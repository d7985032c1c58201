/-! a day in the class: jobs, devil, evening, changes -/
section S33
variable {E : En} {d : Nat} {f : Int → Mm → Prop} {Φ : Option AV → Mm → Prop} {μ μ' : Mm} {o : Nat} {th S : Int} {x : Dy} {K : Kt} {s : Int → Int}
theorem bq_si : ∀ i : Nat, i < 16 → ∀ j, j < 16 → bq (iShl 1 (i : Int)) j = decide (j = i) := by decide +kernel
/-- bit j of a set with one more -/
theorem bit_or {S : Int} {i j : Nat} (hi : i < 16) (hj : j < 16) : iAnd (iShr (iOr S (iShl 1 (i : Int))) j) 1 = 1 ↔ iAnd (iShr S j) 1 = 1 ∨ j = i := by
  rw [bq_1 (by omega), bq_1 (by omega), bq_or, bq_si i hi j hj]
  simp
theorem DW.mem {y : Dy} (hD : DW μ o th x S) (h23 : ∀ i, μ' 23 i = μ 23 i) (hs : StW μ' o y.1) (hg : ∀ z, 0 ≤ z → z < 10 → μ' 62 z = y.2.1 z) (ht : ∀ i, 0 ≤ i → i < 600 → μ' 58 i = y.2.2.1 i) (hb : ∀ i : Nat, i < 16 → iAnd (iShr S i) 1 = 1 → μ' 64 i = y.2.2.2 i) : DW μ' o th y S :=
  ⟨by rw [h23]; exact hD.1, by rw [h23]; exact hD.2.1, hs, hg, ht, hb⟩
/-- fields of how things stand -/
theorem DW.fl {k i v w : Int} (hD : DW μ o th x S) (ho : ow o th) (hk : (k = 7 ∧ i = 0 ∧ w = v) ∨ (k = 8 ∧ i = 1 ∧ w = v) ∨ (k = 9 ∧ i = 2 ∧ w = v) ∨ (k = 3 ∧ i = 3 ∧ w = v + 5) ∨ (k = 4 ∧ i = 4 ∧ w = v) ∨ (k = 5 ∧ i = 5 ∧ w = v) ∨ (k = 6 ∧ i = 6 ∧ w = v) ∨ (k = 2 ∧ i = 7 ∧ w = v)) : DW (mu μ o k w) o th (ud x.1 i v, x.2) S := by
  have ho1 := ho.1
  exact hD.mem (fun i => mu_o (by omega)) (hD.2.2.1.fl hk) (fun z z0 z1 => by rw [mu_o (by omega)]; exact hD.2.2.2.1 z z0 z1) (fun z z0 z1 => by rw [mu_o (by omega)]; exact hD.2.2.2.2.1 z z0 z1) (fun j hj hs => by rw [mu_o (by omega)]; exact hD.2.2.2.2.2 j hj hs)
theorem Sw_o {i : Int} : Sw o o i := Or.inl rfl
/-- a job is set -/
theorem a25 {i : Nat} (hd : 5 ≤ d) (hK : KW μ K) (ok : KOK K) (ho : ow o th) (hD : DW μ o th x S) (hb : DB x) (i1 : (i : Int) < jc K) (hl : lk (jX K) i (jL K i).toNat x.2.1 ≤ 0) (h : ∀ μ', Ep (Sw o) μ μ' → DW μ' o th (stj K th i x) (iOr S (iShl 1 (i : Int))) → Φ none μ') : Ct E d 25 [.inr 23, .inl (i : Int)] μ Φ := by
  have c16 := ok.2.1.2.1
  obtain ⟨c9, -, -, n23⟩ := ow9 ho
  have ho1 := ho.1
  refine v25 (by omega) (s30j (by omega) hK.2.1 (by omega) i1 (fun μ1 h1 hg => ?_))
  have hD1 : DW μ1 o th (tk (jX K) i (jL K i).toNat x) S := hD.bx ho h1 (fun z z0 z1 => by rw [hg z z0 z1, hD.2.2.2.1 z z0 z1])
  have hN1 := hD1.N
  have hN2 : ∀ v, (mu μ1 o 2 v 23 5).toNat = o := fun v => by rw [mu_o (by omega)]; exact hN1
  simp only [rV]
  rw [hN1]
  simp only [hN2]
  have e2 : μ1 o 2 = x.1 7 := hD1.2.2.1.2.2.2.2.2.2.2.1
  have e5 : μ1 o 5 = x.1 5 := hD1.2.2.1.2.2.2.2.2.1
  rw [mu_i (show (5 : Int) ≠ 2 by decide), e2, e5]
  refine ⟨c9, c9, c9, c9, ?_⟩
  have hD2 : DW (mu (mu μ1 o 2 (iOr (x.1 7) (iShl 1 (i : Int)))) o 5 (x.1 5 + 1)) o th (sjY K i x) S := (hD1.fl ho (k := 2) (i := 7) (v := iOr (x.1 7) (iShl 1 (i : Int))) (w := iOr (x.1 7) (iShl 1 (i : Int))) (by simp)).fl ho (k := 5) (i := 5) (v := x.1 5 + 1) (w := x.1 5 + 1) (by simp)
  have hE1 : Ep (Sw o) μ (mu (mu μ1 o 2 (iOr (x.1 7) (iShl 1 (i : Int)))) o 5 (x.1 5 + 1)) := ((Ep.of h1 Sw62).mu Sw_o).mu Sw_o
  have hb2 : DB (sjY K i x) := sjY_b (by omega) hb hl
  refine a32j (by omega) (hK.dy hE1 ho) ok ho hD2 hb2 (by omega) i1 (by omega) (by omega) (fun μ3 h3 hD3 => ⟨⟨by omega, by omega⟩, ⟨by omega, by omega⟩, ?_⟩)
  rw [mu_s]
  have hD4 : DW (mu μ3 64 i (fJ K 1 i (sjY K i x))) o th (br1 i (sjB K i x) (sjY K i x)) (iOr S (iShl 1 (i : Int))) := by
    refine ⟨by rw [mu_o (by decide)]; exact hD3.1, by rw [mu_o (by decide)]; exact hD3.2.1, hD3.2.2.1.ep (T := fun a _ => a = 64) (Ep.rf.mu rfl) (fun k i hk => by show ¬ (o + k = 64); omega), fun z z0 z1 => by rw [mu_o (by decide)]; exact hD3.2.2.2.1 z z0 z1, fun z z0 z1 => by rw [mu_o (by decide)]; exact hD3.2.2.2.2.1 z z0 z1, fun j hj hs => ?_⟩
    show mu μ3 64 i (fJ K 1 i (sjY K i x)) 64 j = ud x.2.2.2 i (sjB K i x) j
    by_cases e : j = i
    · rw [e, mu_s, ud_s]; rfl
    · rw [mu_i (by omega), ud_n (by omega)]
      exact hD3.2.2.2.2.2 j hj (((bit_or (by omega) hj).mp hs).resolve_right e)
  refine a29 (by omega) ho hD4 hb2.1 (fun μ5 h5 hD5 => h μ5 (((hE1.tr h3).mu (Or.inr (by omega))).tr h5) ?_)
  exact hD5
theorem a96 {i : Nat} (hd : 1 ≤ d) (ho : ow o th) (hD : DW μ o th x S) (hi : i < 32) (h : Φ (some (.inl (iAnd (iShr (x.1 7) i) 1))) μ) : Ct E d 96 [.inr o, .inl (i : Int)] μ Φ := by
  have e2 : μ o 2 = x.1 7 := hD.2.2.1.2.2.2.2.2.2.2.1
  have z := iz (x := x.1 7) hi
  rcases ho.1 with rfl | rfl
  · refine v96_25 hd ?_
    rw [e2]
    exact ⟨i32_in _, fun k => fe h (by omega), fun k => fe h (by omega)⟩
  · refine v96_59 hd ?_
    rw [e2]
    exact ⟨i32_in _, fun k => fe h (by omega), fun k => fe h (by omega)⟩
theorem iOr_in (a b : Int) : inR (iOr a b) := i32_in _
/-- the jobs -/
theorem a24 (hd : 6 ≤ d) (hK : KW μ K) (ok : KOK K) (ho : ow o th) (hD : DW μ o th x 0) (hb : DB x) (h : ∀ μ', Ep (Sw o) μ μ' → DW μ' o th (jsR K th (x, 0) (jc K).toNat).1 (jsR K th (x, 0) (jc K).toNat).2 → Φ (some (.inl (jsR K th (x, 0) (jc K).toNat).2)) μ') : Ct E d 24 [.inr 23] μ Φ := by
  have c0 := ok.2.1.1
  have c16 := ok.2.1.2.1
  obtain ⟨c9, -, -, n23⟩ := ow9 ho
  have ho1 := ho.1
  have key : ∀ (m i : Nat) (μ1 : Mm), (i : Int) + m = jc K → Ep (Sw o) μ μ1 → DW μ1 o th (jsR K th (x, 0) i).1 (jsR K th (x, 0) i).2 → G E d 24 Φ 4 [some (.inr 23), some (.inl (jsR K th (x, 0) i).2), some (.inl (i : Int)), none] [] μ1 := by
    intro m
    induction m with
    | zero =>
      intro i μ1 hi hE hD1
      have e1 : μ1 36 0 = jc K := (hK.dy hE ho).2.1.1
      refine v24_4 (by omega) ?_
      rw [e1]
      refine ⟨inR_of (by omega) (by omega), inR_of (by omega) (by omega), fun _ => ?_, fun k => by omega⟩
      rw [show i = (jc K).toNat by omega] at hD1 ⊢
      exact h μ1 hE hD1
    | succ m ih =>
      intro i μ1 hi hE hD1
      have hK1 := hK.dy hE ho
      have hb1 : DB (jsR K th (x, 0) i).1 := jsR_b (q := (x, 0)) hb i (by omega)
      have hq : jsR K th (x, 0) (i + 1) = jst K th i (jsR K th (x, 0) i) := rfl
      have nx := fun μ2 h1 h2 => ih (i + 1) μ2 (by omega) h1 h2
      rw [hq] at nx
      generalize jsR K th (x, 0) i = q at *
      have dj := ok.2.2.1 i (by omega) (by omega)
      have e1 : μ1 36 0 = jc K := hK1.2.1.1
      have e37 : μ1 37 i = jd K i := hK1.2.2.1 i (by omega) (by omega)
      have e7 : μ1 o 7 = q.1.1 0 := hD1.2.2.1.1
      have b0 := hb1.1.1
      refine v24_4 (by omega) ?_
      rw [hD1.N, e1, e37, e7]
      refine ⟨inR_of (by omega) (by omega), inR_of (by omega) (by omega), fun k => by omega, fun _ => ⟨⟨by omega, by omega⟩, c9, inR_of (by omega) (by omega), inR_of (by omega) (by omega), fun k => ?_, fun k => ⟨c9, ?_⟩⟩⟩
      · have e : jst K th i q = q := by unfold jst; rw [if_pos (Or.inl k)]
        rw [e] at nx
        exact nx μ1 hE hD1
      · refine a96 (by omega) ho hD1 (by omega) ⟨i32_in _, fun k2 => ?_, fun k2 => ?_⟩
        · have e : jst K th i q = q := by
            unfold jst
            rw [if_pos (Or.inr ((iz (x := q.1.1 7) (show i < 32 by omega)).resolve_left k2))]
          rw [e] at nx
          exact nx μ1 hE hD1
        · have n1 : ¬ (q.1.1 0 < jd K i ∨ iAnd (iShr (q.1.1 7) i) 1 = 1) := by omega
          refine a31j (by omega) hK1 ok ho hD1 hb1 (by omega) (by omega) (fun μ3 h3 hD3 => ?_)
          have lb := lk_b (X := jX K) (i := i) (m := (jL K i).toNat) (g := q.1.2.1) (by have := ok.2.1.2.2.1 i (by omega) (by omega); omega) (fun z z0 z1 => (hb1.2.1 z z0 z1).1)
          have hE3 := hE.tr h3
          refine ⟨inR_of (by omega) (by omega), fun k3 => ?_, fun k3 => ?_⟩
          · refine a32j (by omega) (hK.dy hE3 ho) ok ho hD3 hb1 (by omega) (by omega) (by omega) (by omega) (fun μ5 h5 hD5 => ?_)
            have fb := fJ_b (K := K) (w := 0) (i := i) hb1
            have hE5 := hE3.tr h5
            refine a28 (by omega) ho hD5 (inR_of (by omega) (by omega)) (fun μ7 h7 hD7 => ?_)
            have hE7 := hE5.tr h7
            have hz : inR (hpZ th (fJ K 0 i q.1) q.1.1) := by
              unfold hpZ
              split
              · split <;> exact inR_of (by decide) (by decide)
              · split <;> exact inR_of (by decide) (by decide)
            refine ⟨hz, fun k4 => ?_, fun k4 => ?_⟩
            · have e : jst K th i q = (hp th (fJ K 0 i q.1) q.1, q.2) := by unfold jst; rw [if_neg n1, if_neg (by omega), if_pos k4]
              rw [e] at nx
              exact nx μ7 hE7 hD7
            · have e : jst K th i q = (stj K th i (hp th (fJ K 0 i q.1) q.1), iOr q.2 (iShl 1 i)) := by unfold jst; rw [if_neg n1, if_neg (by omega), if_neg k4]
              rw [e] at nx
              exact a25 (by omega) (hK.dy hE7 ho) ok ho hD7 (hp_b hb1) (by omega) k3 (fun μ9 h9 hD9 => nx μ9 (hE7.tr h9) hD9)
          · have e : jst K th i q = (nt th 1 i (lk (jX K) i (jL K i).toNat q.1.2.1) q.1, q.2) := by unfold jst; rw [if_neg n1, if_pos k3]
            rw [e] at nx
            exact a29 (by omega) ho hD3 hb1.1 (fun μ5 h5 hD5 => nx μ5 (hE3.tr h5) hD5)
  exact v24 (by omega) (key (jc K).toNat 0 μ (by omega) Ep.rf hD)
theorem hpZ_b {th a : Int} {s : Int → Int} : hpZ th a s = 0 ∨ hpZ th a s = 1 := by
  unfold hpZ
  split
  · split
    · exact Or.inr rfl
    · exact Or.inl rfl
  · split
    · exact Or.inr rfl
    · exact Or.inl rfl
/-- the devil -/
theorem a26 (hd : 5 ≤ d) (hK : KW μ K) (ok : KOK K) (ho : ow o th) (hD : DW μ o th x S) (hb : DB x) (h : ∀ μ', Ep (Sw o) μ μ' → DW μ' o th (dfn K th (dsR K th (x, 0) (bc K).toNat)) S → Φ none μ') : Ct E d 26 [.inr 23] μ Φ := by
  have c0 := ok.2.2.2.1.1
  have c16 := ok.2.2.2.1.2.1
  obtain ⟨c9, -, -, n23⟩ := ow9 ho
  have ho1 := ho.1
  have an : ∀ i : Nat, inR (dsR K th (x, 0) i).2 := by
    intro i
    induction i with
    | zero => exact (inR_of (by decide) (by decide) : inR 0)
    | succ i ih =>
      show inR (dst K th i (dsR K th (x, 0) i)).2
      unfold dst
      split
      · exact ih
      · split
        · exact ih
        · exact (inR_of (by decide) (by decide) : inR 1)
  have key : ∀ (m i : Nat) (μ1 : Mm), (i : Int) + m = bc K → Ep (Sw o) μ μ1 → DW μ1 o th (dsR K th (x, 0) i).1 S → G E d 26 Φ 4 [some (.inr 23), some (.inl (dsR K th (x, 0) i).2), some (.inl (i : Int))] [] μ1 := by
    intro m
    induction m with
    | zero =>
      intro i μ1 hi hE hD1
      have e1 : μ1 40 0 = bc K := (hK.dy hE ho).2.2.2.1.1
      have hb1 : DB (dsR K th (x, 0) i).1 := dsR_b (q := (x, 0)) hb i
      have an := an i
      rw [show (bc K).toNat = i by omega] at h
      generalize dsR K th (x, 0) i = q at *
      have e6 : μ1 o 6 = q.1.1 6 := hD1.2.2.1.2.2.2.2.2.2.1
      have hN2 : ∀ v, (mu μ1 o 6 v 23 5).toNat = o := fun v => by rw [mu_o (by omega)]; exact hD1.N
      refine v26_4 (by omega) ?_
      rw [hD1.N, e1, hN2, mu_s, e6]
      refine ⟨inR_of (by omega) (by omega), inR_of (by omega) (by omega), fun _ => ⟨an, fun k => ?_, fun k => ⟨inR_of (by omega) (by omega), fun k2 => ?_, fun k2 => ⟨c9, c9, c9, ?_⟩⟩⟩, fun k => by omega⟩
      · have e : dfn K th q = q.1 := by unfold dfn; rw [if_pos (Or.inl k)]
        rw [e] at h
        exact h μ1 hE hD1
      · have e : dfn K th q = q.1 := by unfold dfn; rw [if_pos (Or.inr (by omega))]
        rw [e] at h
        exact h μ1 hE hD1
      · have e : dfn K th q = nt th 3 (-1) (q.1.1 6 + 1) (ud q.1.1 6 (q.1.1 6 + 1), q.1.2) := by unfold dfn; rw [if_neg (by omega)]
        rw [e] at h
        have hD2 := hD1.fl ho (k := 6) (i := 6) (v := q.1.1 6 + 1) (w := q.1.1 6 + 1) (by simp)
        exact a29 (by omega) ho hD2 (by exact stb_ud hb1.1 (fun e => by omega) (fun e => by omega) (fun e => by omega) (fun e => by omega) (fun e _ => by omega)) (fun μ5 h5 hD5 => h μ5 ((hE.mu Sw_o).tr h5) hD5)
    | succ m ih =>
      intro i μ1 hi hE hD1
      have hK1 := hK.dy hE ho
      have hb1 : DB (dsR K th (x, 0) i).1 := dsR_b (q := (x, 0)) hb i
      have hq : dsR K th (x, 0) (i + 1) = dst K th i (dsR K th (x, 0) i) := rfl
      have nx := fun μ2 h1 h2 => ih (i + 1) μ2 (by omega) h1 h2
      rw [hq] at nx
      generalize dsR K th (x, 0) i = q at *
      have e1 : μ1 40 0 = bc K := hK1.2.2.2.1.1
      refine v26_4 (by omega) ?_
      rw [e1]
      refine ⟨inR_of (by omega) (by omega), inR_of (by omega) (by omega), fun k => by omega, fun _ => ?_⟩
      refine a31 (by omega) hK1 ok ho hD1 hb1 (by omega) (by omega) (fun μ3 h3 hD3 => ?_)
      have lb := lk_b (X := bX K) (i := i) (m := (bL K i).toNat) (g := q.1.2.1) (by have := ok.2.2.2.1.2.2.1 i (by omega) (by omega); omega) (fun z z0 z1 => (hb1.2.1 z z0 z1).1)
      have hE3 := hE.tr h3
      refine ⟨inR_of (by omega) (by omega), fun k3 => ?_, fun k3 => ?_⟩
      · have e : dst K th i q = q := by unfold dst; rw [if_pos (by omega)]
        rw [e] at nx
        exact nx μ3 hE3 hD3
      · have n1 : ¬ 0 < lk (bX K) i (bL K i).toNat q.1.2.1 := by omega
        refine a32 (by omega) (hK.dy hE3 ho) ok ho hD3 hb1 (by omega) (by omega) (fun μ5 h5 hD5 => ?_)
        have fb := fB_b (K := K) (i := i) hb1
        have hE5 := hE3.tr h5
        refine a28 (by omega) ho hD5 (inR_of (by omega) (by omega)) (fun μ7 h7 hD7 => ?_)
        have hE7 := hE5.tr h7
        have hz := hpZ_b (th := th) (a := fB K i q.1) (s := q.1.1)
        refine ⟨inR_of (by omega) (by omega), fun k4 => ?_, fun k4 => ?_⟩
        · have e : dst K th i q = (hp th (fB K i q.1) q.1, q.2) := by unfold dst; rw [if_neg n1, if_pos k4]
          rw [e] at nx
          exact nx μ7 hE7 hD7
        · have e : dst K th i q = (nt th 2 i (bL K i) (sd1 (tk (bX K) i (bL K i).toNat (hp th (fB K i q.1) q.1))), 1) := by unfold dst; rw [if_neg n1, if_neg k4]
          rw [e] at nx
          have hK7 := hK.dy hE7 ho
          refine s30 (by omega) hK7.2.2.2.1 (by omega) (by omega) (fun μ8 h8 hg => ?_)
          have hD8 : DW μ8 o th (tk (bX K) i (bL K i).toNat (hp th (fB K i q.1) q.1)) S := hD7.bx ho h8 (fun z z0 z1 => by rw [hg z z0 z1, hD7.2.2.2.1 z z0 z1])
          have hE8 : Ep (Sw o) μ μ8 := hE7.tr (Ep.of h8 Sw62)
          have e4 : μ8 o 4 = (tk (bX K) i (bL K i).toNat (hp th (fB K i q.1) q.1)).1 4 := hD8.2.2.1.2.2.2.2.1
          have el : μ8 42 i = bL K i := (((hK.dy hE8 ho).2.2.2.1).2.2.2.1 i (by omega) (by omega)).1
          simp only [rV]
          rw [hD8.N, e4, mu_o (show (42 : Nat) ≠ o by omega), el]
          have hb8 : DB (tk (bX K) i (bL K i).toNat (hp th (fB K i q.1) q.1)) := tk_b (hp_b hb1) (by show lk _ _ _ q.1.2.1 ≤ 0; omega)
          have hD9 := hD8.fl ho (k := 4) (i := 4) (v := (tk (bX K) i (bL K i).toNat (hp th (fB K i q.1) q.1)).1 4 + 1) (w := (tk (bX K) i (bL K i).toNat (hp th (fB K i q.1) q.1)).1 4 + 1) (by simp)
          refine ⟨c9, c9, ⟨by omega, by omega⟩, a29 (by omega) ho hD9 (sd1_b hb8).1 (fun μ9 h9 hDx => nx μ9 ((hE8.mu Sw_o).tr h9) hDx)⟩
  exact v26 (by omega) (key (bc K).toNat 0 μ (by omega) Ep.rf hD)
end S33
