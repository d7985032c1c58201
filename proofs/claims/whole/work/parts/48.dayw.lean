/-! a day in the class -/
def DW (μ : Mm) (o : Nat) (th : Int) (x : Dy) (S : Int) : Prop := μ 23 5 = o ∧ μ 23 6 = th ∧ StW μ o x.1 ∧ (∀ z, 0 ≤ z → z < 10 → μ 62 z = x.2.1 z) ∧ (∀ i, 0 ≤ i → i < 600 → μ 58 i = x.2.2.1 i) ∧ ∀ i : Nat, i < 16 → iAnd (iShr S i) 1 = 1 → μ 64 i = x.2.2.2 i
def ow (o : Nat) (th : Int) : Prop := (o = 25 ∨ o = 59) ∧ (th = 0 ∨ th = 1) ∧ (th = 0 → o = 25)
def Sw (o : Nat) : Nat → Int → Prop := fun x _ => x = o ∨ x = o + 1 ∨ x = o + 2 ∨ x = 35 ∨ x = 58 ∨ x = 62 ∨ x = 63 ∨ x = 64
section S32
variable {E : En} {d : Nat} {f : Int → Mm → Prop} {Φ : Option AV → Mm → Prop} {μ μ' : Mm} {o : Nat} {th S : Int} {x : Dy} {K : Kt} {s : Int → Int}
theorem Ep.of {T : Nat → Int → Prop} {p : Nat} (h : Eo p μ μ') (ht : ∀ i, T p i) : Ep T μ μ' := fun a i hn => h a i (fun e => hn (e ▸ ht i))
theorem StW.ep {T : Nat → Int → Prop} (h : StW μ o s) (e : Ep T μ μ') (h0 : ∀ k i, k < 3 → ¬ T (o + k) i) : StW μ' o s := by
  have g : ∀ i, μ' o i = μ o i := fun i => e _ _ (h0 0 i (by omega))
  have g1 : ∀ i, μ' (o + 1) i = μ (o + 1) i := fun i => e _ _ (h0 1 i (by omega))
  have g2 : ∀ i, μ' (o + 2) i = μ (o + 2) i := fun i => e _ _ (h0 2 i (by omega))
  unfold StW
  simp only [g, g1, g2]
  exact h
theorem StW.fl {k i v w : Int} (h : StW μ o s) (hk : (k = 7 ∧ i = 0 ∧ w = v) ∨ (k = 8 ∧ i = 1 ∧ w = v) ∨ (k = 9 ∧ i = 2 ∧ w = v) ∨ (k = 3 ∧ i = 3 ∧ w = v + 5) ∨ (k = 4 ∧ i = 4 ∧ w = v) ∨ (k = 5 ∧ i = 5 ∧ w = v) ∨ (k = 6 ∧ i = 6 ∧ w = v) ∨ (k = 2 ∧ i = 7 ∧ w = v)) : StW (mu μ o k w) o (ud s i v) := by
  obtain ⟨h1, h2, h3, h4, h5, h6, h7, h8, h9, h10⟩ := h
  have n9 : ∀ j, 0 ≤ j → j < 10 → mu μ o k w (o + 1) j = ud s i v (8 + j) := fun j j0 j1 => by
    rw [mu_o (by omega), ud_n (by omega)]; exact h9 j j0 j1
  have n10 : ∀ j, 0 ≤ j → j < 10 → mu μ o k w (o + 2) j = ud s i v (18 + j) := fun j j0 j1 => by
    rw [mu_o (by omega), ud_n (by omega)]; exact h10 j j0 j1
  rcases hk with ⟨rfl, rfl, rfl⟩ | ⟨rfl, rfl, rfl⟩ | ⟨rfl, rfl, rfl⟩ | ⟨rfl, rfl, rfl⟩ | ⟨rfl, rfl, rfl⟩ | ⟨rfl, rfl, rfl⟩ | ⟨rfl, rfl, rfl⟩ | ⟨rfl, rfl, rfl⟩ <;> refine ⟨?_, ?_, ?_, ?_, ?_, ?_, ?_, ?_, n9, n10⟩ <;> simp [mu, ud, h1, h2, h3, h4, h5, h6, h7, h8]
theorem StW.a1 {z v : Int} (h : StW μ o s) (z0 : 0 ≤ z) (z1 : z < 10) : StW (mu μ (o + 1) z v) o (ud s (8 + z) v) := by
  obtain ⟨h1, h2, h3, h4, h5, h6, h7, h8, h9, h10⟩ := h
  have g : ∀ i, mu μ (o + 1) z v o i = μ o i := fun i => mu_o (by omega)
  refine ⟨?_, ?_, ?_, ?_, ?_, ?_, ?_, ?_, fun j j0 j1 => ?_, fun j j0 j1 => ?_⟩
  · rw [g, ud_n (by omega)]; exact h1
  · rw [g, ud_n (by omega)]; exact h2
  · rw [g, ud_n (by omega)]; exact h3
  · rw [g, ud_n (by omega)]; exact h4
  · rw [g, ud_n (by omega)]; exact h5
  · rw [g, ud_n (by omega)]; exact h6
  · rw [g, ud_n (by omega)]; exact h7
  · rw [g, ud_n (by omega)]; exact h8
  · by_cases e : j = z
    · rw [e, mu_s, ud_s]
    · rw [mu_i e, ud_n (by omega)]; exact h9 j j0 j1
  · rw [mu_o (by omega), ud_n (by omega)]; exact h10 j j0 j1
theorem StW.a2 {z v : Int} (h : StW μ o s) (z0 : 0 ≤ z) (z1 : z < 10) : StW (mu μ (o + 2) z v) o (ud s (18 + z) v) := by
  obtain ⟨h1, h2, h3, h4, h5, h6, h7, h8, h9, h10⟩ := h
  have g : ∀ i, mu μ (o + 2) z v o i = μ o i := fun i => mu_o (by omega)
  refine ⟨?_, ?_, ?_, ?_, ?_, ?_, ?_, ?_, fun j j0 j1 => ?_, fun j j0 j1 => ?_⟩
  · rw [g, ud_n (by omega)]; exact h1
  · rw [g, ud_n (by omega)]; exact h2
  · rw [g, ud_n (by omega)]; exact h3
  · rw [g, ud_n (by omega)]; exact h4
  · rw [g, ud_n (by omega)]; exact h5
  · rw [g, ud_n (by omega)]; exact h6
  · rw [g, ud_n (by omega)]; exact h7
  · rw [g, ud_n (by omega)]; exact h8
  · rw [mu_o (by omega), ud_n (by omega)]; exact h9 j j0 j1
  · by_cases e : j = z
    · rw [e, mu_s, ud_s]
    · rw [mu_i e, ud_n (by omega)]; exact h10 j j0 j1
theorem WW.ep {T : Nat → Int → Prop} {p : Nat} {c : Int} {L : Int → Int} {X : Int → Int → Int} (h : WW μ p c L X) (e : Ep T μ μ') (h0 : ∀ k i, k < 4 → ¬ T (p + k) i) : WW μ' p c L X :=
  ⟨by rw [e p _ (h0 0 _ (by omega))]; exact h.1, h.2.1, h.2.2.1, fun i i0 i1 => by rw [e _ _ (h0 2 _ (by omega))]; exact h.2.2.2.1 i i0 i1, fun i k i0 i1 k0 k1 => by rw [e _ _ (h0 3 _ (by omega))]; exact h.2.2.2.2 i k i0 i1 k0 k1⟩
theorem KW.ep {T : Nat → Int → Prop} (h : KW μ K) (e : Ep T μ μ') (h0 : ∀ k i, 28 ≤ k → k < 49 → k ≠ 35 → ¬ T k i) : KW μ' K := by
  obtain ⟨h1, h2, h3, h4, h5, h6⟩ := h
  have g : ∀ k i, 28 ≤ k → k < 49 → k ≠ 35 → μ' k i = μ k i := fun k i a b c => e k i (h0 k i a b c)
  refine ⟨h1.ep e (fun k i hk => h0 _ i (by omega) (by omega) (by omega)), h2.ep e (fun k i hk => h0 _ i (by omega) (by omega) (by omega)), fun i i0 i1 => by rw [g _ _ (by omega) (by omega) (by omega)]; exact h3 i i0 i1, h4.ep e (fun k i hk => h0 _ i (by omega) (by omega) (by omega)), by rw [g _ _ (by omega) (by omega) (by omega)]; exact h5, fun i i0 i1 => ?_⟩
  rw [g 45 _ (by omega) (by omega) (by omega), g 46 _ (by omega) (by omega) (by omega), g 47 _ (by omega) (by omega) (by omega), g 48 _ (by omega) (by omega) (by omega)]
  exact h6 i i0 i1
theorem KW.dy (h : KW μ K) (e : Ep (Sw o) μ μ') (ho : ow o th) : KW μ' K := h.ep e fun k i k0 k1 k2 => by
  have := ho.1
  unfold Sw
  omega
theorem fcg {s g g' : Int → Int} {X : Int → Int → Int} {i a b : Int} {m : Nat} (h : ∀ z, 0 ≤ z → z < 10 → g z = g' z) (hX : ∀ k : Int, 0 ≤ k → k < m → 0 ≤ X i k ∧ X i k ≤ 9) : fcZ s g a b (mnZ X i g 99 m) = fcZ s g' a b (mnZ X i g' 99 m) := by
  have e1 : su (fun i => g i) 10 = su (fun i => g' i) 10 := su_c _ (fun i hi => h i (by omega) (by omega))
  have e2 : ∀ m : Nat, (∀ k : Int, 0 ≤ k → k < m → 0 ≤ X i k ∧ X i k ≤ 9) → mnZ X i g 99 m = mnZ X i g' 99 m := by
    intro m
    induction m with
    | zero => intro _; rfl
    | succ m ih =>
      intro hX
      have := hX m (by omega) (by omega)
      show min _ _ = min _ _
      rw [ih (fun k k0 k1 => hX k k0 (by omega)), h _ this.1 (by omega)]
  rw [e2 m hX]
  funext k
  unfold fcZ
  rw [e1]
theorem lkg {g g' : Int → Int} {X : Int → Int → Int} {i : Int} {m : Nat} (h : ∀ z, 0 ≤ z → z < 10 → g z = g' z) : lk X i m g = lk X i m g' := by
  unfold lk
  exact su_c _ (fun z hz => by rw [h z (by omega) (by omega)])
theorem ow9 (ho : ow o th) : cls o = 9 ∧ cls (o + 1) = 100 ∧ aln (o + 1) = 10 ∧ o ≠ 23 := by
  rcases ho.1 with rfl | rfl <;> decide
theorem DW.N (h : DW μ o th x S) : (μ 23 5).toNat = o := by rw [h.1]; simp
/-- what is asked, what lacks -/
theorem a32j {w : Int} {i : Int} (hd : 4 ≤ d) (hK : KW μ K) (ok : KOK K) (ho : ow o th) (hD : DW μ o th x S) (hb : DB x) (i0 : 0 ≤ i) (i1 : i < jc K) (w0 : 0 ≤ w) (w2 : w ≤ 2) (h : ∀ μ', Ep (Sw o) μ μ' → DW μ' o th x S → f (fJ K w i x) μ') : Ct E d 32 [.inr 23, .inl w, .inr 36, .inl i] μ (rI f) := by
  have wl := ok.2.1.2.2.1 i i0 i1
  refine s32j hd hK.2.1 i0 i1 wl.1 hK.2.1.1 ho.1 hD.1 hD.2.2.1 hb.1 (fun z z0 z1 => by rw [hD.2.2.2.1 z z0 z1]; exact hb.2.1 z z0 z1) hK.1 ok.1 w0 w2 (fun μ' h1 => ?_)
  have e1 := fcg (s := x.1) (a := jc K) (b := jL K i) (X := jX K) (i := i) (m := (jL K i).toNat) hD.2.2.2.1 (fun k k0 k1 => ok.2.1.2.2.2 i k i0 i1 k0 (by omega))
  rw [e1]
  have hE : Ep (Sw o) μ μ' := h1.mono (fun a i k => by unfold Sw; omega)
  have g : ∀ a i, a ≠ 35 → a ≠ 63 → μ' a i = μ a i := fun a i n1 n2 => h1 a i (by show ¬ (a = 35 ∨ a = 63); omega)
  have ho1 := ho.1
  refine h μ' hE ⟨by rw [g _ _ (by omega) (by omega)]; exact hD.1, by rw [g _ _ (by omega) (by omega)]; exact hD.2.1, hD.2.2.1.ep h1 (fun k i hk => by show ¬ (o + k = 35 ∨ o + k = 63); omega), fun z z0 z1 => by rw [g _ _ (by omega) (by omega)]; exact hD.2.2.2.1 z z0 z1, fun z z0 z1 => by rw [g _ _ (by omega) (by omega)]; exact hD.2.2.2.2.1 z z0 z1, fun j hj hs => by rw [g _ _ (by omega) (by omega)]; exact hD.2.2.2.2.2 j hj hs⟩
theorem a32 {i : Int} (hd : 4 ≤ d) (hK : KW μ K) (ok : KOK K) (ho : ow o th) (hD : DW μ o th x S) (hb : DB x) (i0 : 0 ≤ i) (i1 : i < bc K) (h : ∀ μ', Ep (Sw o) μ μ' → DW μ' o th x S → f (fB K i x) μ') : Ct E d 32 [.inr 23, .inl 2, .inr 40, .inl i] μ (rI f) := by
  have wl := ok.2.2.2.1.2.2.1 i i0 i1
  refine s32 hd hK.2.2.2.1 i0 i1 wl.1 hK.2.1.1 ho.1 hD.1 hD.2.2.1 hb.1 (fun z z0 z1 => by rw [hD.2.2.2.1 z z0 z1]; exact hb.2.1 z z0 z1) hK.1 ok.1 (by omega) (by omega) (fun μ' h1 => ?_)
  have e1 := fcg (s := x.1) (a := jc K) (b := bL K i) (X := bX K) (i := i) (m := (bL K i).toNat) hD.2.2.2.1 (fun k k0 k1 => ok.2.2.2.1.2.2.2 i k i0 i1 k0 (by omega))
  rw [e1]
  have hE : Ep (Sw o) μ μ' := h1.mono (fun a i k => by unfold Sw; omega)
  have g : ∀ a i, a ≠ 35 → a ≠ 63 → μ' a i = μ a i := fun a i n1 n2 => h1 a i (by show ¬ (a = 35 ∨ a = 63); omega)
  have ho1 := ho.1
  refine h μ' hE ⟨by rw [g _ _ (by omega) (by omega)]; exact hD.1, by rw [g _ _ (by omega) (by omega)]; exact hD.2.1, hD.2.2.1.ep h1 (fun k i hk => by show ¬ (o + k = 35 ∨ o + k = 63); omega), fun z z0 z1 => by rw [g _ _ (by omega) (by omega)]; exact hD.2.2.2.1 z z0 z1, fun z z0 z1 => by rw [g _ _ (by omega) (by omega)]; exact hD.2.2.2.2.1 z z0 z1, fun j hj hs => by rw [g _ _ (by omega) (by omega)]; exact hD.2.2.2.2.2 j hj hs⟩
/-- the boxes alone have changed -/
theorem DW.bx {g : Int → Int} (hD : DW μ o th x S) (ho : ow o th) (h1 : Eo 62 μ μ') (hg : ∀ z, 0 ≤ z → z < 10 → μ' 62 z = g z) : DW μ' o th (x.1, g, x.2.2) S := by
  have ho1 := ho.1
  exact ⟨by rw [h1 _ _ (by omega)]; exact hD.1, by rw [h1 _ _ (by omega)]; exact hD.2.1, hD.2.2.1.ep (Ep.of (T := fun a _ => a = 62) h1 (fun _ => rfl)) (fun k i hk => by show ¬ (o + k = 62); omega), hg, fun z z0 z1 => by rw [h1 _ _ (by omega)]; exact hD.2.2.2.2.1 z z0 z1, fun j hj hs => by rw [h1 _ _ (by omega)]; exact hD.2.2.2.2.2 j hj hs⟩
theorem Sw62 : ∀ i, Sw o 62 i := fun _ => by unfold Sw; omega
theorem a31j {i : Int} (hd : 4 ≤ d) (hK : KW μ K) (ok : KOK K) (ho : ow o th) (hD : DW μ o th x S) (hb : DB x) (i0 : 0 ≤ i) (i1 : i < jc K) (h : ∀ μ', Ep (Sw o) μ μ' → DW μ' o th x S → Φ (some (.inl (lk (jX K) i (jL K i).toNat x.2.1))) μ') : Ct E d 31 [.inr 23, .inr 36, .inl i] μ Φ := by
  refine s31j hd hK.2.1 i0 i1 (fun z z0 z1 => by rw [hD.2.2.2.1 z z0 z1]; have := hb.2.1 z z0 z1; omega) (fun μ' h1 hg => ?_)
  rw [lkg (g' := x.2.1) hD.2.2.2.1]
  exact h μ' (Ep.of h1 Sw62) (hD.bx ho h1 (fun z z0 z1 => by rw [hg z z0 z1]; exact hD.2.2.2.1 z z0 z1))
theorem a31 {i : Int} (hd : 4 ≤ d) (hK : KW μ K) (ok : KOK K) (ho : ow o th) (hD : DW μ o th x S) (hb : DB x) (i0 : 0 ≤ i) (i1 : i < bc K) (h : ∀ μ', Ep (Sw o) μ μ' → DW μ' o th x S → Φ (some (.inl (lk (bX K) i (bL K i).toNat x.2.1))) μ') : Ct E d 31 [.inr 23, .inr 40, .inl i] μ Φ := by
  refine s31 hd hK.2.2.2.1 i0 i1 (fun z z0 z1 => by rw [hD.2.2.2.1 z z0 z1]; have := hb.2.1 z z0 z1; omega) (fun μ' h1 hg => ?_)
  rw [lkg (g' := x.2.1) hD.2.2.2.1]
  exact h μ' (Ep.of h1 Sw62) (hD.bx ho h1 (fun z z0 z1 => by rw [hg z z0 z1]; exact hD.2.2.2.1 z z0 z1))
/-- a line of the tray -/
theorem a29 {a b c : Int} (hd : 1 ≤ d) (ho : ow o th) (hD : DW μ o th x S) (hb : StB x.1) (h : ∀ μ', Ep (Sw o) μ μ' → DW μ' o th (nt th a b c x) S → Φ none μ') : Ct E d 29 [.inr 23, .inl a, .inl b, .inl c] μ Φ := by
  have hN := hD.N
  obtain ⟨c9, -, -, n23⟩ := ow9 ho
  have ho1 := ho.1
  have ho2 := ho.2.1
  obtain ⟨t1, t2, t3, t4, t5, t6, t7, t8, t9, t10⟩ := hD.2.2.1
  have b2 := hb.2.1
  have h6 := hD.2.1
  refine v29 hd ?_
  rw [hN, h6, t3, t1]
  have same : th ≠ 0 ∨ 150 ≤ x.1 2 → Φ none μ := fun k => by
    have e : nt th a b c x = x := by
      unfold nt ntS ntT
      rw [if_pos k, if_pos k]
    rw [e] at h
    exact h μ Ep.rf hD
  refine ⟨inR_of (by omega) (by omega), fun k => same (Or.inl k), fun k => ⟨c9, inR_of (by omega) (by omega), fun k2 => ⟨c9, c9, ⟨by omega, by omega⟩, ⟨by omega, by omega⟩, ⟨by omega, by omega⟩, ⟨by omega, by omega⟩, c9, c9, ?_⟩, fun k2 => same (Or.inr k2)⟩⟩
  have nk : ¬ (th ≠ 0 ∨ 150 ≤ x.1 2) := by omega
  have e4 : ∀ v0 v1 v2 v3 i0 i1 i2 i3 : Int, mu (mu (mu (mu μ 58 i0 v0) 58 i1 v1) 58 i2 v2) 58 i3 v3 o 9 = μ o 9 := fun v0 v1 v2 v3 i0 i1 i2 i3 => by
    rw [mu_o (by omega), mu_o (by omega), mu_o (by omega), mu_o (by omega)]
  rw [e4, t3]
  refine h _ (((((Ep.rf.mu (by unfold Sw; omega)).mu (by unfold Sw; omega)).mu (by unfold Sw; omega)).mu (by unfold Sw; omega)).mu (by unfold Sw; omega)) ⟨?_, ?_, ?_, fun z z0 z1 => ?_, fun j j0 j1 => ?_, fun j hj hs => ?_⟩
  · rw [mu_o (by omega), mu_o (by omega), mu_o (by omega), mu_o (by omega), mu_o (by omega)]; exact hD.1
  · rw [mu_o (by omega), mu_o (by omega), mu_o (by omega), mu_o (by omega), mu_o (by omega)]; exact hD.2.1
  · show StW _ o (ntS th x.1)
    unfold ntS
    rw [if_neg nk]
    refine StW.fl ?_ (Or.inr (Or.inr (Or.inl ⟨rfl, rfl, rfl⟩)))
    exact hD.2.2.1.ep (T := fun a _ => a = 58) ((((Ep.rf.mu rfl).mu rfl).mu rfl).mu rfl) (fun k i hk => by show ¬ (o + k = 58); omega)
  · rw [mu_o (by omega), mu_o (by omega), mu_o (by omega), mu_o (by omega), mu_o (by omega)]; exact hD.2.2.2.1 z z0 z1
  · show _ = ntT th a b c x.1 x.2.2.1 j
    unfold ntT
    rw [if_neg nk, mu_o (by omega)]
    have hj := hD.2.2.2.2.1 j j0 j1
    unfold mu ud
    simp only [true_and, show x.1 2 * 4 = 4 * x.1 2 by omega]
    rw [hj]
  · rw [mu_o (by omega), mu_o (by omega), mu_o (by omega), mu_o (by omega), mu_o (by omega)]; exact hD.2.2.2.2.2 j hj hs
/-- whether it happens -/
theorem iRem_in (a b : Int) : inR (iRem a b) := tmod_in (w32_in a)
theorem a28 {a : Int} (hd : 2 ≤ d) (ho : ow o th) (hD : DW μ o th x S) (ha : inR a) (h : ∀ μ', Ep (Sw o) μ μ' → DW μ' o th (hp th a x) S → Φ (some (.inl (hpZ th a x.1))) μ') : Ct E d 28 [.inr 23, .inl a] μ Φ := by
  have hN := hD.N
  obtain ⟨c9, -, -, n23⟩ := ow9 ho
  have ho1 := ho.1
  have ho2 := ho.2.1
  have h6 := hD.2.1
  refine v28 (by omega) ?_
  rw [hN, h6]
  refine ⟨inR_of (by omega) (by omega), fun k => ⟨ha, fun k2 => ?_, fun k2 => ⟨c9, ?_⟩⟩, fun k => ⟨ha, fun k2 => ?_, fun k2 => ?_⟩⟩
  · have e : hp th a x = x := by unfold hp hpS; rw [if_neg (by omega)]
    rw [e] at h
    exact fe (h μ Ep.rf hD) (by unfold hpZ; rw [if_pos k, if_neg (by omega)])
  · have o25 := ho.2.2 k
    subst o25
    have t2 : μ 25 8 = x.1 1 := hD.2.2.1.2.1
    refine v98 (by omega) ?_
    rw [t2, show x.1 1 * 1664525 + 1013904223 = 1664525 * x.1 1 + 1013904223 by omega]
    have e : hp th a x = (ud x.1 1 (1664525 * x.1 1 + 1013904223), x.2) := by unfold hp hpS; rw [if_pos ⟨k, k2⟩]
    have hh := h (mu μ 25 8 (1664525 * x.1 1 + 1013904223)) (Ep.rf.mu (by unfold Sw; omega)) (by
      rw [e]
      exact ⟨by rw [mu_o (by omega)]; exact hD.1, by rw [mu_o (by omega)]; exact hD.2.1, hD.2.2.1.fl (Or.inr (Or.inl ⟨rfl, rfl, rfl⟩)), fun z z0 z1 => by rw [mu_o (by omega)]; exact hD.2.2.2.1 z z0 z1, fun z z0 z1 => by rw [mu_o (by omega)]; exact hD.2.2.2.2.1 z z0 z1, fun j hj hs => by rw [mu_o (by omega)]; exact hD.2.2.2.2.2 j hj hs⟩)
    refine ⟨iRem_in _ _, ha, fun k3 => fe hh ?_, fun k3 => fe hh ?_⟩
    · unfold hpZ drw; rw [if_pos k, if_neg (by omega)]
    · unfold hpZ drw; rw [if_pos k, if_pos ⟨k2, k3⟩]
  · have e : hp th a x = x := by unfold hp hpS; rw [if_neg (by omega)]
    rw [e] at h
    exact fe (h μ Ep.rf hD) (by unfold hpZ; rw [if_neg k, if_neg (by omega)])
  · have e : hp th a x = x := by unfold hp hpS; rw [if_neg (by omega)]
    rw [e] at h
    exact fe (h μ Ep.rf hD) (by unfold hpZ; rw [if_neg k, if_pos k2])
end S32
