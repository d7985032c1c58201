/-! a day in the reference -/
def DM (μ : Mm) (th : Int) (x : Dy) (S : Int) : Prop := μ 123 5 = th ∧ StM μ 124 0 x.1 ∧ (∀ z, 0 ≤ z → z < 10 → μ 144 z = x.2.1 z) ∧ (∀ i, 0 ≤ i → i < 600 → μ 127 i = x.2.2.1 i) ∧ ∀ i : Nat, i < 16 → iAnd (iShr S i) 1 = 1 → μ 145 i = x.2.2.2 i
def Sm : Nat → Int → Prop := fun x _ => x = 124 ∨ x = 127 ∨ x = 142 ∨ x = 143 ∨ x = 144 ∨ x = 145
section S35
variable {E : En} {d : Nat} {f : Int → Mm → Prop} {Φ : Option AV → Mm → Prop} {μ μ' : Mm} {th S : Int} {x : Dy} {K : Kt} {s t : Int → Int}
theorem WM.ep {T : Nat → Int → Prop} {q b c : Int} {L : Int → Int} {X : Int → Int → Int} (h : WM μ q b c L X) (e : Ep T μ μ') (h0 : ∀ k i, k = 123 ∨ k = 138 ∨ k = 139 → ¬ T k i) : WM μ' q b c L X :=
  ⟨by rw [e 123 _ (h0 123 _ (by omega))]; exact h.1, h.2.1, h.2.2.1, fun i i0 i1 => by rw [e 138 _ (h0 138 _ (by omega))]; exact h.2.2.2.1 i i0 i1, fun i k i0 i1 k0 k1 => by rw [e 139 _ (h0 139 _ (by omega))]; exact h.2.2.2.2 i k i0 i1 k0 k1⟩
theorem KM.ep {T : Nat → Int → Prop} (h : KM μ K) (e : Ep T μ μ') (h0 : ∀ k i, k = 123 ∨ (130 ≤ k ∧ k < 142 ∧ k ≠ 137) → ¬ T k i) : KM μ' K := by
  obtain ⟨h1, h2, h3, h4, h5, h6⟩ := h
  have g : ∀ k i, k = 123 ∨ (130 ≤ k ∧ k < 142 ∧ k ≠ 137) → μ' k i = μ k i := fun k i a => e k i (h0 k i a)
  refine ⟨h1.ep e (fun k i k0 k1 => h0 _ i (by omega)), h2.ep e (fun k i hk => h0 _ i (by omega)), fun i i0 i1 => by rw [g 140 _ (by omega)]; exact h3 i i0 i1, h4.ep e (fun k i hk => h0 _ i (by omega)), by rw [g 123 _ (by omega)]; exact h5, fun i i0 i1 => ?_⟩
  rw [g 141 _ (by omega), g 141 _ (by omega), g 141 _ (by omega), g 141 _ (by omega)]
  exact h6 i i0 i1
theorem KM.dy (h : KM μ K) (e : Ep Sm μ μ') : KM μ' K := h.ep e fun k i hk => by unfold Sm; omega
theorem StM.mu {i v : Int} (h : StM μ 124 0 s) : StM (mu μ 124 i v) 124 0 (ud s i v) := fun j j0 j1 => by
  have := h j j0 j1
  rw [Int.zero_add] at this ⊢
  by_cases e : j = i
  · rw [e, mu_s, ud_s]
  · rw [mu_i e, ud_n e]; exact this
theorem StM.at {i : Int} (h : StM μ 124 0 s) (i0 : 0 ≤ i) (i1 : i < 28) : μ 124 i = s i := by
  have := h i i0 i1
  rwa [Int.zero_add] at this
theorem StM.ep {T : Nat → Int → Prop} {a : Nat} {b : Int} (h : StM μ a b s) (e : Ep T μ μ') (h0 : ∀ i, ¬ T a i) : StM μ' a b s := fun j j0 j1 => by rw [e _ _ (h0 _)]; exact h j j0 j1
theorem DM.ep {T : Nat → Int → Prop} (hD : DM μ th x S) (e : Ep T μ μ') (h0 : ∀ k i, k = 123 ∨ k = 124 ∨ k = 127 ∨ k = 144 ∨ k = 145 → ¬ T k i) : DM μ' th x S :=
  ⟨by rw [e _ _ (h0 _ _ (by omega))]; exact hD.1, hD.2.1.ep e (fun i => h0 _ i (by omega)), fun z z0 z1 => by rw [e _ _ (h0 _ _ (by omega))]; exact hD.2.2.1 z z0 z1, fun z z0 z1 => by rw [e _ _ (h0 _ _ (by omega))]; exact hD.2.2.2.1 z z0 z1, fun j hj hs => by rw [e _ _ (h0 _ _ (by omega))]; exact hD.2.2.2.2 j hj hs⟩
theorem DM.fl {i v : Int} (hD : DM μ th x S) : DM (mu μ 124 i v) th (ud x.1 i v, x.2) S :=
  ⟨by rw [mu_o (by decide)]; exact hD.1, hD.2.1.mu, fun z z0 z1 => by rw [mu_o (by decide)]; exact hD.2.2.1 z z0 z1, fun z z0 z1 => by rw [mu_o (by decide)]; exact hD.2.2.2.1 z z0 z1, fun j hj hs => by rw [mu_o (by decide)]; exact hD.2.2.2.2 j hj hs⟩
theorem DM.bx {g : Int → Int} (hD : DM μ th x S) (h1 : Eo 144 μ μ') (hg : ∀ z, 0 ≤ z → z < 10 → μ' 144 z = g z) : DM μ' th (x.1, g, x.2.2) S :=
  ⟨by rw [h1 _ _ (by decide)]; exact hD.1, hD.2.1.ep (Ep.of (T := fun a _ => a = 144) h1 (fun _ => rfl)) (fun i => by show ¬ (124 = 144); decide), hg, fun z z0 z1 => by rw [h1 _ _ (by decide)]; exact hD.2.2.2.1 z z0 z1, fun j hj hs => by rw [h1 _ _ (by decide)]; exact hD.2.2.2.2 j hj hs⟩
/-- what is asked, what lacks -/
theorem DM.law (hD : DM μ th x S) (h1 : Ep (fun o _ => o = 142 ∨ o = 143) μ μ') : DM μ' th x S ∧ Ep Sm μ μ' := ⟨hD.ep h1 (fun k i hk => by show ¬ (k = 142 ∨ k = 143); omega), h1.mono (fun a i k => by unfold Sm; omega)⟩
theorem b217 {i : Nat} (hd : 5 ≤ d) (hK : KM μ K) (ok : KOK K) (hD : DM μ th x S) (hb : DB x) (i1 : (i : Int) < jc K) (h : ∀ μ', Ep Sm μ μ' → DM μ' th x S → f (fJ K 0 i x) μ') : Ct E d 217 [.inr 123, .inl (i : Int)] μ (rI f) := by
  have wl := ok.2.1.2.2.1 i (by omega) i1
  have := s217 (f := f) (E := E) (i := i) hd (by omega) (by omega) hK.2.1 i1 wl.1 hK.2.1.1 hD.2.1 hb.1 (fun z z0 z1 => by rw [hD.2.2.1 z z0 z1]; exact hb.2.1 z z0 z1) hK.1 ok.1 (fun μ' h1 => by
    rw [fcg (g' := x.2.1) hD.2.2.1 (fun k k0 k1 => ok.2.1.2.2.2 i k (by omega) i1 k0 (by omega))]
    exact h μ' (hD.law h1).2 (hD.law h1).1)
  rwa [Int.zero_add] at this
theorem b218 {i : Nat} (hd : 5 ≤ d) (hK : KM μ K) (ok : KOK K) (hD : DM μ th x S) (hb : DB x) (i1 : (i : Int) < jc K) (h : ∀ μ', Ep Sm μ μ' → DM μ' th x S → f (fJ K 1 i x) μ') : Ct E d 218 [.inr 123, .inl (i : Int)] μ (rI f) := by
  have wl := ok.2.1.2.2.1 i (by omega) i1
  have := s218 (f := f) (E := E) (i := i) hd (by omega) (by omega) hK.2.1 i1 wl.1 hK.2.1.1 hD.2.1 hb.1 (fun z z0 z1 => by rw [hD.2.2.1 z z0 z1]; exact hb.2.1 z z0 z1) hK.1 ok.1 (fun μ' h1 => by
    rw [fcg (g' := x.2.1) hD.2.2.1 (fun k k0 k1 => ok.2.1.2.2.2 i k (by omega) i1 k0 (by omega))]
    exact h μ' (hD.law h1).2 (hD.law h1).1)
  rwa [Int.zero_add] at this
theorem b219 {i : Nat} (hd : 5 ≤ d) (hK : KM μ K) (ok : KOK K) (hD : DM μ th x S) (hb : DB x) (i1 : (i : Int) < bc K) (h : ∀ μ', Ep Sm μ μ' → DM μ' th x S → f (fB K i x) μ') : Ct E d 219 [.inr 123, .inl (16 + (i : Int))] μ (rI f) := by
  have wl := ok.2.2.2.1.2.2.1 i (by omega) i1
  exact s219 (f := f) (E := E) (i := i) hd (by omega) (by omega) hK.2.2.2.1 i1 wl.1 hK.2.1.1 hD.2.1 hb.1 (fun z z0 z1 => by rw [hD.2.2.1 z z0 z1]; exact hb.2.1 z z0 z1) hK.1 ok.1 (fun μ' h1 => by
    rw [fcg (g' := x.2.1) hD.2.2.1 (fun k k0 k1 => ok.2.2.2.1.2.2.2 i k (by omega) i1 k0 (by omega))]
    exact h μ' (hD.law h1).2 (hD.law h1).1)
theorem b212j {i : Nat} (hd : 3 ≤ d) (hK : KM μ K) (hD : DM μ th x S) (hb : DB x) (i1 : (i : Int) < jc K) (h : Φ (some (.inl (lk (jX K) i (jL K i).toNat x.2.1))) μ) : Ct E d 212 [.inr 123, .inl (i : Int)] μ Φ := by
  have := s212 (Φ := Φ) (E := E) (i := i) hd (by omega) (by omega) hK.2.1 i1 (fun z z0 z1 => by rw [hD.2.2.1 z z0 z1]; have := hb.2.1 z z0 z1; omega) (by rw [lkg (g' := x.2.1) hD.2.2.1]; exact h)
  rwa [Int.zero_add] at this
theorem b212 {i : Nat} (hd : 3 ≤ d) (hK : KM μ K) (hD : DM μ th x S) (hb : DB x) (i1 : (i : Int) < bc K) (h : Φ (some (.inl (lk (bX K) i (bL K i).toNat x.2.1))) μ) : Ct E d 212 [.inr 123, .inl (16 + (i : Int))] μ Φ :=
  s212 (Φ := Φ) (E := E) (i := i) hd (by omega) (by omega) hK.2.2.2.1 i1 (fun z z0 z1 => by rw [hD.2.2.1 z z0 z1]; have := hb.2.1 z z0 z1; omega) (by rw [lkg (g' := x.2.1) hD.2.2.1]; exact h)
/-- a line of the tray -/
theorem b220 {a b c : Int} (hd : 1 ≤ d) (hth : th = 0 ∨ th = 1) (hD : DM μ th x S) (hb : StB x.1) (h : ∀ μ', Ep Sm μ μ' → DM μ' th (nt th a b c x) S → Φ none μ') : Ct E d 220 [.inr 123, .inl a, .inl b, .inl c] μ Φ := by
  have t3 := hD.2.1.at (i := 2) (by omega) (by omega)
  have t1 := hD.2.1.at (i := 0) (by omega) (by omega)
  have b2 := hb.2.1
  have h6 := hD.1
  refine v220 hd ?_
  rw [h6, t3, t1]
  have same : th ≠ 0 ∨ 150 ≤ x.1 2 → Φ none μ := fun k => by
    have e : nt th a b c x = x := by
      unfold nt ntS ntT
      rw [if_pos k, if_pos k]
    rw [e] at h
    exact h μ Ep.rf hD
  refine ⟨inR_of (by omega) (by omega), fun k => same (Or.inl k), fun k => ⟨inR_of (by omega) (by omega), fun k2 => ⟨⟨by omega, by omega⟩, ⟨by omega, by omega⟩, ⟨by omega, by omega⟩, ⟨by omega, by omega⟩, ?_⟩, fun k2 => same (Or.inr (by omega))⟩⟩
  have nk : ¬ (th ≠ 0 ∨ 150 ≤ x.1 2) := by omega
  refine h _ (((((Ep.rf.mu (by unfold Sm; omega)).mu (by unfold Sm; omega)).mu (by unfold Sm; omega)).mu (by unfold Sm; omega)).mu (by unfold Sm; omega)) ⟨?_, ?_, fun z z0 z1 => ?_, fun j j0 j1 => ?_, fun j hj hs => ?_⟩
  · rw [mu_o (by omega), mu_o (by omega), mu_o (by omega), mu_o (by omega), mu_o (by omega)]; exact hD.1
  · show StM _ 124 0 (ntS th x.1)
    unfold ntS
    rw [if_neg nk]
    refine StM.mu ?_
    exact hD.2.1.ep (T := fun a _ => a = 127) ((((Ep.rf.mu rfl).mu rfl).mu rfl).mu rfl) (fun i => by show ¬ (124 = 127); omega)
  · rw [mu_o (by omega), mu_o (by omega), mu_o (by omega), mu_o (by omega), mu_o (by omega)]; exact hD.2.2.1 z z0 z1
  · show _ = ntT th a b c x.1 x.2.2.1 j
    unfold ntT
    rw [if_neg nk, mu_o (by omega)]
    have hj := hD.2.2.2.1 j j0 j1
    unfold mu ud
    simp only [true_and]
    rw [hj]
  · rw [mu_o (by omega), mu_o (by omega), mu_o (by omega), mu_o (by omega), mu_o (by omega)]; exact hD.2.2.2.2 j hj hs
theorem b226 {a : Int} (hd : 2 ≤ d) (hth : th = 0 ∨ th = 1) (hD : DM μ th x S) (ha : 0 ≤ a ∧ a ≤ 1000) (h : ∀ μ', Ep Sm μ μ' → DM μ' th (hp th a x) S → Φ (some (.inl (hpZ th a x.1))) μ') : Ct E d 226 [.inr 123, .inl a] μ Φ := by
  have h6 := hD.1
  have ha2 : inR a := inR_of (by omega) (by omega)
  refine v226 (by omega) ?_
  rw [h6]
  refine ⟨inR_of (by omega) (by omega), fun k => ⟨ha2, fun k2 => ?_, fun k2 => ?_⟩, fun k => ⟨inR_of (by omega) (by omega), fun k2 => ?_, fun k2 => ?_⟩⟩
  · have e : hp th a x = x := by unfold hp hpS; rw [if_neg (by omega)]
    rw [e] at h
    exact fe (h μ Ep.rf hD) (by unfold hpZ; rw [if_pos k, if_neg (by omega)])
  · have t2 := hD.2.1.at (i := 1) (by omega) (by omega)
    refine v164 (by omega) ⟨by decide, ?_⟩
    rw [t2]
    have e : hp th a x = (ud x.1 1 (1664525 * x.1 1 + 1013904223), x.2) := by unfold hp hpS; rw [if_pos ⟨k, k2⟩]
    have hh := h (mu μ 124 1 (1664525 * x.1 1 + 1013904223)) (Ep.rf.mu (by unfold Sm; omega)) (by rw [e]; exact hD.fl)
    refine ⟨iRem_in _ _, ha2, fun k3 => fe hh ?_, fun k3 => fe hh ?_⟩
    · unfold hpZ drw; rw [if_pos k, if_neg (by omega)]
    · unfold hpZ drw; rw [if_pos k, if_pos ⟨k2, k3⟩]
  · have e : hp th a x = x := by unfold hp hpS; rw [if_neg (by omega)]
    rw [e] at h
    exact fe (h μ Ep.rf hD) (by unfold hpZ; rw [if_neg k, if_neg (by omega)])
  · have e : hp th a x = x := by unfold hp hpS; rw [if_neg (by omega)]
    rw [e] at h
    exact fe (h μ Ep.rf hD) (by unfold hpZ; rw [if_neg k, if_pos (by omega)])
theorem Sm144 : ∀ i, Sm 144 i := fun _ => by unfold Sm; omega
theorem Sm124 {i : Int} : Sm 124 i := Or.inl rfl
theorem b221 {i : Nat} (hd : 6 ≤ d) (hth : th = 0 ∨ th = 1) (hK : KM μ K) (ok : KOK K) (hD : DM μ th x S) (hb : DB x) (i1 : (i : Int) < jc K) (hl : lk (jX K) i (jL K i).toNat x.2.1 ≤ 0) (h : ∀ μ', Ep Sm μ μ' → DM μ' th (stM K th i x) S → f (sjB K i x) μ') : Ct E d 221 [.inr 123, .inl (i : Int)] μ (rI f) := by
  have c16 := ok.2.1.2.1
  have h213 := s213 (E := E) (d := d - 1) (i := i) (Φ := rV fun μ1 => Ct E (d - 1) 218 [.inr 123, .inl (i : Int)] (mu (mu μ1 124 7 (iOr (μ1 124 7) (iShl 1 (i : Int)))) 124 5 ((μ1 124 5) + 1)) (rI fun z3 μ2 => Ct E (d - 1) 220 [.inr 123, .inl 0, .inl (i : Int), .inl z3] μ2 (rV fun μ4 => (rI f) (some (.inl z3)) μ4))) (by omega) (by omega) (by omega) hK.2.1 i1 (fun μ1 h1 hg => by
    have hD1 : DM μ1 th (tk (jX K) i (jL K i).toNat x) S := hD.bx h1 (fun z z0 z1 => by rw [hg z z0 z1, hD.2.2.1 z z0 z1])
    have e7 : μ1 124 7 = x.1 7 := hD1.2.1.at (by omega) (by omega)
    have e5 : μ1 124 5 = x.1 5 := hD1.2.1.at (by omega) (by omega)
    simp only [rV]
    rw [e7, e5]
    have hD2 : DM (mu (mu μ1 124 7 (iOr (x.1 7) (iShl 1 (i : Int)))) 124 5 (x.1 5 + 1)) th (sjY K i x) S := hD1.fl.fl
    have hE1 : Ep Sm μ (mu (mu μ1 124 7 (iOr (x.1 7) (iShl 1 (i : Int)))) 124 5 (x.1 5 + 1)) := ((Ep.of h1 Sm144).mu Sm124).mu Sm124
    have hb2 : DB (sjY K i x) := sjY_b (by omega) hb hl
    exact b218 (by omega) (hK.dy hE1) ok hD2 hb2 i1 (fun μ3 h3 hD3 => b220 (by omega) hth hD3 hb2.1 (fun μ4 h4 hD4 => h μ4 ((hE1.tr h3).tr h4) hD4)))
  rw [Int.zero_add] at h213
  exact v221 (by omega) h213
/-- the jobs -/
theorem b228 (hd : 7 ≤ d) (hth : th = 0 ∨ th = 1) (hK : KM μ K) (ok : KOK K) (hD : DM μ th x 0) (hb : DB x) (h : ∀ μ', Ep Sm μ μ' → DM μ' th (jsR K th (x, 0) (jc K).toNat).1 (jsR K th (x, 0) (jc K).toNat).2 → Φ (some (.inl (jsR K th (x, 0) (jc K).toNat).2)) μ') : Ct E d 228 [.inr 123] μ Φ := by
  have c0 := ok.2.1.1
  have c16 := ok.2.1.2.1
  have key : ∀ (m i : Nat) (μ1 : Mm), (i : Int) + m = jc K → Ep Sm μ μ1 → DM μ1 th (jsR K th (x, 0) i).1 (jsR K th (x, 0) i).2 → G E d 228 Φ 4 [some (.inr 123), some (.inl (jsR K th (x, 0) i).2), some (.inl (i : Int)), none] [] μ1 := by
    intro m
    induction m with
    | zero =>
      intro i μ1 hi hE hD1
      have e1 : μ1 123 31 = jc K := (hK.dy hE).2.1.1
      refine v228_4 (by omega) ?_
      rw [e1]
      refine ⟨inR_of (by omega) (by omega), inR_of (by omega) (by omega), fun _ => ?_, fun k => by omega⟩
      rw [show i = (jc K).toNat by omega] at hD1 ⊢
      exact h μ1 hE hD1
    | succ m ih =>
      intro i μ1 hi hE hD1
      have hK1 := hK.dy hE
      have hb1 : DB (jsR K th (x, 0) i).1 := jsR_b (q := (x, 0)) hb i (by omega)
      have hq : jsR K th (x, 0) (i + 1) = jst K th i (jsR K th (x, 0) i) := rfl
      have nx := fun μ2 h1 h2 => ih (i + 1) μ2 (by omega) h1 h2
      rw [hq] at nx
      generalize jsR K th (x, 0) i = q at *
      have dj := ok.2.2.1 i (by omega) (by omega)
      have e1 : μ1 123 31 = jc K := hK1.2.1.1
      have e37 : μ1 140 i = jd K i := hK1.2.2.1 i (by omega) (by omega)
      have e7 : μ1 124 0 = q.1.1 0 := hD1.2.1.at (by omega) (by omega)
      have ep : μ1 124 7 = q.1.1 7 := hD1.2.1.at (by omega) (by omega)
      have b0 := hb1.1.1
      refine v228_4 (by omega) ?_
      rw [e1, e37, e7]
      refine ⟨inR_of (by omega) (by omega), inR_of (by omega) (by omega), fun k => by omega, fun _ => ⟨⟨by omega, by omega⟩, inR_of (by omega) (by omega), inR_of (by omega) (by omega), fun k => ?_, fun k => ?_⟩⟩
      · have e : jst K th i q = q := by unfold jst; rw [if_pos (Or.inl k)]
        rw [e] at nx
        exact nx μ1 hE hD1
      · refine s214 (by omega) (by omega) ?_
        rw [ep]
        refine ⟨i32_in _, fun k2 => ?_, fun k2 => ?_⟩
        · have n1 : ¬ (q.1.1 0 < jd K i ∨ iAnd (iShr (q.1.1 7) i) 1 = 1) := by omega
          refine b212j (by omega) hK1 hD1 hb1 (by omega) ?_
          have lb := lk_b (X := jX K) (i := i) (m := (jL K i).toNat) (g := q.1.2.1) (by have := ok.2.1.2.2.1 i (by omega) (by omega); omega) (fun z z0 z1 => (hb1.2.1 z z0 z1).1)
          refine ⟨inR_of (by omega) (by omega), fun k3 => ?_, fun k3 => ?_⟩
          · refine b217 (by omega) hK1 ok hD1 hb1 (by omega) (fun μ5 h5 hD5 => ?_)
            have fb := fJ_b (K := K) (w := 0) (i := i) hb1
            have hE5 := hE.tr h5
            refine b226 (by omega) hth hD5 fb (fun μ7 h7 hD7 => ?_)
            have hE7 := hE5.tr h7
            have hz := hpZ_b (th := th) (a := fJ K 0 i q.1) (s := q.1.1)
            refine ⟨inR_of (by omega) (by omega), fun k4 => ?_, fun k4 => ?_⟩
            · have e : jst K th i q = (stj K th i (hp th (fJ K 0 i q.1) q.1), iOr q.2 (iShl 1 i)) := by unfold jst; rw [if_neg n1, if_neg (by omega), if_neg k4]
              rw [e] at nx
              refine b221 (by omega) hth (hK.dy hE7) ok hD7 (hp_b hb1) (by omega) k3 (fun μ9 h9 hD9 => ⟨⟨by omega, by omega⟩, nx _ ((hE7.tr h9).mu (by unfold Sm; omega)) ?_⟩)
              refine ⟨by rw [mu_o (by decide)]; exact hD9.1, hD9.2.1.ep (T := fun a _ => a = 145) (Ep.rf.mu rfl) (fun i => by show ¬ (124 = 145); omega), fun z z0 z1 => by rw [mu_o (by decide)]; exact hD9.2.2.1 z z0 z1, fun z z0 z1 => by rw [mu_o (by decide)]; exact hD9.2.2.2.1 z z0 z1, fun j hj hs => ?_⟩
              show _ = ud (hp th (fJ K 0 i q.1) q.1).2.2.2 i (sjB K i (hp th (fJ K 0 i q.1) q.1)) j
              by_cases e : j = i
              · rw [e, mu_s, ud_s]
              · rw [mu_i (by omega), ud_n (by omega)]
                exact hD9.2.2.2.2 j hj (((bit_or (by omega) hj).mp hs).resolve_right e)
            · have e : jst K th i q = (hp th (fJ K 0 i q.1) q.1, q.2) := by unfold jst; rw [if_neg n1, if_neg (by omega), if_pos k4]
              rw [e] at nx
              exact nx μ7 hE7 hD7
          · have e : jst K th i q = (nt th 1 i (lk (jX K) i (jL K i).toNat q.1.2.1) q.1, q.2) := by unfold jst; rw [if_neg n1, if_pos k3]
            rw [e] at nx
            exact b220 (by omega) hth hD1 hb1.1 (fun μ5 h5 hD5 => nx μ5 (hE.tr h5) hD5)
        · have e : jst K th i q = q := by
            unfold jst
            rw [if_pos (Or.inr ((iz (x := q.1.1 7) (show i < 32 by omega)).resolve_left k2))]
          rw [e] at nx
          exact nx μ1 hE hD1
  exact v228 (by omega) (key (jc K).toNat 0 μ (by omega) Ep.rf hD)
/-- the devil -/
theorem b229 (hd : 6 ≤ d) (hth : th = 0 ∨ th = 1) (hK : KM μ K) (ok : KOK K) (hD : DM μ th x S) (hb : DB x) (h : ∀ μ', Ep Sm μ μ' → DM μ' th (dfn K th (dsR K th (x, 0) (bc K).toNat)) S → Φ none μ') : Ct E d 229 [.inr 123] μ Φ := by
  have c0 := ok.2.2.2.1.1
  have c16 := ok.2.2.2.1.2.1
  have an : ∀ i : Nat, inR (dsR K th (x, 0) i).2 := by
    intro i
    induction i with
    | zero => exact (inR_of (by decide) (by decide) : inR 0)
    | succ i ih =>
      show inR (dst K th i (dsR K th (x, 0) i)).2
      unfold dst
      split
      · exact ih
      · split
        · exact ih
        · exact (inR_of (by decide) (by decide) : inR 1)
  have key : ∀ (m i : Nat) (μ1 : Mm), (i : Int) + m = bc K → Ep Sm μ μ1 → DM μ1 th (dsR K th (x, 0) i).1 S → G E d 229 Φ 4 [some (.inr 123), some (.inl (dsR K th (x, 0) i).2), some (.inl (i : Int))] [] μ1 := by
    intro m
    induction m with
    | zero =>
      intro i μ1 hi hE hD1
      have e1 : μ1 123 32 = bc K := (hK.dy hE).2.2.2.1.1
      have hb1 : DB (dsR K th (x, 0) i).1 := dsR_b (q := (x, 0)) hb i
      have an := an i
      rw [show (bc K).toNat = i by omega] at h
      generalize dsR K th (x, 0) i = q at *
      have e6 : μ1 124 6 = q.1.1 6 := hD1.2.1.at (by omega) (by omega)
      refine v229_4 (by omega) ?_
      rw [e1, e6]
      refine ⟨inR_of (by omega) (by omega), inR_of (by omega) (by omega), fun _ => ⟨an, fun k => ?_, fun k => ⟨inR_of (by omega) (by omega), fun k2 => ?_, fun k2 => ?_⟩⟩, fun k => by omega⟩
      · have e : dfn K th q = q.1 := by unfold dfn; rw [if_pos (Or.inl k)]
        rw [e] at h
        exact h μ1 hE hD1
      · have e : dfn K th q = nt th 3 (-1) (q.1.1 6 + 1) (ud q.1.1 6 (q.1.1 6 + 1), q.1.2) := by unfold dfn; rw [if_neg (by omega)]
        rw [e] at h
        have hD2 := hD1.fl (i := 6) (v := q.1.1 6 + 1)
        exact b220 (by omega) hth hD2 (by exact stb_ud hb1.1 (fun e => by omega) (fun e => by omega) (fun e => by omega) (fun e => by omega) (fun e _ => by omega)) (fun μ5 h5 hD5 => h μ5 ((hE.mu Sm124).tr h5) hD5)
      · have e : dfn K th q = q.1 := by unfold dfn; rw [if_pos (Or.inr (by omega))]
        rw [e] at h
        exact h μ1 hE hD1
    | succ m ih =>
      intro i μ1 hi hE hD1
      have hK1 := hK.dy hE
      have hb1 : DB (dsR K th (x, 0) i).1 := dsR_b (q := (x, 0)) hb i
      have hq : dsR K th (x, 0) (i + 1) = dst K th i (dsR K th (x, 0) i) := rfl
      have nx := fun μ2 h1 h2 => ih (i + 1) μ2 (by omega) h1 h2
      rw [hq] at nx
      generalize dsR K th (x, 0) i = q at *
      have e1 : μ1 123 32 = bc K := hK1.2.2.2.1.1
      refine v229_4 (by omega) ?_
      rw [e1]
      refine ⟨inR_of (by omega) (by omega), inR_of (by omega) (by omega), fun k => by omega, fun _ => ?_⟩
      refine b212 (by omega) hK1 hD1 hb1 (by omega) ?_
      have lb := lk_b (X := bX K) (i := i) (m := (bL K i).toNat) (g := q.1.2.1) (by have := ok.2.2.2.1.2.2.1 i (by omega) (by omega); omega) (fun z z0 z1 => (hb1.2.1 z z0 z1).1)
      refine ⟨inR_of (by omega) (by omega), fun k3 => ?_, fun k3 => ?_⟩
      · have e : dst K th i q = q := by unfold dst; rw [if_pos (by omega)]
        rw [e] at nx
        exact nx μ1 hE hD1
      · have n1 : ¬ 0 < lk (bX K) i (bL K i).toNat q.1.2.1 := by omega
        refine b219 (by omega) hK1 ok hD1 hb1 (by omega) (fun μ5 h5 hD5 => ?_)
        have fb := fB_b (K := K) (i := i) hb1
        have hE5 := hE.tr h5
        refine b226 (by omega) hth hD5 fb (fun μ7 h7 hD7 => ?_)
        have hE7 := hE5.tr h7
        have hz := hpZ_b (th := th) (a := fB K i q.1) (s := q.1.1)
        refine ⟨inR_of (by omega) (by omega), fun k4 => ?_, fun k4 => ?_⟩
        · have e : dst K th i q = (nt th 2 i (bL K i) (sd1 (tk (bX K) i (bL K i).toNat (hp th (fB K i q.1) q.1))), 1) := by unfold dst; rw [if_neg n1, if_neg k4]
          rw [e] at nx
          have hK7 := hK.dy hE7
          refine s213 (by omega) (by omega) (by omega) hK7.2.2.2.1 (by omega) (fun μ8 h8 hg => ?_)
          have hD8 : DM μ8 th (tk (bX K) i (bL K i).toNat (hp th (fB K i q.1) q.1)) S := hD7.bx h8 (fun z z0 z1 => by rw [hg z z0 z1, hD7.2.2.1 z z0 z1])
          have hE8 : Ep Sm μ μ8 := hE7.tr (Ep.of h8 Sm144)
          have e4 : μ8 124 4 = (tk (bX K) i (bL K i).toNat (hp th (fB K i q.1) q.1)).1 4 := hD8.2.1.at (by omega) (by omega)
          have el : μ8 138 (16 + i) = bL K i := (((hK.dy hE8).2.2.2.1).2.2.2.1 i (by omega) (by omega)).1
          simp only [rV]
          rw [e4, el]
          have hb8 : DB (tk (bX K) i (bL K i).toNat (hp th (fB K i q.1) q.1)) := tk_b (hp_b hb1) (by show lk _ _ _ q.1.2.1 ≤ 0; omega)
          have hD9 := hD8.fl (i := 4) (v := (tk (bX K) i (bL K i).toNat (hp th (fB K i q.1) q.1)).1 4 + 1)
          exact ⟨⟨by omega, by omega⟩, b220 (by omega) hth hD9 (sd1_b hb8).1 (fun μ9 h9 hDx => nx μ9 ((hE8.mu Sm124).tr h9) hDx)⟩
        · have e : dst K th i q = (hp th (fB K i q.1) q.1, q.2) := by unfold dst; rw [if_neg n1, if_pos k4]
          rw [e] at nx
          exact nx μ7 hE7 hD7
  exact v229 (by omega) (key (bc K).toNat 0 μ (by omega) Ep.rf hD)
end S35
