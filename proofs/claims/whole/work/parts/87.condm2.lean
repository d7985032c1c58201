/-! a condition is read, in the reference -/
def Ss : Nat → Int → Prop := fun o i => (o = 123 ∧ (i = 23 ∨ i = 24 ∨ i = 26)) ∨ ((o = 135 ∨ o = 136) ∧ 800 ≤ i) ∨ o = 137
section S72
variable {E : En} {d : Nat} {Φ : Option AV → Mm → Prop} {μ μ' : Mm} {n p q : Int} {T : Int → Int} {l : Cd} {st : List Int}
theorem Ss_9 {o : Nat} {i : Int} (h : Ss o i) : Sm9 o i := Or.inr h
theorem MX.ss {k : Nat} (h : MX k n T μ p) (e : Ep Ss μ μ') : MX k n T μ' p := h.ep e (fun o i k => by unfold Ss; omega)
theorem SP.ep {S : Nat → Int → Prop} (h : SP μ st) (e : Ep S μ μ') (hs : ∀ o i, o = 137 ∨ (o = 123 ∧ (i = 24 ∨ i = 26)) → ¬ S o i) : SP μ' st :=
  ⟨by rw [e 123 26 (hs _ _ (by omega))]; exact h.1, stk_c _ (fun j _ _ => e 137 j (hs _ _ (by omega))) h.2.1, by rw [e 123 24 (hs _ _ (by omega))]; exact h.2.2⟩
theorem SP.r (h : SP μ st) (e : Ep Sr μ μ') : SP μ' st := h.ep e (fun o i k => by unfold Sr; omega)
theorem SP.m8 (h : SP μ st) (e : Ep Sm8 μ μ') : SP μ' st := h.ep e (fun o i k => by unfold Sm8 Sq; omega)
theorem pTop_n {x : Int} : ∀ (st : List Int) (l : Cd), (pTop x st l).1.length ≤ st.length
  | [], l => Nat.le_refl _
  | y :: r, l => by
    by_cases g : y = x
    · rw [g, pTop_p]
      have := pTop_n (x := x) r (l ++ [(x, 0)])
      rw [List.length_cons]
      omega
    · rw [pTop_s (y :: r) l g]
      exact Nat.le_refl _
theorem s187 {x : Int} (hd : 1 ≤ d) (hl : st.length < 40) (h26 : μ 123 26 = st.length) (hk : stk (μ 137) st) (h : ∀ μ', Ep (fun o i => o = 137 ∨ (o = 123 ∧ i = 26)) μ μ' → μ' 123 26 = (x :: st).length → stk (μ' 137) (x :: st) → Φ none μ') : Ct E d 187 [.inr 123, .inl x] μ Φ := by
  refine v187 hd ?_
  rw [h26]
  refine ⟨by omega, h _ ((Ep.rf.mu (by omega)).mu (by omega)) ?_ ⟨?_, ?_⟩⟩
  · rw [mu_s, List.length_cons]; omega
  · rw [mu_o (by decide), mu_s]
  · rw [show mu (mu μ 137 (st.length : Int) x) 123 26 ((st.length : Int) + 1) 137 = mu μ 137 (st.length : Int) x 137 from funext fun i => mu_o (by decide)]
    exact stk_mu _ hk (Int.le_refl _)
/-- what joins so comes out -/
theorem t_188 {x : Int} (hx : x = 9 ∨ x = 10 ∨ x = 11) (hd : 2 ≤ d) : ∀ (st : List Int) (l : Cd) (μ : Mm), adj st → st.length ≤ 40 → (l.length : Int) + st.length ≤ 400 → SP μ st → LL μ l → (∀ μ', Ep Ss μ μ' → SP μ' (pTop x st l).1 → LL μ' (pTop x st l).2 → Φ none μ') → G E d 188 Φ 0 [some (.inr 123), some (.inl x)] [] μ := by
  intro st
  have ix : inR x := inR_of (by omega) (by omega)
  induction st with
  | nil =>
    intro l μ _ _ _ hS hL h
    have h26 : μ 123 26 = 0 := hS.1
    refine v188_0 (by omega) ?_
    rw [h26]
    exact ⟨inR_of (by decide) (by decide), fun _ => h μ Ep.rf hS hL, fun g => absurd g (by decide)⟩
  | cons y r ih =>
    intro l μ ha h40 hl hS hL h
    have hy := ha.1
    have h26 : μ 123 26 = (r.length : Int) + 1 := by rw [hS.1, List.length_cons]; omega
    have h37 : μ 137 (r.length : Int) = y := hS.2.1.1
    have h38 : stk (μ 137) r := hS.2.1.2
    have h24 := hS.2.2
    rw [List.length_cons] at h40 hl
    refine v188_0 (by omega) ?_
    rw [h26, show (r.length : Int) + 1 - 1 = r.length by omega, h37]
    refine ⟨inR_of (by omega) (by omega), fun g => by omega, fun _ => ⟨by omega, inR_of (by omega) (by omega), ix, fun g => ?_, fun g => ?_⟩⟩
    · rw [pTop_s (x := x) (y :: r) l g] at h
      exact h μ Ep.rf hS hL
    · subst g
      rw [pTop_p] at h
      have e0 : Ep (fun o i => o = 123 ∧ i = 26) μ (mu μ 123 26 (r.length : Int)) := Ep.rf.mu ⟨rfl, rfl⟩
      refine m_181 (by omega) (hL.ep e0 (by omega) (fun o i k => by omega)) (by omega) (fun μ1 e1 l1 => ?_)
      have eA : Ep Ss μ μ1 := (e0.mono (fun o i k => by unfold Ss; omega)).tr (e1.mono (fun o i k => by unfold Se at k; unfold Ss; omega))
      have k26 : μ1 123 26 = r.length := by rw [e1 _ _ (by unfold Se; omega), mu_s]
      have k24 : μ1 123 24 = opN (y :: r) := by rw [e1 _ _ (by unfold Se; omega), e0 _ _ (by omega)]; exact h24
      have k38 : stk (μ1 137) r := stk_c _ (fun j _ _ => by rw [e1 _ _ (by unfold Se; omega), e0 _ _ (by omega)]) h38
      have ll : (((l ++ [(y, (0 : Int))]).length : Nat) : Int) + r.length ≤ 400 := by
        rw [List.length_append]
        show ((l.length + 1 : Nat) : Int) + _ ≤ _
        omega
      refine ⟨ix, fun g2 => ?_, fun g2 => ?_⟩
      · have oe : opN (y :: r) = opN r := by
          show (if y = 9 ∨ y = 12 then 1 else 0) + opN r = _
          rw [if_neg (by omega)]; omega
        exact ih _ μ1 ha.2.2.2 (by omega) ll ⟨k26, k38, by rw [k24, oe]⟩ l1 (fun μ2 e2 s2 l2 => h μ2 (eA.tr e2) s2 l2)
      · have oe : opN (y :: r) = 1 + opN r := by
          show (if y = 9 ∨ y = 12 then 1 else 0) + opN r = _
          rw [if_pos (Or.inl g2)]
        have e2 : Ep (fun o i => o = 123 ∧ i = 24) μ1 (mu μ1 123 24 (μ1 123 24 - 1)) := Ep.rf.mu ⟨rfl, rfl⟩
        exact ih _ _ ha.2.2.2 (by omega) ll ⟨by rw [e2 _ _ (by omega)]; exact k26, stk_c _ (fun j _ _ => e2 _ _ (by omega)) k38, by rw [mu_s, k24, oe]; omega⟩ (l1.ep e2 (by omega) (fun o i k => by omega)) (fun μ2 e3 s2 l2 => h μ2 ((eA.tr (e2.mono (fun o i k => by unfold Ss; omega))).tr e3) s2 l2)
theorem c_188 {x : Int} (hd : 2 ≤ d) (hx : x = 9 ∨ x = 10 ∨ x = 11) (ha : adj st) (h26 : st.length ≤ 40) (hl : (l.length : Int) + st.length ≤ 400) (hS : SP μ st) (hL : LL μ l) (h : ∀ μ', Ep Ss μ μ' → SP μ' (pTop x st l).1 → LL μ' (pTop x st l).2 → Φ none μ') : Ct E d 188 [.inr 123, .inl x] μ Φ :=
  v188 (by omega) (t_188 hx hd st l μ ha h26 hl hS hL h)
/-- one more waits, and the next piece -/
theorem o_187 {x : Int} {Ψ : Mm → Prop} (hd : 4 ≤ d) (hB : TB n T) (hM : MX 0 n T μ p) (hx : x = 9 ∨ x = 12) (hS : SP μ st) (hL : LL μ l) (hl : st.length < 40) (h : ∀ μ', Ep Sm9 μ μ' → MX 0 n T μ' (toE n T p) → SP μ' (x :: st) → LL μ' l → Ψ μ') : Ct E d 187 [.inr 123, .inl x] (mu μ 123 24 (μ 123 24 + 1)) (rV (fun μ2 => Ct E d 177 [.inr 123] μ2 (rV (fun μ3 => Ψ μ3)))) := by
  have e0 : Ep (fun o i => o = 123 ∧ i = 24) μ (mu μ 123 24 (μ 123 24 + 1)) := Ep.rf.mu ⟨rfl, rfl⟩
  have w24 : mu μ 123 24 (μ 123 24 + 1) 123 24 = opN (x :: st) := by
    rw [mu_s, hS.2.2]
    show _ = (if x = 9 ∨ x = 12 then 1 else 0) + opN st
    rw [if_pos hx]; omega
  generalize mu μ 123 24 (μ 123 24 + 1) = μ1 at *
  refine s187 (st := st) (by omega) hl (by rw [e0 _ _ (by omega)]; exact hS.1) (stk_c _ (fun j _ _ => e0 _ _ (by omega)) hS.2.1) (fun μ2 e2 a1 a2 => u_177 (by omega) (by decide) hB ((hM.ep e0 (fun o i k => by omega)).ep e2 (fun o i k => by omega)) (fun μ3 e3 m3 => h μ3 (((e0.mono (fun o i k => by unfold Sm9; omega)).tr (e2.mono (fun o i k => by unfold Sm9; omega))).tr (e3.mono (fun o i k => Sq_9 (Sr_q k)))) m3 (SP.r ⟨a1, a2, ?_⟩ e3) (((hL.ep e0 (by omega) (fun o i k => by omega)).ep e2 (by omega) (fun o i k => by omega)).r e3)))
  rw [e2 _ _ (by omega)]
  exact w24
/-- one that joins waits, and the next piece -/
theorem j_187 {x : Int} {Ψ : Mm → Prop} (hd : 4 ≤ d) (hB : TB n T) (hM : MX 0 n T μ p) (hx : ¬ (x = 9 ∨ x = 12)) (hS : SP μ st) (hL : LL μ l) (hl : st.length < 40) (h : ∀ μ', Ep Sm9 μ μ' → MX 0 n T μ' (toE n T p) → SP μ' (x :: st) → LL μ' l → Ψ μ') : Ct E d 187 [.inr 123, .inl x] μ (rV (fun μ2 => Ct E d 177 [.inr 123] μ2 (rV (fun μ3 => Ψ μ3)))) := by
  refine s187 (st := st) (by omega) hl hS.1 hS.2.1 (fun μ2 e2 a1 a2 => u_177 (by omega) (by decide) hB (hM.ep e2 (fun o i k => by omega)) (fun μ3 e3 m3 => h μ3 ((e2.mono (fun o i k => by unfold Sm9; omega)).tr (e3.mono (fun o i k => Sq_9 (Sr_q k)))) m3 (SP.r ⟨a1, a2, ?_⟩ e3) ((hL.ep e2 (by omega) (fun o i k => by omega)).r e3)))
  rw [e2 _ _ (by omega), hS.2.2]
  show _ = (if x = 9 ∨ x = 12 then 1 else 0) + opN st
  rw [if_neg hx]; omega
theorem brN_n {x : Int} (h : x ≠ 12) : brN (x :: st) = brN st := by
  show (if x = 12 then (1 : Int) else 0) + brN st = _
  rw [if_neg h]; omega
def X2 (b : Bool) : Int := if b = true then 1 else 0
theorem g189 (hd : 12 ≤ d) (hB : TB n T) : ∀ (f : Nat) (p : Int) (st : List Int) (l : Cd) (b : Bool) (μ : Mm), n - p < f → MX 0 n T μ p → SP μ st → LL μ l → okS b st l p → (∀ x, pCd n T f p st l b = .ok x → ∀ μ', Ep Sm9 μ μ' → MX 0 n T μ' x.1 → LL μ' x.2 → μ' 123 24 = 0 → Φ (some (.inl 0)) μ') → (∀ fl, pCd n T f p st l b = .error fl → ∀ μ', Ep Sm9 μ μ' → MF fl μ' → Φ (some (.inl (-1))) μ') → G E d 189 Φ 7 [some (.inr 123), some (.inl (brN st)), some (.inl (X2 b)), none] [] μ := by
  intro f
  have kk : (0 : Nat) < 4 := by decide
  have n4 := hB.2.1
  induction f with
  | zero =>
    intro p st l b μ hf hM
    have p1 := hM.1.2.2.2.2.2.1
    omega
  | succ f ih =>
    intro p st l b μ hf hM hS hL hK hy hn
    have p0 := hM.1.2.2.2.2.1
    have p1 := hM.1.2.2.2.2.2.1
    have hK' := hK
    obtain ⟨a1, a2, a3, a4⟩ := hK'
    have s26 := st_26 a1 a2
    have o0 := opN_0 st
    have b0 := brq_0 st
    have on : inR (opN st) := inR_of (by omega) (by omega)
    have bn : inR (brN st) := inR_of (by omega) (by omega)
    have h24 := hS.2.2
    cases b with
    | true =>
      show G E d 189 Φ 7 [some (.inr 123), some (.inl (brN st)), some (.inl 1), none] [] μ
      refine v189_7 (by omega) ⟨inR_of (by decide) (by decide), fun g => absurd g (by decide), fun _ => s179 (k := 0) (c := 6) (by omega) kk hB hM (by decide) (by decide) ⟨b2_in _, fun z => ?_, fun z => ?_⟩⟩
      · have k := b2_ne0.mp z
        have te := toE_1 (T := T) (k := 0) p1 (by omega)
        rw [h24]
        refine ⟨on, fun g8 => ⟨b2_in _, fun _ => ⟨b2_in _, fun g => absurd g z, fun _ => ?_⟩, fun g => absurd g z⟩, fun g8 => s178 (by omega) hM (fun μ1 e1 f1 => hn _ (pCd_o3 (Or.inl k) g8) μ1 (e1.mono (fun o i => Sq_9)) f1)⟩
        have hst := pCd_o1 (f := f) (n := n) (T := T) (l := l) (Or.inl k) g8
        have hs' := okS_o hK (Or.inl k) p1 g8
        rw [if_pos (by omega)] at hst hs'
        rw [← h24]
        refine o_187 (by omega) hB hM (Or.inl rfl) hS hL (by omega) (fun μ1 e1 m1 s1 l1 => ?_)
        have := ih (toE n T p) (9 :: st) l true μ1 (by omega) m1 s1 l1 hs' (fun x hx μ2 e2 m2 l2 w2 => hy x (by rw [hst]; exact hx) μ2 (e1.tr e2) m2 l2 w2) (fun fl hx μ2 e2 f2 => hn fl (by rw [hst]; exact hx) μ2 (e1.tr e2) f2)
        rw [brN_n (by decide)] at this
        exact this
      · have k134 := b2_0.mp z
        refine s180 (k := 0) (by omega) kk hB hM (by decide) (by decide) ⟨b2_in _, fun z2 => ?_, fun z2 => ?_⟩
        · have k40 := b2_0.mp z2
          have hst := pCd_c (f := f) (n := n) (T := T) (st := st) (l := l) (p := p) (by omega)
          refine s186 (by omega) hB hM hL (by omega) (fun x hx μ1 e1 m1 l1 => ⟨inR_of (by decide) (by decide), fun _ => ?_, fun g => absurd g (by decide)⟩) (fun fl hx μ1 e1 f1 => ⟨inR_of (by decide) (by decide), fun g => absurd rfl g, fun _ => hn fl (by rw [hst, hx]; rfl) μ1 (e1.mono (fun o i => Sm8_9)) f1⟩)
          obtain ⟨c0, c1, c2, u, c3, c4, c5⟩ := pCm_o p0 p1 hx
          have lx : (x.2.length : Int) = l.length + u.length := by rw [c3, List.length_append]; omega
          refine c_188 (by omega) (Or.inl rfl) a1 (by omega) (by omega) (hS.m8 e1) l1 (fun μ2 e2 s2 l2 => ?_)
          have hst2 : pCd n T (f + 1) p st l true = pCd n T f x.1 (pTop 9 st x.2).1 (pTop 9 st x.2).2 false := by rw [hst, hx]; rfl
          have e12 := (e1.mono (fun o i => Sm8_9)).tr (e2.mono (fun o i => Ss_9))
          have := ih x.1 (pTop 9 st x.2).1 (pTop 9 st x.2).2 false μ2 (by omega) (m1.ss e2) s2 l2 (okS_c hK ⟨c1, c2, u, c3, c4, c5⟩ (by omega)) (fun y hyy μ3 e3 m3 l3 w3 => hy y (by rw [hst2]; exact hyy) μ3 (e12.tr e3) m3 l3 w3) (fun fl hyy μ3 e3 f3 => hn fl (by rw [hst2]; exact hyy) μ3 (e12.tr e3) f3)
          rw [pTop_br (by decide)] at this
          exact this
        · have k := b2_ne0.mp z2
          have te := toE_1 (T := T) (k := 0) p1 (by omega)
          rw [h24]
          refine ⟨on, fun g8 => ⟨b2_in _, fun g => absurd z g, fun _ => ⟨b2_in _, fun _ => ?_, fun g => absurd z g⟩⟩, fun g8 => s178 (by omega) hM (fun μ1 e1 f1 => hn _ (pCd_o3 (Or.inr k) g8) μ1 (e1.mono (fun o i => Sq_9)) f1)⟩
          have hst := pCd_o1 (f := f) (n := n) (T := T) (l := l) (Or.inr k) g8
          have hs' := okS_o hK (Or.inr k) p1 g8
          rw [if_neg (by omega)] at hst hs'
          rw [← h24]
          refine o_187 (by omega) hB hM (Or.inr rfl) hS hL (by omega) (fun μ1 e1 m1 s1 l1 => ?_)
          have := ih (toE n T p) (12 :: st) l true μ1 (by omega) m1 s1 l1 hs' (fun x hx μ2 e2 m2 l2 w2 => hy x (by rw [hst]; exact hx) μ2 (e1.tr e2) m2 l2 w2) (fun fl hx μ2 e2 f2 => hn fl (by rw [hst]; exact hx) μ2 (e1.tr e2) f2)
          rw [brN_12, show 1 + brN st = brN st + 1 by omega] at this
          exact this
    | false =>
      show G E d 189 Φ 7 [some (.inr 123), some (.inl (brN st)), some (.inl 0), none] [] μ
      have l10 := pTop_l (x := 10) st l
      have j10 := pTop_a (x := 10) st l a1
      have n10 := pTop_n (x := 10) st l
      have n11 := pTop_n (x := 11) (pTop 10 st l).1 (pTop 10 st l).2
      refine v189_7 (by omega) ⟨inR_of (by decide) (by decide), fun _ => s179 (k := 0) (c := 5) (by omega) kk hB hM (by decide) (by decide) ⟨b2_in _, fun z => ?_, fun z => ?_⟩, fun g => absurd rfl g⟩
      · have k133 := b2_0.mp z
        refine s179 (k := 0) (c := 4) (by omega) kk hB hM (by decide) (by decide) ⟨b2_in _, fun z2 => ?_, fun z2 => ?_⟩
        · have k132 := b2_0.mp z2
          obtain ⟨t1, t2, t3, t4, t5⟩ := tA (l := l) a1 (a3 rfl)
          refine c_188 (by omega) (Or.inr (Or.inl rfl)) a1 (by omega) (by omega) hS hL (fun μ1 e1 s1 l1 => c_188 (by omega) (Or.inr (Or.inr rfl)) j10 (by omega) (by omega) s1 l1 (fun μ2 e2 s2 l2 => ?_))
          have e12 := (e1.tr e2).mono (fun o i => Ss_9)
          have m2 := (hM.ss e1).ss e2
          refine ⟨bn, fun gb => ?_, fun gb => ?_⟩
          · refine s180 (k := 0) (by omega) kk hB m2 (by decide) (by decide) ⟨b2_in _, fun z3 => ?_, fun z3 => ?_⟩
            · have k := b2_ne0.mp z3
              have te := toE_1 (T := T) (k := 0) p1 (by omega)
              obtain ⟨r, hr, r1, r2, r3, r4⟩ := okS_b0 hK gb
              have hst := pCd_b (f := f) (n := n) (T := T) (l := l) (st := st) k (by rw [t4]; exact gb)
              have hs' := okS_b (T := T) hK (by omega) p1 gb
              rw [hr] at s2
              rw [hr] at hst hs'
              replace hst : pCd n T (f + 1) p st l false = pCd n T f (toE n T p) (pTop 9 r (pTop 11 (pTop 10 st l).1 (pTop 10 st l).2).2).1 (pTop 9 r (pTop 11 (pTop 10 st l).1 (pTop 10 st l).2).2).2 false := hst
              replace hs' : okS false (pTop 9 r (pTop 11 (pTop 10 st l).1 (pTop 10 st l).2).2).1 (pTop 9 r (pTop 11 (pTop 10 st l).1 (pTop 10 st l).2).2).2 (toE n T p) := hs'
              rw [hr, List.length_cons] at n11
              generalize (pTop 11 (pTop 10 st l).1 (pTop 10 st l).2).2 = l9 at *
              have e3 : Ep (fun o i => o = 123 ∧ (i = 24 ∨ i = 26)) μ2 (mu (mu μ2 123 26 (μ2 123 26 - 1)) 123 24 (μ2 123 24 - 1)) := (Ep.rf.mu (by omega)).mu (by omega)
              have s3 : SP (mu (mu μ2 123 26 (μ2 123 26 - 1)) 123 24 (μ2 123 24 - 1)) r := by
                have w1 := s2.1
                have w2 := s2.2.2
                have oe : opN ((12 : Int) :: r) = 1 + opN r := rfl
                rw [List.length_cons] at w1
                refine ⟨?_, stk_c _ (fun j _ _ => e3 _ _ (by omega)) s2.2.1.2, ?_⟩
                · rw [mu_i (by decide), mu_s]; omega
                · rw [mu_s]; omega
              generalize mu (mu μ2 123 26 (μ2 123 26 - 1)) 123 24 (μ2 123 24 - 1) = μ3 at *
              refine c_188 (by omega) (Or.inl rfl) r1 (by omega) (by omega) s3 (l2.ep e3 (by omega) (fun o i k => by omega)) (fun μ4 e4 s4 l4 => u_177 (by omega) kk hB ((m2.ep e3 (fun o i k => by omega)).ss e4) (fun μ5 e5 m5 => ?_))
              have e15 := ((e12.tr (e3.mono (fun o i k => by unfold Sm9; omega))).tr (e4.mono (fun o i => Ss_9))).tr (e5.mono (fun o i k => Sq_9 (Sr_q k)))
              have := ih (toE n T p) _ _ false μ5 (by omega) m5 (s4.r e5) (l4.r e5) hs' (fun x hx μ2 e2 m2 l2 w2 => hy x (by rw [hst]; exact hx) μ2 (e15.tr e2) m2 l2 w2) (fun fl hx μ2 e2 f2 => hn fl (by rw [hst]; exact hx) μ2 (e15.tr e2) f2)
              rw [pTop_br (by decide), show brN r = brN st - 1 by omega] at this
              exact this
            · have k := b2_0.mp z3
              exact s178 (by omega) m2 (fun μ3 e3 f3 => hn _ (pCd_1 (by omega) (by omega) k (by rw [t4]; exact gb)) μ3 (e12.tr (e3.mono (fun o i => Sq_9))) f3)
          · have hst := pCd_e (f := f) (n := n) (T := T) (p := p) (l := l) (st := st) (by omega) (by omega) (by rw [t4]; exact gb)
            have hnil := brq_e t2 (by rw [t4]; exact gb)
            refine hy _ hst μ2 e12 m2 l2 ?_
            rw [s2.2.2, hnil]
            rfl
        · have k := b2_ne0.mp z2
          have te := toE_1 (T := T) (k := 0) p1 (by omega)
          obtain ⟨t1, t2, t3, t4, t5⟩ := tA (l := l) a1 (a3 rfl)
          have hst := pCd_r (f := f) (n := n) (T := T) (l := l) (st := st) (p := p) k
          have hs' := okS_r hK k p1
          refine c_188 (by omega) (Or.inr (Or.inl rfl)) a1 (by omega) (by omega) hS hL (fun μ1 e1 s1 l1 => c_188 (by omega) (Or.inr (Or.inr rfl)) j10 (by omega) (by omega) s1 l1 (fun μ2 e2 s2 l2 => j_187 (by omega) hB ((hM.ss e1).ss e2) (by decide) s2 l2 (by omega) (fun μ3 e3 m3 s3 l3 => ?_)))
          have e13 := ((e1.tr e2).mono (fun o i => Ss_9)).tr e3
          have := ih (toE n T p) _ _ true μ3 (by omega) m3 s3 l3 hs' (fun x hx μ2 e2 m2 l2 w2 => hy x (by rw [hst]; exact hx) μ2 (e13.tr e2) m2 l2 w2) (fun fl hx μ2 e2 f2 => hn fl (by rw [hst]; exact hx) μ2 (e13.tr e2) f2)
          rw [brN_n (by decide), t4] at this
          exact this
      · have k := b2_ne0.mp z
        have te := toE_1 (T := T) (k := 0) p1 (by omega)
        have hst := pCd_a (f := f) (n := n) (T := T) (l := l) (st := st) (p := p) k
        have hs' := okS_a hK k p1
        refine c_188 (by omega) (Or.inr (Or.inl rfl)) a1 (by omega) (by omega) hS hL (fun μ2 e2 s2 l2 => j_187 (by omega) hB (hM.ss e2) (by decide) s2 l2 (by omega) (fun μ3 e3 m3 s3 l3 => ?_))
        have e13 := (e2.mono (fun o i => Ss_9)).tr e3
        have := ih (toE n T p) _ _ true μ3 (by omega) m3 s3 l3 hs' (fun x hx μ2 e2 m2 l2 w2 => hy x (by rw [hst]; exact hx) μ2 (e13.tr e2) m2 l2 w2) (fun fl hx μ2 e2 f2 => hn fl (by rw [hst]; exact hx) μ2 (e13.tr e2) f2)
        rw [brN_n (by decide), pTop_br (by decide)] at this
        exact this
theorem s189 (hd : 12 ≤ d) (hB : TB n T) (hM : MX 0 n T μ p) (hL : LL μ l) (h24 : μ 123 24 = 0) (hl : (l.length : Int) ≤ p) (hy : ∀ x, pCd n T 401 p [] l true = .ok x → ∀ μ', Ep Sm9 μ μ' → MX 0 n T μ' x.1 → LL μ' x.2 → μ' 123 24 = 0 → Φ (some (.inl 0)) μ') (hn : ∀ fl, pCd n T 401 p [] l true = .error fl → ∀ μ', Ep Sm9 μ μ' → MF fl μ' → Φ (some (.inl (-1))) μ') : Ct E d 189 [.inr 123] μ Φ := by
  have n4 := hB.2.1
  have p0 := hM.1.2.2.2.2.1
  have e0 : Ep (fun o i => o = 123 ∧ i = 26) μ (mu μ 123 26 0) := Ep.rf.mu ⟨rfl, rfl⟩
  have e9 : Ep Sm9 μ (mu μ 123 26 0) := e0.mono (fun o i k => by unfold Sm9; omega)
  exact v189 (by omega) (g189 hd hB 401 p [] l true _ (by omega) (hM.ep e0 (fun o i k => by omega)) ⟨mu_s _ _ _ _, trivial, by rw [e0 _ _ (by omega)]; exact h24⟩ (hL.ep e0 (by omega) (fun o i k => by omega)) ⟨trivial, by decide, fun g => absurd g (by decide), by show _ + ((0 : Nat) : Int) ≤ _; omega⟩ (fun x hx μ2 e2 m2 l2 w2 => hy x hx μ2 (e9.tr e2) m2 l2 w2) (fun fl hx μ2 e2 f2 => hn fl hx μ2 (e9.tr e2) f2))
end S72
