/-! the class takes tokens -/
def Rd : Nat → Int → Prop := fun o i => o = 1 ∧ 6 ≤ i ∧ i ≤ 11
/-- and what is wrong -/
def Ef (S : Nat → Int → Prop) (μ μ' : Mm) : Prop := Ep (fun o i => S o i ∨ (o = 1 ∧ (i = 12 ∨ i = 13))) μ μ'
theorem Ef.mono {S T : Nat → Int → Prop} {a b : Mm} (h : Ef S a b) (hs : ∀ o i, S o i → T o i) : Ef T a b := fun o i hn => h o i (fun k => hn (k.elim (fun k => Or.inl (hs o i k)) Or.inr))
theorem Ep.ef {S : Nat → Int → Prop} {a b : Mm} (h : Ep S a b) : Ef S a b := fun o i hn => h o i (fun k => hn (Or.inl k))
def TrG (P : (Nat → Int → Prop) → Mm → Mm → Prop) : Prop := ∀ {S : Nat → Int → Prop} {a b c : Mm}, Ep S a b → P S b c → P S a c
theorem trG_p : TrG Ep := fun h k => h.tr k
theorem trG_f : TrG Ef := fun h k => h.ef.tr k
theorem Ep.trg {P : (Nat → Int → Prop) → Mm → Mm → Prop} {S : Nat → Int → Prop} {a b c : Mm} (h : Ep S a b) (k : P S b c) (hP : TrG P := by first | exact trG_p | exact trG_f) : P S a c := hP h k
def Rd6 : Nat → Int → Prop := fun o i => o = 1 ∧ (i = 6 ∨ i = 7)
def Rd8 : Nat → Int → Prop := fun o i => o = 1 ∧ (i = 6 ∨ i = 7 ∨ i = 8)
def RdA : Nat → Int → Prop := fun o i => o = 1 ∧ (i = 6 ∨ i = 7 ∨ i = 10 ∨ i = 11)
/-- a word is spelt with letters a .. j -/
def aj (T : Int → Int) (a b : Int) : Prop := ∀ i, a ≤ i → i < b → 97 ≤ T i ∧ T i < 107
section S57
variable {E : En} {d : Nat} {Φ : Option AV → Mm → Prop} {μ μ' : Mm} {n p q : Int} {T : Int → Int} {k : Nat}
theorem CT.ep {S : Nat → Int → Prop} {t : Nat} (h : CT k n T μ t) (e : Ep S μ μ') (hs : ∀ o i, (3 ≤ o ∧ o ≤ 5) ∨ (o = 1 ∧ i = 5) → ¬ S o i) : CT k n T μ' t :=
  ⟨h.1, fun i hi => by rw [e 3 _ (hs _ _ (by omega)), e 4 _ (hs _ _ (by omega)), e 5 _ (hs _ _ (by omega))]; exact h.2.1 i hi, h.2.2.1, by rw [e 1 5 (hs _ _ (by omega))]; exact h.2.2.2⟩
theorem TaW.ep {S : Nat → Int → Prop} (h : TaW μ n T) (e : Ep S μ μ') (hs : ∀ o i, o = 2 ∨ (o = 1 ∧ i = 1) → ¬ S o i) : TaW μ' n T := ⟨by rw [e 1 1 (hs _ _ (by omega))]; exact h.1, fun i i0 i1 => by rw [e 2 _ (hs _ _ (by omega))]; exact h.2 i i0 i1⟩
/-- what does not touch the reader -/
theorem CR.ep {S : Nat → Int → Prop} (h : CR k n T μ p) (e : Ep S μ μ') (hs : ∀ o i, (2 ≤ o ∧ o ≤ 5) ∨ (o = 1 ∧ (i = 1 ∨ (5 ≤ i ∧ i ≤ 7))) → ¬ S o i) : CR k n T μ' p := by
  obtain ⟨h1, j, t, h2, h3, h4, h5, h6⟩ := h
  exact ⟨h1.ep e (fun o i k => hs o i (by omega)), j, t, h2.ep e (fun o i k => hs o i (by omega)), h3, by rw [e 1 6 (hs _ _ (by omega))]; exact h4, by rw [e 1 7 (hs _ _ (by omega))]; exact h5, h6⟩
theorem CR.K (h : CR k n T μ p) : μ 1 7 = toK k n T p := by
  obtain ⟨h1, j, t, h2, h3, h4, h5, h6⟩ := h
  exact h5
theorem toK_r (hk : k < 4) (hB : TB n T) (p0 : 0 ≤ p) (hp : p ≤ n) : 0 ≤ toK k n T p ∧ toK k n T p ≤ 255 := by
  have hf := toF_b (T := T) hp
  unfold toK tKq
  split
  · omega
  · rename_i g
    have rT := hB.2.2 (toF n T p) (by omega) (by omega)
    split
    · split
      · omega
      · rename_i h2
        have := ((kw_eq hk).1 h2).2
        have k16 : kc k ≤ 16 := (by decide : ∀ k, k < 4 → kc k ≤ 16) k hk
        omega
    · split
      · split <;> omega
      · split
        · omega
        · omega
theorem t_50 (hd : 1 ≤ d) (hn : 0 ≤ n) (hR : CR k n T μ p) (h : ∀ μ', Ep (fun o i => o = 1 ∧ (i = 6 ∨ i = 7)) μ μ' → CR k n T μ' (toE n T p) → Φ none μ') : Ct E d 50 [.inr 1] μ Φ := by
  obtain ⟨h1, j, t, h2, h3, h4, h5, h6, h7, h8⟩ := hR
  have eb := toE_b (T := T) h8
  have fb := toF_b (T := T) h8
  have ee : toE n T p = toE n T (pp n T j) := by unfold toE; rw [h6]
  refine v50 hd ?_
  rw [h4, h2.2.2.2]
  have c400 := h2.1
  refine ⟨inR_of (by omega) (by omega), inR_of (by omega) (by omega), fun g => ⟨⟨by omega, by omega⟩, ?_⟩, fun g => ⟨⟨by omega, by omega⟩, ?_⟩⟩
  · have jt : j = t := by omega
    subst jt
    have e1 : Ep (fun o i => o = 1 ∧ (i = 6 ∨ i = 7)) μ (mu μ 1 7 (μ 3 j)) := Ep.rf.mu (by omega)
    have k0 := h2.2.2.1
    have fn : toF n T p = n := by rw [h6]; exact (toK_0 (pp_b hn j).2).mp k0
    have en : toE n T p = n := by show tEq n T (toF n T p) = n; rw [fn]; exact tEq_n (Int.le_refl _)
    have fe : toF n T (toE n T p) = n := by rw [en]; exact rn_n (Int.le_refl _)
    refine h _ e1 ⟨h1.ep e1 (fun o i k => by omega), j, j, h2.ep e1 (fun o i k => by omega), by omega, by rw [mu_i (by decide)]; exact h4, ?_, by rw [fe, ← h6, fn], by omega, by omega⟩
    rw [mu_s, (h2.2.1 j (by omega)).1, k0]
    exact ((toK_0 eb.2.1).mpr fe).symm
  · have e1 : Ep (fun o i => o = 1 ∧ (i = 6 ∨ i = 7)) μ (mu (mu μ 1 6 ((j : Int) + 1)) 1 7 (μ 3 ((j : Int) + 1))) := (Ep.rf.mu (by omega)).mu (by omega)
    have e3 : toF n T (toE n T p) = toF n T (pp n T (j + 1)) := by rw [ee]; rfl
    refine h _ e1 ⟨h1.ep e1 (fun o i k => by omega), j + 1, t, h2.ep e1 (fun o i k => by omega), by omega, by rw [mu_i (by decide), mu_s]; omega, ?_, e3, by omega, by omega⟩
    rw [mu_s]
    have := (h2.2.1 (j + 1) (by omega)).1
    rw [show ((j + 1 : Nat) : Int) = (j : Int) + 1 by omega] at this
    rw [this]
    unfold toK
    rw [e3]
theorem t_51 {a : Int} (hd : 1 ≤ d) (hR : CR k n T μ p) (h : ∀ μ', Ef Rd μ μ' → μ' 1 12 = a → μ' 1 13 = toF n T p → Φ (some (.inl 0)) μ') : Ct E d 51 [.inr 1, .inl a] μ Φ := by
  obtain ⟨h1, j, t, h2, h3, h4, h5, h6, h7, h8⟩ := hR
  have c400 := h2.1
  refine v51 hd ?_
  rw [h4]
  refine ⟨⟨by omega, by omega⟩, h _ ((Ep.rf.mu (by unfold Rd; omega)).mu (by unfold Rd; omega)) (by rw [mu_i (by decide), mu_s]) ?_⟩
  rw [mu_s, (h2.2.1 j (by omega)).2.1, h6]
theorem Rd67 {o : Nat} {i : Int} (h : o = 1 ∧ (i = 6 ∨ i = 7)) : Rd o i := by unfold Rd; omega
theorem t_52 {c : Int} (hd : 2 ≤ d) (hk : k < 4) (hB : TB n T) (hc : inR c) (hR : CR k n T μ p) (hy : toK k n T p = c → ∀ μ', Ep Rd6 μ μ' → CR k n T μ' (toE n T p) → Φ (some (.inl 1)) μ') (hn : toK k n T p ≠ c → ∀ μ', Ef Rd μ μ' → μ' 1 12 = 1 → μ' 1 13 = toF n T p → Φ (some (.inl 0)) μ') : Ct E d 52 [.inr 1, .inl c] μ Φ := by
  have hR' := hR
  obtain ⟨h1, j, t, h2, h3, h4, h5, h6, h7, h8⟩ := hR'
  have kr := toK_r hk hB h7 h8
  refine v52 (by omega) ?_
  rw [h5]
  exact ⟨inR_of (by omega) (by omega), hc, fun e => t_50 (by omega) hB.1 hR (fun μ' e1 c1 => hy e μ' e1 c1), fun e => t_51 (by omega) hR (fun μ' e1 a1 a2 => ⟨Or.inl rfl, hn e μ' e1 a1 a2⟩)⟩
theorem t_54 {a : Int} (hd : 1 ≤ d) (hk : k < 4) (hB : TB n T) (ha : 0 ≤ a ∧ a ≤ 100) (hR : CR k n T μ p) (h : Φ (some (.inl (b2 (128 ≤ toK k n T p ∧ toK k n T p < 128 + a)))) μ) : Ct E d 54 [.inr 1, .inl a] μ Φ := by
  obtain ⟨h1, j, t, h2, h3, h4, h5, h6, h7, h8⟩ := hR
  have kr := toK_r hk hB h7 h8
  refine v54 hd ?_
  rw [h5]
  exact ⟨inR_of (by omega) (by omega), fun e => ff h (by omega), fun e => ⟨inR_of (by omega) (by omega), inR_of (by omega) (by omega), fun e2 => ff h (by omega), fun e2 => ft h (by omega)⟩⟩
theorem t_53 {a : Int} (hd : 2 ≤ d) (hk : k < 4) (hB : TB n T) (ha : 0 ≤ a ∧ a ≤ 100) (hR : CR k n T μ p) (hy : 128 ≤ toK k n T p → toK k n T p < 128 + a → ∀ μ', Ep Rd8 μ μ' → CR k n T μ' (toE n T p) → μ' 1 8 = toK k n T p - 128 → Φ (some (.inl 1)) μ') (hn : ¬ (128 ≤ toK k n T p ∧ toK k n T p < 128 + a) → ∀ μ', Ef Rd μ μ' → μ' 1 12 = 1 → μ' 1 13 = toF n T p → Φ (some (.inl 0)) μ') : Ct E d 53 [.inr 1, .inl a] μ Φ := by
  refine v53 (by omega) (t_54 (by omega) hk hB ha hR ⟨b2_in _, fun e => ?_, fun e => ?_⟩)
  · have e := b2_ne0.mp e
    have e0 : Ep (fun o i => o = 1 ∧ i = 8) μ (mu μ 1 8 (μ 1 7 - 128)) := Ep.rf.mu ⟨rfl, rfl⟩
    refine t_50 (by omega) hB.1 (hR.ep e0 (fun o i k => by omega)) (fun μ' e1 c1 => hy e.1 e.2 μ' ((e0.mono (fun o i k => by unfold Rd8; omega)).trg (e1.mono (fun o i k => by unfold Rd8; omega))) c1 ?_)
    rw [e1 _ _ (by omega), mu_s, hR.K]
  · exact t_51 (by omega) hR (fun μ' e1 a1 a2 => ⟨Or.inl rfl, hn (b2_0.mp e) μ' e1 a1 a2⟩)
theorem t_55 {a : Int} (hd : 2 ≤ d) (hk : k < 4) (hB : TB n T) (ha : 0 ≤ a ∧ a ≤ 100) (hR : CR k n T μ p) (hy : toK k n T p = 0 → Φ (some (.inl 1)) μ) (h3 : (128 ≤ toK k n T p ∧ toK k n T p < 128 + a) → ∀ μ', Ef Rd μ μ' → μ' 1 12 = 3 → μ' 1 13 = toF n T p → Φ (some (.inl 0)) μ') (hn : toK k n T p ≠ 0 → ¬ (128 ≤ toK k n T p ∧ toK k n T p < 128 + a) → ∀ μ', Ef Rd μ μ' → μ' 1 12 = 1 → μ' 1 13 = toF n T p → Φ (some (.inl 0)) μ') : Ct E d 55 [.inr 1, .inl a] μ Φ := by
  have hR' := hR
  obtain ⟨h1, j, t, h2, -, h4, h5, h6, h7, h8⟩ := hR'
  have kr := toK_r hk hB h7 h8
  refine v55 (by omega) ?_
  rw [h5]
  refine ⟨inR_of (by omega) (by omega), fun e => hy e, fun e => t_54 (by omega) hk hB ha hR ⟨b2_in _, fun g => ?_, fun g => ?_⟩⟩
  · exact t_51 (by omega) hR (fun μ' e1 a1 a2 => ⟨inR_of (by decide) (by decide), fun _ => hn e (b2_0.mp g) μ' e1 a1 a2, fun q => absurd rfl q⟩)
  · exact t_51 (by omega) hR (fun μ' e1 a1 a2 => ⟨inR_of (by decide) (by decide), fun _ => h3 (b2_ne0.mp g) μ' e1 a1 a2, fun q => absurd rfl q⟩)
/-- a number's token has digits alone, four at most -/
theorem toK_3 (hk : k < 4) (p1 : p ≤ n) (h : toK k n T p = 3) : toF n T p < toE n T p ∧ toE n T p ≤ n ∧ toE n T p - toF n T p ≤ 4 ∧ ∀ i, toF n T p ≤ i → i < toE n T p → dig (T i) := by
  have fb := toF_b (T := T) p1
  have eb := toE_b (T := T) p1
  unfold toK tKq at h
  split at h
  · omega
  · rename_i g
    have := eb.2.2 (by omega)
    split at h
    · split at h
      · omega
      · rename_i h2
        have := ((kw_eq hk).1 h2).2
        omega
    · rename_i ha
      split at h
      · rename_i hd
        split at h
        · rename_i h4
          have e : toE n T p = rnE dig T n (toF n T p) := tEq_d (by omega) hd
          have hr := rn_b (P := dig) (T := T) (n := n) _ (toF n T p) rfl (by omega)
          have h4' : toE n T p - toF n T p ≤ 4 := h4
          exact ⟨by omega, by omega, h4', fun i i0 i1 => hr.2.1 i i0 (by omega)⟩
        · omega
      · split at h
        · rename_i hs
          unfold sgn at hs
          omega
        · omega
theorem nv_b {a : Int} : ∀ m : Nat, m ≤ 4 → (∀ i : Int, a ≤ i → i < a + m → dig (T i)) → 0 ≤ nv T a m ∧ nv T a m < 10 ^ m
  | 0, _, _ => ⟨Int.le_refl 0, (by decide : (0 : Int) < 10 ^ 0)⟩
  | m + 1, hm, h => by
    have ih := nv_b (a := a) m (by omega) (fun i i0 i1 => h i i0 (by omega))
    have hd := h (a + m) (by omega) (by omega)
    unfold dig at hd
    show 0 ≤ nv T a m * 10 + T (a + m) - 48 ∧ nv T a m * 10 + T (a + m) - 48 < 10 ^ (m + 1)
    rw [Int.pow_succ]
    omega
theorem nv_4 {a : Int} {m : Nat} (hm : m ≤ 4) (h : ∀ i : Int, a ≤ i → i < a + m → dig (T i)) : 0 ≤ nv T a m ∧ nv T a m ≤ 9999 := by
  have := nv_b (T := T) (a := a) m hm h
  rcases (by omega : m = 0 ∨ m = 1 ∨ m = 2 ∨ m = 3 ∨ m = 4) with rfl | rfl | rfl | rfl | rfl <;> simp at this <;> omega
theorem t_56 {a b : Int} (hd : 2 ≤ d) (hk : k < 4) (hB : TB n T) (ha : inR a) (hb : inR b) (hR : CR k n T μ p) (hy : toK k n T p = 3 → a ≤ toN n T p → toN n T p ≤ b → ∀ μ', Ep Rd μ μ' → CR k n T μ' (toE n T p) → μ' 1 9 = toN n T p → Φ (some (.inl 1)) μ') (h2 : toK k n T p = 3 → ¬ (a ≤ toN n T p ∧ toN n T p ≤ b) → ∀ μ', Ef Rd μ μ' → μ' 1 12 = 2 → μ' 1 13 = toF n T p → Φ (some (.inl 0)) μ') (hn : toK k n T p ≠ 3 → ∀ μ', Ef Rd μ μ' → μ' 1 12 = 1 → μ' 1 13 = toF n T p → Φ (some (.inl 0)) μ') : Ct E d 56 [.inr 1, .inl a, .inl b] μ Φ := by
  have hR' := hR
  obtain ⟨h1, j, t, g2, g3, h4, h5, h6, h7, h8⟩ := hR'
  have kr := toK_r hk hB h7 h8
  have fb := toF_b (T := T) h8
  have c400 := g2.1
  have n4 := hB.2.1
  have ef : μ 4 j = toF n T p := by rw [(g2.2.1 j (by omega)).2.1, h6]
  have es : μ 5 j = toE n T p - toF n T p := by rw [(g2.2.1 j (by omega)).2.2]; unfold toE; rw [h6]
  refine v56 (by omega) ?_
  rw [h5, h4, ef]
  refine ⟨inR_of (by omega) (by omega), fun e => ⟨⟨by omega, by omega⟩, ?_⟩, fun e => t_51 (by omega) hR (fun μ' e1 a1 a2 => ⟨Or.inl rfl, hn e μ' e1 a1 a2⟩)⟩
  obtain ⟨t1, t2, t3, t4⟩ := toK_3 hk h8 e
  have n9 := nv_4 (T := T) (a := toF n T p) (m := (toE n T p - toF n T p).toNat) (by omega) (fun i i0 i1 => t4 i i0 (by omega))
  have key : ∀ (m c : Nat) (μ1 : Mm), c + m = (toE n T p - toF n T p).toNat → Ep (fun o i => o = 1 ∧ i = 9) μ μ1 → μ1 1 9 = nv T (toF n T p) c → G E d 56 Φ 17 [some (.inr 1), some (.inl a), some (.inl b), some (.inl (toF n T p + (c : Int)))] [] μ1 := by
    intro m
    induction m with
    | zero =>
      intro c μ1 hc e1 v1
      have hc' : c = (toE n T p - toF n T p).toNat := by omega
      have hR1 := hR.ep e1 (fun o i k => by omega)
      have v9 : μ1 1 9 = toN n T p := by rw [v1, hc']; rfl
      have e46 : μ1 1 6 = j := by rw [e1 _ _ (by omega)]; exact h4
      have e4j : μ1 4 j = toF n T p := by rw [e1 _ _ (by omega)]; exact ef
      have e5j : μ1 5 j = toE n T p - toF n T p := by rw [e1 _ _ (by omega)]; exact es
      have e11 : μ1 1 1 = n := hR1.1.1
      have ni : inR (toN n T p) := inR_of (by unfold toN; omega) (by unfold toN; omega)
      refine v56_17 (by omega) ?_
      rw [e46, e4j, e5j, v9, e11]
      have bad : ¬ (a ≤ toN n T p ∧ toN n T p ≤ b) → Ct E (d - 1) 51 [.inr 1, .inl 2] μ1 (rI fun z2 μ2 => (z2 = 0 ∨ z2 = 1) ∧ Φ (some (.inl z2)) μ2) := fun g => t_51 (by omega) hR1 (fun μ' e2 a1 a2 => ⟨Or.inl rfl, h2 e g μ' ((e1.mono (fun o i k => by unfold Rd; omega)).trg e2) a1 a2⟩)
      have good : a ≤ toN n T p → toN n T p ≤ b → Ct E (d - 1) 50 [.inr 1] μ1 (rV fun μ3 => Φ (some (.inl 1)) μ3) := fun g1 g2 => t_50 (by omega) hB.1 hR1 (fun μ' e2 c2 => hy e g1 g2 μ' ((e1.mono (fun o i k => by unfold Rd; omega)).trg (e2.mono (fun o i k => Rd67 k))) c2 (by rw [e2 _ _ (by omega)]; exact v9))
      refine ⟨⟨by omega, by omega⟩, ⟨by omega, by omega⟩, inR_of (by omega) (by omega), inR_of (by omega) (by omega), fun _ => ⟨ni, ha, fun g => bad (by omega), fun g => ⟨ni, hb, fun g2 => good g g2, fun g2 => bad (by omega)⟩⟩, fun g => by omega⟩
    | succ m ih =>
      intro c μ1 hc e1 v1
      have hR1 := hR.ep e1 (fun o i k => by omega)
      have e46 : μ1 1 6 = j := by rw [e1 _ _ (by omega)]; exact h4
      have e4j : μ1 4 j = toF n T p := by rw [e1 _ _ (by omega)]; exact ef
      have e5j : μ1 5 j = toE n T p - toF n T p := by rw [e1 _ _ (by omega)]; exact es
      have e11 : μ1 1 1 = n := hR1.1.1
      refine v56_17 (by omega) ?_
      rw [e46, e4j, e5j, v1, e11, hR1.1.2 _ (by omega) (by omega)]
      refine ⟨⟨by omega, by omega⟩, ⟨by omega, by omega⟩, inR_of (by omega) (by omega), inR_of (by omega) (by omega), fun g => by omega, fun _ => ⟨inR_of (by omega) (by omega), inR_of (by omega) (by omega), fun g => by omega, fun _ => ⟨⟨by omega, by omega⟩, ?_⟩⟩⟩
      have := ih (c + 1) (mu μ1 1 9 (nv T (toF n T p) c * 10 + T (toF n T p + (c : Int)) - 48)) (by omega) (e1.mu ⟨rfl, rfl⟩) (by rw [mu_s]; rfl)
      rwa [show toF n T p + ((c + 1 : Nat) : Int) = toF n T p + (c : Int) + 1 by omega] at this
  have := key (toE n T p - toF n T p).toNat 0 (mu μ 1 9 0) (by omega) (Ep.rf.mu ⟨rfl, rfl⟩) (by rw [mu_s]; rfl)
  rwa [show toF n T p + ((0 : Nat) : Int) = toF n T p by omega] at this
theorem t_58 {a c : Int} (hd : 1 ≤ d) (hT : TaW μ n T) (hB : TB n T) (hp : μ 1 10 = a) (a0 : 0 ≤ a) (c0 : 0 ≤ c) (ac : a + c < n) (h : Φ (some (.inl (T (a + c) - 97))) μ) : Ct E d 58 [.inr 1, .inl c] μ Φ := by
  have n4 := hB.2.1
  refine v58 hd ?_
  rw [hp, hT.1, hT.2 _ (by omega) ac]
  exact ⟨inR_of (by omega) (by omega), fun e => by omega, fun _ => ⟨inR_of (by omega) (by omega), inR_of (by omega) (by omega), fun e => by omega, fun _ => ⟨⟨by omega, by omega⟩, h⟩⟩⟩
theorem toK_2 (p1 : p ≤ n) (h : toK k n T p = 2) : toF n T p < toE n T p ∧ toE n T p ≤ n := by
  have fb := toF_b (T := T) p1
  have eb := toE_b (T := T) p1
  have : toF n T p ≠ n := fun g => by rw [(toK_0 p1).mpr g] at h; omega
  have := eb.2.2 (by omega)
  omega
theorem t_57 {a : Int} (hd : 3 ≤ d) (hk : k < 4) (hB : TB n T) (ha : inR a) (hR : CR k n T μ p) (hy : toK k n T p = 2 → toE n T p - toF n T p ≤ a → aj T (toF n T p) (toE n T p) → ∀ μ', Ep RdA μ μ' → CR k n T μ' (toE n T p) → μ' 1 10 = toF n T p → μ' 1 11 = toE n T p - toF n T p → Φ (some (.inl 1)) μ') (h2 : toK k n T p = 2 → ¬ (toE n T p - toF n T p ≤ a ∧ aj T (toF n T p) (toE n T p)) → ∀ μ', Ef Rd μ μ' → μ' 1 12 = 2 → μ' 1 13 = toF n T p → Φ (some (.inl 0)) μ') (hn : toK k n T p ≠ 2 → ∀ μ', Ef Rd μ μ' → μ' 1 12 = 1 → μ' 1 13 = toF n T p → Φ (some (.inl 0)) μ') : Ct E d 57 [.inr 1, .inl a] μ Φ := by
  have hR' := hR
  obtain ⟨h1, j, t, g2, g3, h4, h5, h6, h7, h8⟩ := hR'
  have kr := toK_r hk hB h7 h8
  have fb := toF_b (T := T) h8
  have eb := toE_b (T := T) h8
  have c400 := g2.1
  have n4 := hB.2.1
  have ef : μ 4 j = toF n T p := by rw [(g2.2.1 j (by omega)).2.1, h6]
  have es : μ 5 j = toE n T p - toF n T p := by rw [(g2.2.1 j (by omega)).2.2]; unfold toE; rw [h6]
  refine v57 (by omega) ?_
  rw [h5, h4, ef, es]
  have e0 : Ep (fun o i => o = 1 ∧ (i = 10 ∨ i = 11)) μ (mu (mu μ 1 10 (toF n T p)) 1 11 (toE n T p - toF n T p)) := (Ep.rf.mu (by omega)).mu (by omega)
  have e0' : Ep Rd μ (mu (mu μ 1 10 (toF n T p)) 1 11 (toE n T p - toF n T p)) := e0.mono (fun o i k => by unfold Rd; omega)
  have hR1 := hR.ep e0 (fun o i k => by omega)
  have v10 : mu (mu μ 1 10 (toF n T p)) 1 11 (toE n T p - toF n T p) 1 10 = toF n T p := by rw [mu_i (by decide), mu_s]
  have v11 : mu (mu μ 1 10 (toF n T p)) 1 11 (toE n T p - toF n T p) 1 11 = toE n T p - toF n T p := mu_s _ _ _ _
  generalize mu (mu μ 1 10 (toF n T p)) 1 11 (toE n T p - toF n T p) = μ1 at *
  refine ⟨inR_of (by omega) (by omega), fun e => ⟨⟨by omega, by omega⟩, ⟨by omega, by omega⟩, inR_of (by omega) (by omega), ha, fun g => ?_, fun g => t_51 (by omega) hR1 (fun μ' e1 a1 a2 => ⟨Or.inl rfl, h2 e (fun q => by omega) μ' (e0'.trg e1) a1 a2⟩)⟩, fun e => t_51 (by omega) hR (fun μ' e1 a1 a2 => ⟨Or.inl rfl, hn e μ' e1 a1 a2⟩)⟩
  have t2 := toK_2 h8 e
  have key : ∀ (m c : Nat), c + m = (toE n T p - toF n T p).toNat → (∀ i, toF n T p ≤ i → i < toF n T p + c → 97 ≤ T i ∧ T i < 107) → G E d 57 Φ 32 [some (.inr 1), none, some (.inl (c : Int))] [] μ1 := by
    intro m
    induction m with
    | zero =>
      intro c hc hall
      refine v57_32 (by omega) ?_
      rw [v11]
      exact ⟨inR_of (by omega) (by omega), inR_of (by omega) (by omega), fun _ => t_50 (by omega) hB.1 hR1 (fun μ' e1 c1 => hy e g (fun i i0 i1 => hall i i0 (by omega)) μ' ((e0.mono (fun o i k => by unfold RdA; omega)).trg (e1.mono (fun o i k => by unfold RdA; omega))) c1 (by rw [e1 _ _ (by omega)]; exact v10) (by rw [e1 _ _ (by omega)]; exact v11)), fun q => by omega⟩
    | succ m ih =>
      intro c hc hall
      have rT := hB.2.2 (toF n T p + c) (by omega) (by omega)
      refine v57_32 (by omega) ?_
      rw [v11]
      refine ⟨inR_of (by omega) (by omega), inR_of (by omega) (by omega), fun q => by omega, fun _ => t_58 (by omega) hR1.1 hB v10 (by omega) (by omega) (by omega) (s152 (by omega) (inR_of (by omega) (by omega)) ⟨b2_in _, fun q => ?_, fun q => ?_⟩)⟩
      · have q := b2_ne0.mp q
        exact ih (c + 1) (by omega) (fun i i0 i1 => by
          by_cases gi : i = toF n T p + c
          · rw [gi]; omega
          · exact hall i i0 (by omega))
      · have q := b2_0.mp q
        exact t_51 (by omega) hR1 (fun μ' e1 a1 a2 => ⟨Or.inl rfl, h2 e (fun z => q (by have := z.2 (toF n T p + c) (by omega) (by omega); omega)) μ' (e0'.trg e1) a1 a2⟩)
  exact key (toE n T p - toF n T p).toNat 0 (by omega) (fun i i0 i1 => by omega)
end S57
