/-! the tokens of the class -/
/-- the class' reader at the token that is found from p on -/
def CT (k : Nat) (n : Int) (T : Int → Int) (μ : Mm) (t : Nat) : Prop := t ≤ 400 ∧ (∀ i : Nat, i ≤ t → μ 3 i = toK k n T (pp n T i) ∧ μ 4 i = toF n T (pp n T i) ∧ μ 5 i = toE n T (pp n T i) - toF n T (pp n T i)) ∧ toK k n T (pp n T t) = 0 ∧ μ 1 5 = (t : Int) + 1
def CR (k : Nat) (n : Int) (T : Int → Int) (μ : Mm) (p : Int) : Prop := TaW μ n T ∧ ∃ j t : Nat, CT k n T μ t ∧ j ≤ t ∧ μ 1 6 = j ∧ μ 1 7 = toK k n T p ∧ toF n T p = toF n T (pp n T j) ∧ 0 ≤ p ∧ p ≤ n
/-- what a tape may hold -/
def TB (n : Int) (T : Int → Int) : Prop := 0 ≤ n ∧ n ≤ 400 ∧ ∀ i, 0 ≤ i → i < n → 0 ≤ T i ∧ T i ≤ 255
section S56
variable {E : En} {d : Nat} {Φ : Option AV → Mm → Prop} {μ μ' : Mm} {n p q : Int} {T : Int → Int} {k : Nat}
theorem s43 (hd : 2 ≤ d) (hT : TaW μ n T) (hB : TB n T) (q0 : 0 ≤ q) (q1 : q < n) (h : Φ (some (.inl (tEq n T q))) μ) : Ct E d 43 [.inr 1, .inl q] μ Φ := by
  obtain ⟨n0, n4, hR⟩ := hB
  have tq : μ 2 q = T q := hT.2 q q0 q1
  have rq := hR q q0 q1
  have la : alp (T q) → ∀ (m : Nat) (e : Int), (n - e).toNat = m → q ≤ e → e ≤ n → rnE alp T n q = rnE alp T n e → G E d 43 Φ 8 [some (.inr 1), some (.inl q), some (.inl e)] [] μ := by
    intro ha m
    have hres : Φ (some (.inl (iMax (rnE alp T n q) (q + 1)))) μ := by
      have := tEq_b (T := T) q1
      rw [tEq_a q1 ha] at this h
      rw [iMax_eq (inR_of (by omega) (by omega)) (inR_of (by omega) (by omega)), show max (rnE alp T n q) (q + 1) = rnE alp T n q by omega]
      exact h
    induction m with
    | zero =>
      intro e hm e0 e1 he
      refine v43_8 (by omega) ?_
      rw [hT.1]
      refine ⟨inR_of (by omega) (by omega), inR_of (by omega) (by omega), fun _ => ?_, fun g => by omega⟩
      rw [he, rn_n (by omega)] at hres
      exact hres
    | succ m ih =>
      intro e hm e0 e1 he
      have re := hR e (by omega) (by omega)
      refine v43_8 (by omega) ?_
      rw [hT.1, hT.2 e (by omega) (by omega)]
      refine ⟨inR_of (by omega) (by omega), inR_of (by omega) (by omega), fun g => by omega, fun _ => ⟨⟨by omega, by omega⟩, s48 (by omega) (inR_of (by omega) (by omega)) ⟨b2_in _, fun g => ?_, fun g => ?_⟩⟩⟩
      · rw [he, rn_f (by omega) (b2_0.mp g)] at hres
        exact hres
      · exact ih (e + 1) (by omega) (by omega) (by omega) (by rw [he, rn_t (by omega) (b2_ne0.mp g)])
  have ld : ¬ alp (T q) → ∀ (m : Nat) (e : Int), (n - e).toNat = m → q ≤ e → e ≤ n → rnE dig T n q = rnE dig T n e → G E d 43 Φ 20 [some (.inr 1), some (.inl q), some (.inl e)] [] μ := by
    intro ha m
    have hres : Φ (some (.inl (iMax (rnE dig T n q) (q + 1)))) μ := by
      have hb := tEq_b (T := T) q1
      by_cases g : dig (T q)
      · rw [tEq_d q1 g] at hb h
        rw [iMax_eq (inR_of (by omega) (by omega)) (inR_of (by omega) (by omega)), show max (rnE dig T n q) (q + 1) = rnE dig T n q by omega]
        exact h
      · rw [tEq_o q1 ha g] at hb h
        rw [rn_f q1 g, iMax_eq (inR_of (by omega) (by omega)) (inR_of (by omega) (by omega)), show max q (q + 1) = q + 1 by omega]
        exact h
    induction m with
    | zero =>
      intro e hm e0 e1 he
      refine v43_20 (by omega) ?_
      rw [hT.1]
      refine ⟨inR_of (by omega) (by omega), inR_of (by omega) (by omega), fun _ => ?_, fun g => by omega⟩
      rw [he, rn_n (by omega)] at hres
      exact hres
    | succ m ih =>
      intro e hm e0 e1 he
      have re := hR e (by omega) (by omega)
      refine v43_20 (by omega) ?_
      rw [hT.1, hT.2 e (by omega) (by omega)]
      refine ⟨inR_of (by omega) (by omega), inR_of (by omega) (by omega), fun g => by omega, fun _ => ⟨⟨by omega, by omega⟩, s49 (by omega) (inR_of (by omega) (by omega)) ⟨b2_in _, fun g => ?_, fun g => ?_⟩⟩⟩
      · rw [he, rn_f (by omega) (b2_0.mp g)] at hres
        exact hres
      · exact ih (e + 1) (by omega) (by omega) (by omega) (by rw [he, rn_t (by omega) (b2_ne0.mp g)])
  refine v43 (by omega) ?_
  rw [tq]
  exact ⟨⟨q0, by omega⟩, s48 (by omega) (inR_of (by omega) (by omega)) ⟨b2_in _, fun g => ld (b2_0.mp g) _ q rfl (by omega) (by omega) rfl, fun g => la (b2_ne0.mp g) _ q rfl (by omega) (by omega) rfl⟩⟩
theorem s44 (hd : 7 ≤ d) (hk : k < 4) (hT : TaW μ n T) (hB : TB n T) (q0 : 0 ≤ q) (q1 : q < n) (h : Φ (some (.inl (tKq k n T q))) μ) : Ct E d 44 [.inr 1, .inl q, .inl (tEq n T q), .inr (1000 + sk k)] μ Φ := by
  obtain ⟨n0, n4, hR⟩ := id hB
  have rq := hR q q0 q1
  have eb := tEq_b (T := T) q1
  unfold tKq at h
  rw [if_neg (by omega)] at h
  refine v44 (by omega) ?_
  rw [hT.2 q q0 q1]
  refine ⟨⟨q0, by omega⟩, s48 (by omega) (inR_of (by omega) (by omega)) ⟨b2_in _, fun g => s49 (by omega) (inR_of (by omega) (by omega)) ⟨b2_in _, fun g2 => ?_, fun g2 => ?_⟩, fun g => ?_⟩⟩
  · have g := b2_0.mp g
    have g2 := b2_0.mp g2
    rw [if_neg g, if_neg g2] at h
    refine s288 (by omega) rq.1 rq.2 (fun hs => ⟨inR_of (by decide) (by decide), fun _ => ?_, fun e => absurd e (by decide)⟩) (fun hs z hz z0 => ⟨hz, fun e => by omega, fun _ => ?_⟩)
    · rw [if_neg hs] at h; exact h
    · rw [if_pos hs] at h; exact h
  · have g := b2_0.mp g
    have g2 := b2_ne0.mp g2
    rw [if_neg g, if_pos g2] at h
    refine ⟨inR_of (by omega) (by omega), fun e => ?_, fun e => ?_⟩
    · rw [if_neg (by omega)] at h; exact h
    · rw [if_pos (by omega)] at h; exact h
  · have g := b2_ne0.mp g
    rw [if_pos g] at h
    have kb0 : inR (kwC k T q (tEq n T q)) := by
      by_cases e : kwC k T q (tEq n T q) = -1
      · rw [e]; exact inR_of (by decide) (by decide)
      · have := ((kw_eq hk).1 e).2
        have k16 : kc k ≤ 16 := (by decide : ∀ k, k < 4 → kc k ≤ 16) k hk
        exact inR_of (by omega) (by omega)
    refine s45 (by omega) hk hT n4 q0 (by omega) eb.2 hR ⟨kb0, fun e => ?_, fun e => ?_⟩
    · rw [if_neg e] at h; exact h
    · rw [if_pos e] at h; exact h
theorem toF_k (hp : p < n) (hb : blk (T p)) : toF n T (p + 1) = toF n T p := (rn_t hp hb).symm
theorem toF_q (hp : p < n) (hb : ¬ blk (T p)) : toF n T p = p := rn_f hp hb
/-- the tape is split -/
theorem s41 (hd : 9 ≤ d) (hk : k < 4) (hT : TaW μ n T) (hB : TB n T) (h : ∀ μ', Ep (fun o i => (3 ≤ o ∧ o ≤ 5) ∨ (o = 1 ∧ 5 ≤ i ∧ i ≤ 7)) μ μ' → CR k n T μ' 0 → Φ none μ') : Ct E d 41 [.inr 1, .inr (1000 + sk k)] μ Φ := by
  obtain ⟨n0, n4, hR⟩ := id hB
  have key : ∀ (m : Nat) (x : Int) (t : Nat) (μ1 : Mm), (n - x).toNat = m → 0 ≤ x → x ≤ n → (t : Int) ≤ x → Ep (fun o i => (3 ≤ o ∧ o ≤ 5) ∨ (o = 1 ∧ 5 ≤ i ∧ i ≤ 7)) μ μ1 → μ1 1 5 = t → toF n T x = toF n T (pp n T t) → (∀ i : Nat, i < t → μ1 3 i = toK k n T (pp n T i) ∧ μ1 4 i = toF n T (pp n T i) ∧ μ1 5 i = toE n T (pp n T i) - toF n T (pp n T i)) → G E d 41 Φ 5 [some (.inr 1), some (.inr (1000 + sk k)), some (.inl x), none] [] μ1 := by
    intro m
    induction m using Nat.strongRecOn with
    | ind m ih =>
      intro x t μ1 hm x0 x1 ht hE h5 hx hst
      have hT1 : TaW μ1 n T := ⟨by rw [hE _ _ (by omega)]; exact hT.1, fun i i0 i1 => by rw [hE _ _ (by omega)]; exact hT.2 i i0 i1⟩
      refine v41_5 (by omega) ?_
      rw [hT1.1]
      refine ⟨inR_of (by omega) (by omega), inR_of (by omega) (by omega), fun g => ?_, fun g => s43 (by omega) hT1 hB x0 g ?_⟩
      · have xn : x = n := by omega
        have fx : toF n T (pp n T t) = n := by rw [← hx, xn]; exact rn_n (Int.le_refl _)
        have hp := pp_b (T := T) n0 t
        have k0 : toK k n T (pp n T t) = 0 := (toK_0 hp.2).mpr fx
        have e0 : toE n T (pp n T t) = n := by show tEq n T (toF n T (pp n T t)) = n; rw [fx]; exact tEq_n (Int.le_refl _)
        refine v42 (by omega) ?_
        rw [h5]
        refine ⟨inR_of (by omega) (by omega), fun _ => ⟨⟨by omega, by omega⟩, ⟨by omega, by omega⟩, ⟨by omega, by omega⟩, ?_⟩, fun g => by omega⟩
        have st : ∀ i : Nat, i ≤ t → mu (mu (mu (mu (mu (mu μ1 3 t 0) 4 t n) 5 t (n - n)) 1 5 ((t : Int) + 1)) 1 6 0) 1 7 (mu (mu (mu (mu μ1 3 t 0) 4 t n) 5 t (n - n)) 1 5 ((t : Int) + 1) 3 0) 3 i = toK k n T (pp n T i) ∧ mu (mu (mu (mu (mu (mu μ1 3 t 0) 4 t n) 5 t (n - n)) 1 5 ((t : Int) + 1)) 1 6 0) 1 7 (mu (mu (mu (mu μ1 3 t 0) 4 t n) 5 t (n - n)) 1 5 ((t : Int) + 1) 3 0) 4 i = toF n T (pp n T i) ∧ mu (mu (mu (mu (mu (mu μ1 3 t 0) 4 t n) 5 t (n - n)) 1 5 ((t : Int) + 1)) 1 6 0) 1 7 (mu (mu (mu (mu μ1 3 t 0) 4 t n) 5 t (n - n)) 1 5 ((t : Int) + 1) 3 0) 5 i = toE n T (pp n T i) - toF n T (pp n T i) := by
          intro i hi
          by_cases e : i = t
          · subst e
            refine ⟨?_, ?_, ?_⟩
            · rw [mu_o (by decide), mu_o (by decide), mu_o (by decide), mu_o (by decide), mu_o (by decide), mu_s, k0]
            · rw [mu_o (by decide), mu_o (by decide), mu_o (by decide), mu_o (by decide), mu_s, fx]
            · rw [mu_o (by decide), mu_o (by decide), mu_o (by decide), mu_s, fx, e0]
          · have hs := hst i (by omega)
            refine ⟨?_, ?_, ?_⟩
            · rw [mu_o (by decide), mu_o (by decide), mu_o (by decide), mu_o (by decide), mu_o (by decide), mu_i (by omega)]; exact hs.1
            · rw [mu_o (by decide), mu_o (by decide), mu_o (by decide), mu_o (by decide), mu_i (by omega), mu_o (by decide)]; exact hs.2.1
            · rw [mu_o (by decide), mu_o (by decide), mu_o (by decide), mu_i (by omega), mu_o (by decide), mu_o (by decide)]; exact hs.2.2
        refine h _ ((((((hE.mu (by omega)).mu (by omega)).mu (by omega)).mu (by omega)).mu (by omega)).mu (by omega)) ⟨⟨?_, fun i i0 i1 => ?_⟩, 0, t, ⟨by omega, st, k0, ?_⟩, by omega, ?_, ?_, rfl, by omega, by omega⟩
        · rw [mu_i (by decide), mu_i (by decide), mu_i (by decide), mu_o (by decide), mu_o (by decide), mu_o (by decide)]; exact hT1.1
        · rw [mu_o (by decide), mu_o (by decide), mu_o (by decide), mu_o (by decide), mu_o (by decide), mu_o (by decide)]; exact hT1.2 i i0 i1
        · rw [mu_i (by decide), mu_i (by decide), mu_s]
        · rw [mu_i (by decide), mu_s]; rfl
        · rw [mu_s]
          have := (st 0 (by omega)).1
          rw [mu_o (by decide), mu_o (by decide)] at this
          exact this
      · have rx := hR x x0 g
        have eb := tEq_b (T := T) g
        simp only [rI]
        rw [hT1.2 x x0 g, iMax_eq (inR_of (by omega) (by omega)) (inR_of (by omega) (by omega)), show max (tEq n T x) (x + 1) = tEq n T x by omega]
        refine ⟨⟨x0, by omega⟩, s47 (by omega) (inR_of (by omega) (by omega)) ⟨b2_in _, fun g2 => ?_, fun g2 => ?_⟩⟩
        · have hb := b2_ne0.mp g2
          have ex : tEq n T x = x + 1 := tEq_o g (fun a => (alp_dig a).2.2 hb) (fun a => (dig_sgn a).2 hb)
          rw [ex]
          exact ih _ (by omega) (x + 1) t μ1 rfl (by omega) (by omega) (by omega) hE h5 (by rw [toF_k g hb]; exact hx) hst
        · have hb := b2_0.mp g2
          have fx := toF_q g hb
          refine s44 (by omega) hk hT1 hB x0 g (v42 (by omega) ?_)
          rw [h5]
          refine ⟨inR_of (by omega) (by omega), fun _ => ⟨⟨by omega, by omega⟩, ⟨by omega, by omega⟩, ⟨by omega, by omega⟩, ?_⟩, fun g => by omega⟩
          have ep : toF n T (pp n T t) = x := by rw [← hx]; exact fx
          have ee : toE n T (pp n T t) = tEq n T x := by show tEq n T (toF n T (pp n T t)) = _; rw [ep]
          have ek : toK k n T (pp n T t) = tKq k n T x := by show tKq k n T (toF n T (pp n T t)) = _; rw [ep]
          refine ih _ (by omega) (tEq n T x) (t + 1) _ rfl (by omega) (by omega) (by omega) ((((hE.mu (by omega)).mu (by omega)).mu (by omega)).mu (by omega)) (by rw [mu_s]; omega) (by show _ = toF n T (toE n T (pp n T t)); rw [ee]) (fun i hi => ?_)
          by_cases e : i = t
          · subst e
            refine ⟨?_, ?_, ?_⟩
            · rw [mu_o (by decide), mu_o (by decide), mu_o (by decide), mu_s, ek]
            · rw [mu_o (by decide), mu_o (by decide), mu_s, ep]
            · rw [mu_o (by decide), mu_s, ep, ee]
          · have hs := hst i (by omega)
            refine ⟨?_, ?_, ?_⟩
            · rw [mu_o (by decide), mu_o (by decide), mu_o (by decide), mu_i (by omega)]; exact hs.1
            · rw [mu_o (by decide), mu_o (by decide), mu_i (by omega), mu_o (by decide)]; exact hs.2.1
            · rw [mu_o (by decide), mu_i (by omega), mu_o (by decide), mu_o (by decide)]; exact hs.2.2
  exact v41 (by omega) (key _ 0 0 _ rfl (by omega) (by omega) (by omega) (Ep.rf.mu (by omega)) (mu_s _ _ _ _) rfl (fun i hi => absurd hi (Nat.not_lt_zero _)))
end S56
