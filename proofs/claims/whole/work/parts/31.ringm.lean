/-! the reference's ring -/
section S15
variable {E : En} {d : Nat} {Φ : Option AV → Mm → Prop} {μ : Mm} {n s : Nat} {H acc r : List Bool}
/-- two objects change -/
def Eo2 (a b : Nat) (μ μ' : Mm) : Prop := ∀ o i, o ≠ a → o ≠ b → μ' o i = μ o i
theorem Eo2.rf {a b : Nat} {μ : Mm} : Eo2 a b μ μ := fun _ _ _ _ => rfl
theorem Eo2.m1 {a b : Nat} {μ μ' : Mm} {i v : Int} (h : Eo2 a b μ μ') : Eo2 a b μ (mu μ' a i v) := fun o j h1 h2 => by rw [mu_o h1]; exact h o j h1 h2
theorem Eo2.m2 {a b : Nat} {μ μ' : Mm} {i v : Int} (h : Eo2 a b μ μ') : Eo2 a b μ (mu μ' b i v) := fun o j h1 h2 => by rw [mu_o h2]; exact h o j h1 h2
theorem l270_53 {μ0 : Mm} {R : List Bool} (hd : 1 ≤ d) (hn : n ≤ 8) (hl : R.length = n) (hE : Eo2 152 153 μ0 μ) (hA : BH μ 152 acc.length acc) (hB : BH μ 153 n R) (h : ∀ μ', Eo2 152 153 μ0 μ' → BH μ' 152 acc.length acc → BH μ' 153 n (rgN R (rgL R n)) → G E d 270 Φ 9 [some (.inr 123), some (.inl (n : Int)), some (.inl (acc.length : Int)), some (.inl ((rgL R n : Nat) : Int)), none] [] μ') : ∀ m : Nat, m ≤ n → rgL R n = rgL R m →
    G E d 270 Φ 53 [some (.inr 123), some (.inl (n : Int)), some (.inl (acc.length : Int)), some (.inl (m : Int)), none] [] μ := by
  intro m
  induction m with
  | zero =>
    intro hm e
    rw [rgL] at e
    rw [e] at h
    rw [rgN, if_pos rfl] at h
    exact v270_53 hd ⟨inR_of (by omega) (by omega), fun _ => ⟨inR_of (by omega) (by omega), fun _ => h μ hE hA hB, fun h1 => by omega⟩, fun h1 => by omega⟩
  | succ m ih =>
    intro hm e
    rw [rgL] at e
    have ei : ((m + 1 : Nat) : Int) - 1 = (m : Int) := by omega
    refine v270_53 hd ?_
    rw [ei, hB m (by omega)]
    refine ⟨inR_of (by omega) (by omega), fun h1 => by omega, fun _ => ⟨by omega, bv_in _, fun h2 => ⟨inR_of (by omega) (by omega), fun h1 => by omega, fun _ => ⟨by omega, ?_⟩⟩, fun h2 => ?_⟩⟩
    · rw [if_neg (fun q => h2 (bv_1.mpr q))] at e
      rw [e] at h
      rw [rgN, if_neg (by omega), Nat.add_sub_cancel] at h
      refine h _ hE.m2 (fun k hk => by rw [mu_o (by decide)]; exact hA k hk) (fun k hk => ?_)
      rw [gD_set (by omega)]
      by_cases q : k = m
      · rw [q, mu_s, if_pos rfl]; rfl
      · rw [mu_i (by omega), if_neg q]; exact hB k hk
    · rw [if_pos (bv_1.mp h2)] at e
      exact ih (by omega) e
theorem l270_36 {μ0 : Mm} (hd : 1 ≤ d) (hn : n ≤ 8) (s1 : 1 ≤ s) (h : ∀ μ', Eo2 152 153 μ0 μ' → BH μ' 152 acc.length acc → BH μ' 153 n (rgN (rgR n s H) (rgL (rgR n s H) n)) → G E d 270 Φ 9 [some (.inr 123), some (.inl (n : Int)), some (.inl (acc.length : Int)), some (.inl ((rgL (rgR n s H) n : Nat) : Int)), none] [] μ') : ∀ (m k : Nat) (μ : Mm), s ≤ k → k + m = n → Eo2 152 153 μ0 μ → BH μ 152 acc.length acc → BH μ 153 k (rgR n s H) →
    G E d 270 Φ 36 [some (.inr 123), some (.inl (n : Int)), some (.inl (acc.length : Int)), some (.inl (s : Int)), some (.inl (k : Int))] [] μ := by
  intro m
  induction m with
  | zero =>
    intro k μ hk hm hE hA hB
    obtain rfl : k = n := by omega
    exact v270_36 hd ⟨inR_of (by omega) (by omega), inR_of (by omega) (by omega), fun _ => l270_53 hd hn (rgR_l _ _ _) hE hA hB h k (Nat.le_refl _) rfl, fun h1 => by omega⟩
  | succ m ih =>
    intro k μ hk hm hE hA hB
    refine v270_36 hd ⟨inR_of (by omega) (by omega), inR_of (by omega) (by omega), fun h1 => by omega, fun _ => ⟨by omega, by omega, ?_⟩⟩
    refine ih (k + 1) _ (by omega) (by omega) hE.m2 (fun j hj => by rw [mu_o (by decide)]; exact hA j hj) (fun j hj => ?_)
    by_cases q : j = k
    · have e := hB (k - s) (by omega)
      rw [q, mu_s, show (k : Int) - (s : Int) = ((k - s : Nat) : Int) by omega, e, rgR, gD_mr (by omega), gD_mr (by omega), ← Nat.mod_eq_sub_mod hk]
    · rw [mu_i (by omega)]; exact hB j (by omega)
theorem md0 {n s : Nat} (s1 : 1 ≤ s) (hs : s ≤ 8) (hn : n ≤ 8) : inR (iRem (n : Int) (s : Int)) ∧ (iRem (n : Int) (s : Int) = 0 ↔ n % s = 0) := by
  rw [iRem_eq (by omega) (inR_of (by omega) (by omega)) (by omega) (inR_of (by omega) (by omega)), show (n : Int) % (s : Int) = ((n % s : Nat) : Int) from rfl]
  have hq : n % s < s := Nat.mod_lt _ (by omega)
  generalize n % s = q at hq
  exact ⟨inR_of (by omega) (by omega), by omega⟩
theorem l270_13 {μ0 : Mm} (hd : 1 ≤ d) (hn : n ≤ 8) (s1 : 1 ≤ s) (hs : s ≤ n) (hz : n % s = 0) (hl : acc.length + s ≤ 256) (h : ∀ μ', Eo2 152 153 μ0 μ' → BH μ' 153 s H → BH μ' 152 (acc.length + s) (acc ++ (List.range s).map (fun k => H.getD k false)) → G E d 270 Φ 36 [some (.inr 123), some (.inl (n : Int)), some (.inl ((acc.length + s : Nat) : Int)), some (.inl (s : Int)), some (.inl (s : Int))] [] μ') : ∀ (m k : Nat) (μ : Mm), k + m = s → Eo2 152 153 μ0 μ → BH μ 153 s H → BH μ 152 (acc.length + k) (acc ++ (List.range k).map (fun k => H.getD k false)) →
    G E d 270 Φ 13 [some (.inr 123), some (.inl (n : Int)), some (.inl ((acc.length + k : Nat) : Int)), some (.inl (s : Int)), some (.inl (k : Int))] [] μ := by
  have hm0 := md0 s1 (by omega : s ≤ 8) hn
  intro m
  induction m with
  | zero =>
    intro k μ hm hE hH hB
    obtain rfl : k = s := by omega
    exact v270_13 hd ⟨inR_of (by omega) (by omega), inR_of (by omega) (by omega), fun _ => h μ hE hH hB, fun h1 => by omega⟩
  | succ m ih =>
    intro k μ hm hE hH hB
    refine v270_13 hd ⟨inR_of (by omega) (by omega), inR_of (by omega) (by omega), fun h1 => by omega, fun _ => ⟨w32_ne0 (inR_of (by omega) (by omega)) (by omega), hm0.1, fun h2 => absurd (hm0.2.mpr hz) h2, fun _ => ⟨by omega, by omega, ?_⟩⟩⟩
    refine ih (k + 1) _ (by omega) hE.m1 (fun j hj => by rw [mu_o (by decide)]; exact hH j hj) (fun j hj => ?_)
    rw [List.range_succ, List.map_append, ← List.append_assoc]
    have hlen : (acc ++ (List.range k).map (fun k => H.getD k false)).length = acc.length + k := by simp
    by_cases q : j = acc.length + k
    · rw [q, mu_s, hH k (by omega), ← hlen]
      exact congrArg bv gD_ap1.symm
    · rw [mu_i (by omega), gD_ap (by rw [hlen]; omega)]; exact hB j (by omega)
theorem l270_9 {μ0 : Mm} (hd : 1 ≤ d) (hn : n ≤ 8) (hr : r.length ≤ 256) (h : ∀ μ', Eo2 152 153 μ0 μ' → BH μ' 152 r.length r → Φ none μ') : ∀ (m s : Nat) (H acc : List Bool) (μ : Mm), s ≤ n → rgS n m s H acc = some r → Eo2 152 153 μ0 μ → BH μ 153 s H → BH μ 152 acc.length acc →
    G E d 270 Φ 9 [some (.inr 123), some (.inl (n : Int)), some (.inl (acc.length : Int)), some (.inl (s : Int)), none] [] μ := by
  intro m
  induction m with
  | zero => intro s H acc μ _ hS; rw [rgS] at hS; cases hS
  | succ m ih =>
    intro s H acc μ hs hS hE hH hB
    rw [rgS] at hS
    refine v270_9 hd ⟨inR_of (by omega) (by omega), fun h1 => ?_, fun h1 => ?_⟩
    · rw [if_pos (by omega)] at hS
      cases hS
      exact h μ hE hB
    · rw [if_neg (by omega)] at hS
      have hm0 := md0 (by omega : 1 ≤ s) (by omega : s ≤ 8) hn
      have hb := rgS_l _ _ _ _ hS
      have hL := rgL_le (rgR n s H) n
      by_cases hz : n % s = 0
      · rw [if_pos hz] at hS hb
        have hb2 : acc.length + s ≤ 256 := by simp at hb; omega
        have hlen : (acc ++ (List.range s).map (fun k => H.getD k false)).length = acc.length + s := by simp
        refine l270_13 hd hn (by omega) hs hz hb2 (fun μ1 e1 h1 b1 => ?_) s 0 μ (by omega) hE hH (by simpa using hB)
        rw [← hlen] at b1 ⊢
        refine l270_36 hd hn (by omega) (fun μ2 e2 a2 b2 => ?_) (n - s) s μ1 (Nat.le_refl _) (by omega) e1 b1 (BH_R (by omega) hs h1)
        exact ih _ _ _ μ2 hL hS e2 (fun k hk => b2 k (by omega)) a2
      · rw [if_neg hz] at hS
        refine v270_13 hd ⟨inR_of (by omega) (by omega), inR_of (by omega) (by omega), fun h1 => by omega, fun _ => ⟨w32_ne0 (inR_of (by omega) (by omega)) (by omega), hm0.1, fun _ => ?_, fun h2 => absurd (hm0.2.mp h2) hz⟩⟩
        refine l270_36 hd hn (by omega) (fun μ2 e2 a2 b2 => ?_) (n - s) s μ (Nat.le_refl _) (by omega) hE hB (BH_R (by omega) hs hH)
        exact ih _ _ _ μ2 hL hS e2 (fun k hk => b2 k (by omega)) a2
theorem s270 (hd : 1 ≤ d) (h1 : 1 ≤ n) (h8 : n ≤ 8) (h : ∀ μ' r, rgA n = some r → r.length = 2 ^ n → Eo2 152 153 μ μ' → BH μ' 152 r.length r → Φ none μ') : Ct E d 270 [.inr 123, .inl (n : Int)] μ Φ := by
  obtain ⟨r, er, lr⟩ := rgA_ex h1 h8
  have hp : 2 ^ n ≤ 256 := Nat.pow_le_pow_right (n := 2) (j := 8) (by omega) h8
  refine v270 hd ?_
  refine l270_9 (E := E) (r := r) (acc := []) hd h8 (by omega) (fun μ' e' b' => h μ' r er lr e' b') 256 1 [false] _ h1 er Eo2.rf.m2 (fun k hk => ?_) (fun k hk => by simp at hk)
  rw [show (k : Int) = 0 by omega, mu_s, show k = 0 by omega]; rfl
theorem l271 {b : Nat} {w : Option AV} (hw : w = none) (hd : 1 ≤ d) (hB : BH μ 152 r.length r) (hr : r.length ≤ 256) (hb : b ≤ r.length) (h : Φ (some (.inl (su (fun i => bv (r.getD i false)) b))) μ) : ∀ (m k : Nat), k + m = b →
    G E d 271 Φ 43 [some (.inr 123), none, some (.inl (b : Int)), w, some (.inl (su (fun i => bv (r.getD i false)) k)), some (.inl (k : Int))] [] μ := by
  subst hw
  intro m
  induction m with
  | zero =>
    intro k hk
    obtain rfl : k = b := by omega
    exact v271_43 hd ⟨inR_of (by omega) (by omega), inR_of (by omega) (by omega), fun _ => h, fun h1 => by omega⟩
  | succ m ih =>
    intro k hk
    have hx := ih (k + 1) (by omega)
    rw [su] at hx
    refine v271_43 hd ?_
    rw [hB k (by omega)]
    exact ⟨inR_of (by omega) (by omega), inR_of (by omega) (by omega), fun h1 => by omega, fun _ => ⟨by omega, hx⟩⟩
theorem s271 {a b c : Int} (hd : 3 ≤ d) (ha : inR a) (hb : inR b) (hc : inR c) (h : ∀ z μ', rgZ a b c z → Eo2 152 153 (mu μ 123 0 0) μ' → Φ (some (.inl z)) μ') : Ct E d 271 [.inr 123, .inl a, .inl b, .inl c] μ Φ := by
  have k : ∀ x : Nat, x < 2147483648 → inR (x : Int) := fun x hx => inR_of (by omega) (by omega)
  have no : ¬ (1 ≤ a ∧ a ≤ 8 ∧ (c = 0 ∨ c = 1) ∧ 0 ≤ b ∧ b ≤ ((2 ^ a.toNat - 1 : Nat) : Int) + c) → Φ (some (.inl (-1))) (mu μ 123 0 0) := fun e => h _ _ (by unfold rgZ; rw [if_neg e]) Eo2.rf
  refine v271 (by omega) (s153 (by omega) ha (k 1 (by omega)) (k 8 (by omega)) ⟨b2_in _, fun h1 => no (by have := b2_0.mp h1; omega), fun h1 => s153 (by omega) hc (k 0 (by omega)) (k 1 (by omega)) ⟨b2_in _, fun h2 => no (by have := b2_0.mp h2; omega), fun h2 => ?_⟩⟩)
  have h1 := b2_ne0.mp h1
  have h2 := b2_ne0.mp h2
  obtain ⟨n, rfl⟩ : ∃ q : Nat, a = q := ⟨a.toNat, by omega⟩
  rw [Int.toNat_natCast] at no
  have hp : 2 ^ n ≤ 256 := Nat.pow_le_pow_right (n := 2) (j := 8) (by omega) (by omega)
  have hp0 := Nat.two_pow_pos n
  have hsh : iShl 1 (n : Int) = ((2 ^ n : Nat) : Int) := by
    have := nShl (a := 1) (k := n) (by omega) (by omega)
    rw [Nat.one_mul] at this; exact this
  rw [hsh]
  generalize hP : 2 ^ n = P at *
  refine s153 (by omega) hb (k 0 (by omega)) (inR_of (by omega) (by omega)) ⟨b2_in _, fun h3 => ?_, fun h3 => no (by have := b2_0.mp h3; omega)⟩
  have h3 := b2_ne0.mp h3
  refine s270 (by omega) (by omega) (by omega) (fun μ' r er lr e' b' => ⟨hc, fun h5 => ?_, fun h5 => ⟨by omega, ?_⟩⟩)
  · obtain ⟨b, rfl⟩ : ∃ q : Nat, b = q := ⟨b.toNat, by omega⟩
    have hbr : b ≤ r.length := by rw [lr, hP]; omega
    have hr2 : r.length ≤ 256 := by rw [lr, hP]; omega
    refine l271 (E := E) (r := r) (b := b) rfl (by omega) b' hr2 hbr (h _ μ' ?_ e') b 0 (by omega)
    unfold rgZ
    rw [if_pos (by rw [Int.toNat_natCast, hP]; omega), Int.toNat_natCast, Int.toNat_natCast]
    exact ⟨r, er, by rw [if_neg (by omega)]⟩
  · have := b' b.toNat (by rw [lr, hP]; omega)
    rw [show ((b.toNat : Nat) : Int) = b by omega] at this
    rw [this]
    refine h _ μ' ?_ e'
    unfold rgZ
    rw [if_pos (by rw [Int.toNat_natCast, hP]; omega), Int.toNat_natCast]
    exact ⟨r, er, by rw [if_pos h5]⟩
end S15
