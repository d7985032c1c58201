/-! the ring -/
def rgR (n s : Nat) (H : List Bool) : List Bool := (List.range n).map (fun k => H.getD (k % s) false)
def rgL (H : List Bool) : Nat → Nat
  | 0 => 0
  | m + 1 => if H.getD m false then rgL H m else m + 1
def rgN (R : List Bool) (L : Nat) : List Bool := if L = 0 then R else R.set (L - 1) true
/-- the ring's bits; none where so many steps do not do -/
def rgS (n : Nat) : Nat → Nat → List Bool → List Bool → Option (List Bool)
  | 0, _, _, _ => none
  | m + 1, s, H, acc => if s = 0 then some acc else
    rgS n m (rgL (rgR n s H) n) (rgN (rgR n s H) (rgL (rgR n s H) n)) (if n % s = 0 then acc ++ (List.range s).map (fun k => H.getD k false) else acc)
def rgA (n : Nat) : Option (List Bool) := rgS n 256 1 [false] []
theorem rg_l : ∀ n, n < 9 → 1 ≤ n → (rgA n).map List.length = some (2 ^ n) := by decide +kernel
def bv (b : Bool) : Int := if b then 1 else 0
theorem bv_in (b : Bool) : inR (bv b) := by cases b <;> exact inR_of (by decide) (by decide)
theorem bv_1 {b : Bool} : bv b = 1 ↔ b = true := by cases b <;> decide
def BH (μ : Mm) (o n : Nat) (H : List Bool) : Prop := ∀ k : Nat, k < n → μ o k = bv (H.getD k false)
theorem gD_mr {g : Nat → Bool} {n k : Nat} (h : k < n) : ((List.range n).map g).getD k false = g k := by
  simp [List.getD_eq_getElem?_getD, h]
theorem gD_ap1 {l : List Bool} {b : Bool} : (l ++ [b]).getD l.length false = b := by
  simp [List.getD_eq_getElem?_getD]
theorem gD_ap {l r : List Bool} {k : Nat} (h : k < l.length) : (l ++ r).getD k false = l.getD k false := by
  simp [List.getD_eq_getElem?_getD, List.getElem?_append_left h]
theorem gD_set {R : List Bool} {j k : Nat} (h : j < R.length) : (R.set j true).getD k false = if k = j then true else R.getD k false := by
  rw [List.getD_eq_getElem?_getD, List.getD_eq_getElem?_getD, List.getElem?_set]
  by_cases e : k = j
  · subst e; simp [h]
  · rw [if_neg (fun h => e h.symm), if_neg e]
theorem rgR_l (n s : Nat) (H : List Bool) : (rgR n s H).length = n := by simp [rgR]
theorem rgL_le (H : List Bool) : ∀ m, rgL H m ≤ m := by
  intro m; induction m with
  | zero => rw [rgL]; omega
  | succ m ih => rw [rgL]; split <;> omega
theorem rgS_l {n : Nat} {r : List Bool} : ∀ (m s : Nat) (H acc : List Bool), rgS n m s H acc = some r → acc.length ≤ r.length := by
  intro m; induction m with
  | zero => intro s H acc h; rw [rgS] at h; cases h
  | succ m ih =>
    intro s H acc h
    rw [rgS] at h
    split at h
    · cases h; omega
    · have := ih _ _ _ h
      split at this
      · rw [List.length_append] at this; omega
      · exact this
def Eo3 (a b c : Nat) (μ μ' : Mm) : Prop := ∀ o i, o ≠ a → o ≠ b → o ≠ c → μ' o i = μ o i
theorem Eo3.rf {a b c : Nat} {μ : Mm} : Eo3 a b c μ μ := fun _ _ _ _ _ => rfl
theorem Eo3.m1 {a b c : Nat} {μ μ' : Mm} {i v : Int} (h : Eo3 a b c μ μ') : Eo3 a b c μ (mu μ' a i v) := fun o j h1 h2 h3 => by rw [mu_o h1]; exact h o j h1 h2 h3
theorem Eo3.m2 {a b c : Nat} {μ μ' : Mm} {i v : Int} (h : Eo3 a b c μ μ') : Eo3 a b c μ (mu μ' b i v) := fun o j h1 h2 h3 => by rw [mu_o h2]; exact h o j h1 h2 h3
theorem Eo3.m3 {a b c : Nat} {μ μ' : Mm} {i v : Int} (h : Eo3 a b c μ μ') : Eo3 a b c μ (mu μ' c i v) := fun o j h1 h2 h3 => by rw [mu_o h3]; exact h o j h1 h2 h3
theorem Eo3.e3 {a b c : Nat} {μ μ' μ'' : Mm} (h : Eo3 a b c μ μ') (e : Eo c μ' μ'') : Eo3 a b c μ μ'' := fun o j h1 h2 h3 => by rw [e o j h3]; exact h o j h1 h2 h3
section S14
variable {E : En} {d : Nat} {Φ : Option AV → Mm → Prop} {μ : Mm} {n s : Nat} {H acc r : List Bool}
theorem l73_19 {μ0 : Mm} {R : List Bool} (hd : 1 ≤ d) (hn : n ≤ 8) (hl : R.length = n) (hE : Eo 122 μ0 μ) (hB : BH μ 122 n R) (h : ∀ μ', Eo 122 μ0 μ' → BH μ' 122 n (rgN R (rgL R n)) → Φ (some (.inl ((rgL R n : Nat) : Int))) μ') : ∀ m : Nat, m ≤ n → rgL R n = rgL R m →
    G E d 73 Φ 19 [some (.inr 120), none, none, some (.inl (m : Int))] [] μ := by
  intro m
  induction m with
  | zero =>
    intro hm e
    rw [rgL] at e
    rw [e] at h
    rw [rgN, if_pos rfl] at h
    exact v73_19 hd ⟨inR_of (by omega) (by omega), fun _ => ⟨inR_of (by omega) (by omega), fun _ => h μ hE hB, fun h1 => by omega⟩, fun h1 => by omega⟩
  | succ m ih =>
    intro hm e
    rw [rgL] at e
    have ei : ((m + 1 : Nat) : Int) - 1 = (m : Int) := by omega
    refine v73_19 hd ?_
    rw [ei, hB m (by omega)]
    refine ⟨inR_of (by omega) (by omega), fun h1 => by omega, fun _ => ⟨by omega, bv_in _, fun h2 => ⟨inR_of (by omega) (by omega), fun h1 => by omega, fun _ => ⟨by omega, ?_⟩⟩, fun h2 => ?_⟩⟩
    · rw [if_neg (fun q => h2 (bv_1.mpr q))] at e
      rw [e] at h
      rw [rgN, if_neg (by omega), Nat.add_sub_cancel] at h
      refine h _ hE.mu (fun k hk => ?_)
      rw [gD_set (by omega)]
      by_cases q : k = m
      · rw [q, mu_s, if_pos rfl]; rfl
      · rw [mu_i (by omega), if_neg q]; exact hB k hk
    · rw [if_pos (bv_1.mp h2)] at e
      have := ih (by omega) e
      rw [show ((m + 1 : Nat) : Int) + -1 = (m : Int) by omega]
      exact this
theorem l73_2 {μ0 : Mm} (hd : 1 ≤ d) (hn : n ≤ 8) (s1 : 1 ≤ s) (h : ∀ μ', Eo 122 μ0 μ' → BH μ' 122 n (rgN (rgR n s H) (rgL (rgR n s H) n)) → Φ (some (.inl ((rgL (rgR n s H) n : Nat) : Int))) μ') : ∀ (m k : Nat) (μ : Mm), s ≤ k → k + m = n → Eo 122 μ0 μ → BH μ 122 k (rgR n s H) →
    G E d 73 Φ 2 [some (.inr 120), some (.inl (n : Int)), some (.inl (s : Int)), some (.inl (k : Int))] [] μ := by
  intro m
  induction m with
  | zero =>
    intro k μ hk hm hE hB
    obtain rfl : k = n := by omega
    exact v73_2 hd ⟨inR_of (by omega) (by omega), inR_of (by omega) (by omega), fun _ => l73_19 hd hn (rgR_l _ _ _) hE hB h k (Nat.le_refl _) rfl, fun h1 => by omega⟩
  | succ m ih =>
    intro k μ hk hm hE hB
    refine v73_2 hd ⟨inR_of (by omega) (by omega), inR_of (by omega) (by omega), fun h1 => by omega, fun _ => ⟨by omega, by omega, ?_⟩⟩
    refine ih (k + 1) _ (by omega) (by omega) hE.mu (fun j hj => ?_)
    by_cases q : j = k
    · have e := hB (k - s) (by omega)
      rw [q, mu_s, show (k : Int) - (s : Int) = ((k - s : Nat) : Int) by omega, e, rgR, gD_mr (by omega), gD_mr (by omega), ← Nat.mod_eq_sub_mod hk]
    · rw [mu_i (by omega)]; exact hB j (by omega)
theorem BH_R (s1 : 1 ≤ s) (hs : s ≤ n) {o : Nat} (hB : BH μ o s H) : BH μ o s (rgR n s H) := fun k hk => by
  rw [hB k hk, rgR, gD_mr (by omega), Nat.mod_eq_of_lt hk]
theorem s73 (hd : 1 ≤ d) (hn : n ≤ 8) (s1 : 1 ≤ s) (hs : s ≤ n) (hB : BH μ 122 s H) (h : ∀ μ', Eo 122 μ μ' → BH μ' 122 n (rgN (rgR n s H) (rgL (rgR n s H) n)) → Φ (some (.inl ((rgL (rgR n s H) n : Nat) : Int))) μ') : Ct E d 73 [.inr 120, .inl (n : Int), .inl (s : Int)] μ Φ :=
  v73 hd (l73_2 hd hn s1 h (n - s) s μ (Nat.le_refl _) (by omega) Eo.rf (BH_R s1 hs hB))
/-- the class appends -/
theorem l72 {μ0 : Mm} (hd : 1 ≤ d) (hs : s ≤ 8) (hl : acc.length + s ≤ 256) (h : ∀ μ', Eo3 120 121 122 μ0 μ' → BH μ' 122 s H → μ' 120 0 = μ0 120 0 → μ' 120 2 = ((acc ++ (List.range s).map (fun k => H.getD k false)).length : Nat) → BH μ' 121 (acc.length + s) (acc ++ (List.range s).map (fun k => H.getD k false)) → Φ none μ') : ∀ (m k : Nat) (μ : Mm), k + m = s → Eo3 120 121 122 μ0 μ → BH μ 122 s H → μ 120 0 = μ0 120 0 → μ 120 2 = (acc.length + k : Nat) → BH μ 121 (acc.length + k) (acc ++ (List.range k).map (fun k => H.getD k false)) →
    G E d 72 Φ 2 [some (.inr 120), some (.inl (s : Int)), some (.inl (k : Int))] [] μ := by
  intro m
  induction m with
  | zero =>
    intro k μ hm hE hH h0 h2 hB
    obtain rfl : k = s := by omega
    refine v72_2 hd ⟨inR_of (by omega) (by omega), inR_of (by omega) (by omega), fun _ => h μ hE hH h0 (by rw [h2]; simp) hB, fun h1 => by omega⟩
  | succ m ih =>
    intro k μ hm hE hH h0 h2 hB
    refine v72_2 hd ?_
    rw [h2]
    refine ⟨inR_of (by omega) (by omega), inR_of (by omega) (by omega), fun h1 => by omega, fun _ => ⟨inR_of (by omega) (by omega), fun h1 => by omega, fun _ => ⟨by omega, by omega, ?_⟩⟩⟩
    refine ih (k + 1) _ (by omega) hE.m2.m1 (fun j hj => by rw [mu_o (by decide), mu_o (by decide)]; exact hH j hj) (by rw [mu_i (by decide), mu_o (by decide)]; exact h0) (by rw [mu_s]; omega) (fun j hj => ?_)
    rw [mu_o (by decide), List.range_succ, List.map_append, ← List.append_assoc]
    have hlen : (acc ++ (List.range k).map (fun k => H.getD k false)).length = acc.length + k := by simp
    by_cases q : j = acc.length + k
    · rw [q, mu_s, hH k (by omega), ← hlen]
      exact congrArg bv gD_ap1.symm
    · rw [mu_i (by omega), gD_ap (by rw [hlen]; omega)]; exact hB j (by omega)
theorem s72 (hd : 1 ≤ d) (hs : s ≤ 8) (hl : acc.length + s ≤ 256) (hH : BH μ 122 s H) (h2 : μ 120 2 = (acc.length : Nat)) (hB : BH μ 121 acc.length acc) (h : ∀ μ', Eo3 120 121 122 μ μ' → BH μ' 122 s H → μ' 120 0 = μ 120 0 → μ' 120 2 = ((acc ++ (List.range s).map (fun k => H.getD k false)).length : Nat) → BH μ' 121 (acc.length + s) (acc ++ (List.range s).map (fun k => H.getD k false)) → Φ none μ') : Ct E d 72 [.inr 120, .inl (s : Int)] μ Φ :=
  v72 hd (l72 hd hs hl h s 0 μ (by omega) Eo3.rf hH rfl h2 (by simpa using hB))
theorem l71 {μ0 : Mm} (hd : 2 ≤ d) (hn : n ≤ 8) (hr : r.length ≤ 256) (h : ∀ μ', Eo3 120 121 122 μ0 μ' → μ' 120 0 = μ0 120 0 → μ' 120 2 = (r.length : Nat) → BH μ' 121 r.length r → Φ none μ') : ∀ (m s : Nat) (H acc : List Bool) (μ : Mm), m ≤ 256 → s ≤ n → rgS n m s H acc = some r → Eo3 120 121 122 μ0 μ → BH μ 122 s H → μ 120 0 = μ0 120 0 → μ 120 2 = (acc.length : Nat) → BH μ 121 acc.length acc →
    G E d 71 Φ 20 [some (.inr 120), some (.inl (n : Int)), some (.inl (s : Int)), some (.inl ((256 : Int) - m))] [] μ := by
  intro m
  induction m with
  | zero => intro s H acc μ _ _ hS; rw [rgS] at hS; cases hS
  | succ m ih =>
    intro s H acc μ hm hs hS hE hH h0 h2 hB
    rw [rgS] at hS
    refine v71_20 (by omega) ⟨inR_of (by omega) (by omega), fun h1 => by omega, fun _ => ⟨inR_of (by omega) (by omega), fun h1 => ?_, fun h1 => ⟨w32_ne0 (inR_of (by omega) (by omega)) (by omega), ?_⟩⟩⟩
    · rw [if_pos (by omega)] at hS
      cases hS
      exact h μ hE h0 h2 hB
    · rw [if_neg (by omega)] at hS
      rw [iRem_eq (by omega) (inR_of (by omega) (by omega)) (by omega) (inR_of (by omega) (by omega)), show (n : Int) % (s : Int) = ((n % s : Nat) : Int) from rfl]
      have hq : n % s < s := Nat.mod_lt _ (by omega)
      have hq0 : (0 : Int) ≤ ((n % s : Nat) : Int) := Int.natCast_nonneg _
      have hb := rgS_l _ _ _ _ hS
      have hL := rgL_le (rgR n s H) n
      have ez : ((n % s : Nat) : Int) = 0 ↔ n % s = 0 := ⟨fun e => Int.ofNat.inj e, fun e => by rw [e]; rfl⟩
      have cr : inR ((n % s : Nat) : Int) := by generalize n % s = q at hq; exact inR_of (by omega) (by omega)
      refine ⟨cr, fun h3 => ?_, fun h3 => ?_⟩
      · rw [if_neg (fun q => h3 (ez.mpr q))] at hS
        refine s73 (by omega) hn (by omega) hs hH (fun μ' e' b' => ?_)
        have := ih _ _ _ μ' (by omega) hL hS (hE.e3 e') (fun k hk => b' k (by omega)) (by rw [e' _ _ (by decide)]; exact h0) (by rw [e' _ _ (by decide)]; exact h2) (fun k hk => by rw [e' _ _ (by decide)]; exact hB k hk)
        rw [show (256 : Int) - (m : Int) = 256 - ((m + 1 : Nat) : Int) + 1 by omega] at this
        exact this
      · rw [if_pos (ez.mp h3)] at hS hb
        have hb2 : acc.length + s ≤ 256 := by simp at hb; omega
        refine s72 (by omega) (by omega) hb2 hH h2 hB (fun μ1 e1 g1 g0 g2 gB => ?_)
        refine s73 (by omega) hn (by omega) hs g1 (fun μ' e' b' => ?_)
        have hlen : (acc ++ (List.range s).map (fun k => H.getD k false)).length = acc.length + s := by simp
        have := ih _ _ _ μ' (by omega) hL hS (fun o i o1 o2 o3 => by rw [e' o i o3, e1 o i o1 o2 o3]; exact hE o i o1 o2 o3) (fun k hk => b' k (by omega)) (by rw [e' _ _ (by decide), g0]; exact h0) (by rw [e' _ _ (by decide)]; exact g2) (fun k hk => by rw [e' _ _ (by decide)]; exact gB k (by omega))
        rw [show (256 : Int) - (m : Int) = 256 - ((m + 1 : Nat) : Int) + 1 by omega] at this
        exact this
/-- the class's ring, as it keeps it -/
def RI (μ : Mm) : Prop := ∃ o : Nat, μ 120 0 = o ∧ o ≤ 8 ∧ (1 ≤ o → ∃ r, rgA o = some r ∧ μ 120 2 = (r.length : Nat) ∧ BH μ 121 r.length r)
theorem rgA_ex (h1 : 1 ≤ n) (h8 : n ≤ 8) : ∃ r, rgA n = some r ∧ r.length = 2 ^ n := by
  have := rg_l n (by omega) h1
  cases e : rgA n with
  | none => rw [e] at this; cases this
  | some r => rw [e] at this; exact ⟨r, rfl, Option.some.inj this⟩
theorem s71 (hd : 3 ≤ d) (hI : RI μ) (h1 : 1 ≤ n) (h8 : n ≤ 8) (h : ∀ μ' r, rgA n = some r → r.length = 2 ^ n → Eo3 120 121 122 μ μ' → RI μ' → μ' 120 2 = (r.length : Nat) → BH μ' 121 r.length r → Φ none μ') : Ct E d 71 [.inr 120, .inl (n : Int)] μ Φ := by
  obtain ⟨o, i0, i8, i1⟩ := hI
  obtain ⟨r, er, lr⟩ := rgA_ex h1 h8
  have hp : 2 ^ n ≤ 256 := Nat.pow_le_pow_right (n := 2) (j := 8) (by omega) h8
  refine v71 (by omega) ?_
  rw [i0]
  refine ⟨inR_of (by omega) (by omega), inR_of (by omega) (by omega), fun h2 => ?_, fun h2 => ?_⟩
  · refine l71 (μ0 := mu μ 120 0 n) (r := r) (by omega) h8 (by omega) (fun μ' e' a' b' c' => h μ' r er lr (fun o i o1 o2 o3 => by rw [e' o i o1 o2 o3, mu_o o1]) ⟨n, by rw [a', mu_s], h8, fun _ => ⟨r, er, b', c'⟩⟩ b' c') 256 1 [false] [] _ (Nat.le_refl _) h1 er ?_ ?_ ?_ ?_ ?_
    · exact (Eo3.rf.m1).m3
    · intro k hk
      rw [show (k : Int) = 0 by omega, mu_s, show k = 0 by omega]; rfl
    · rw [mu_o (by decide), mu_i (by decide)]
    · rw [mu_o (by decide), mu_s]; rfl
    · intro k hk; simp at hk
  · obtain rfl : o = n := by omega
    obtain ⟨r', er', a', b'⟩ := i1 h1
    rw [er] at er'
    obtain rfl : r = r' := Option.some.inj er'
    exact h μ r er lr Eo3.rf ⟨o, i0, i8, i1⟩ a' b'
/-- the answer to ring -/
def rgZ (a b c z : Int) : Prop := if 1 ≤ a ∧ a ≤ 8 ∧ (c = 0 ∨ c = 1) ∧ 0 ≤ b ∧ b ≤ ((2 ^ a.toNat - 1 : Nat) : Int) + c then ∃ r, rgA a.toNat = some r ∧ z = (if c = 0 then bv (r.getD b.toNat false) else su (fun i => bv (r.getD i false)) b.toNat) else z = -1
theorem rgZ_u {a b c z w : Int} (h1 : rgZ a b c z) (h2 : rgZ a b c w) : z = w := by
  unfold rgZ at h1 h2
  by_cases g : 1 ≤ a ∧ a ≤ 8 ∧ (c = 0 ∨ c = 1) ∧ 0 ≤ b ∧ b ≤ ((2 ^ a.toNat - 1 : Nat) : Int) + c
  · rw [if_pos g] at h1 h2
    obtain ⟨r, e, q⟩ := h1
    obtain ⟨r', e', q'⟩ := h2
    rw [e] at e'
    rw [q, q', Option.some.inj e']
  · rw [if_neg g] at h1 h2
    rw [h1, h2]
theorem bvs (r : List Bool) (m : Nat) : 0 ≤ su (fun i => bv (r.getD i false)) m ∧ su (fun i => bv (r.getD i false)) m ≤ m := by
  have := su_b (g := fun i => bv (r.getD i false)) (B := 1) m (fun i _ => by cases (r.getD i false) <;> decide)
  omega
theorem l70 {b : Nat} (hd : 1 ≤ d) (h2 : μ 120 2 = (r.length : Nat)) (hB : BH μ 121 r.length r) (hr : r.length ≤ 256) (hb : b ≤ r.length) (h : Φ (some (.inl (su (fun i => bv (r.getD i false)) b))) μ) : ∀ (m k : Nat), k + m = b →
    G E d 70 Φ 7 [some (.inr 120), none, some (.inl (b : Int)), some (.inl (su (fun i => bv (r.getD i false)) k)), some (.inl (k : Int))] [] μ := by
  intro m
  induction m with
  | zero =>
    intro k hk
    obtain rfl : k = b := by omega
    exact v70_7 hd ⟨inR_of (by omega) (by omega), inR_of (by omega) (by omega), fun _ => h, fun h1 => by omega⟩
  | succ m ih =>
    intro k hk
    have hx := ih (k + 1) (by omega)
    rw [su] at hx
    refine v70_7 hd ?_
    rw [h2, hB k (by omega)]
    refine ⟨inR_of (by omega) (by omega), inR_of (by omega) (by omega), fun h1 => by omega, fun _ => ⟨inR_of (by omega) (by omega), inR_of (by omega) (by omega), fun h1 => by omega, fun _ => ⟨by omega, ?_⟩⟩⟩
    exact hx
theorem s143 {a b c : Int} (hd : 5 ≤ d) (ha : inR a) (hb : inR b) (hc : inR c) (hI : RI μ) (h : ∀ z μ', rgZ a b c z → Eo3 120 121 122 μ μ' → RI μ' → Φ (some (.inl z)) μ') : Ct E d 143 [.inr 0, .inl a, .inl b, .inl c] μ Φ := by
  have no : ¬ (1 ≤ a ∧ a ≤ 8 ∧ (c = 0 ∨ c = 1) ∧ 0 ≤ b ∧ b ≤ ((2 ^ a.toNat - 1 : Nat) : Int) + c) → Φ (some (.inl (-1))) μ := fun e => h _ _ (by unfold rgZ; rw [if_neg e]) Eo3.rf hI
  refine v143 (by omega) ⟨ha, fun h1 => no (by omega), fun h1 => ⟨ha, fun h2 => no (by omega), fun h2 => ⟨hb, fun h3 => no (by omega), fun h3 => ⟨hb, ?_⟩⟩⟩⟩
  obtain ⟨n, rfl⟩ : ∃ q : Nat, a = q := ⟨a.toNat, by omega⟩
  rw [Int.toNat_natCast] at no
  have hp : 2 ^ n ≤ 256 := Nat.pow_le_pow_right (n := 2) (j := 8) (by omega) (by omega)
  have hp0 := Nat.two_pow_pos n
  have hsh : iShl 1 (n : Int) = ((2 ^ n : Nat) : Int) := by
    have := nShl (a := 1) (k := n) (by omega) (by omega)
    rw [Nat.one_mul] at this; exact this
  rw [hsh]
  generalize hP : 2 ^ n = P at *
  refine ⟨inR_of (by omega) (by omega), fun h4 => ⟨hc, fun h5 => ⟨hb, inR_of (by omega) (by omega), fun h6 => ?_, fun h6 => no (by omega)⟩, fun h5 => ?_, fun h5 h6 => no (by omega)⟩, fun h4 => no (by omega)⟩
  · refine v69 (by omega) (s71 (by omega) hI (by omega) (by omega) (fun μ' r er lr e' i' b' c' => ⟨hb, fun h7 => by omega, fun _ => ⟨hb, by rw [b']; exact inR_of (by omega) (by omega), fun h7 => by rw [b'] at h7; omega, fun h7 => ⟨by omega, ?_⟩⟩⟩))
    have := c' b.toNat (by omega)
    rw [show ((b.toNat : Nat) : Int) = b by omega] at this
    rw [this]
    refine h _ μ' ?_ e' i'
    unfold rgZ
    rw [if_pos (by rw [Int.toNat_natCast, hP]; omega), Int.toNat_natCast]
    exact ⟨r, er, by rw [if_pos h5]⟩
  · refine v70 (by omega) (s71 (by omega) hI (by omega) (by omega) (fun μ' r er lr e' i' b' c' => ?_))
    obtain ⟨b, rfl⟩ : ∃ q : Nat, b = q := ⟨b.toNat, by omega⟩
    have hbr : b ≤ r.length := by rw [lr, hP]; omega
    have hr2 : r.length ≤ 256 := by rw [lr, hP]; omega
    have := l70 (E := E) (d := d - 1) (Φ := rI fun z4 μ3 => Φ (some (.inl z4)) μ3) (r := r) (b := b) (by omega) b' c' hr2 hbr (h _ μ' ?_ e' i') b 0 (by omega)
    · exact this
    unfold rgZ
    rw [if_pos (by rw [Int.toNat_natCast, hP]; omega), Int.toNat_natCast, Int.toNat_natCast]
    exact ⟨r, er, by rw [if_neg (by omega)]⟩
end S14
