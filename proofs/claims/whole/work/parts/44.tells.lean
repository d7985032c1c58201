/-! the law: lines and what is told -/
def LW (μ : Mm) (o : Nat) (n : Int) (D : Int → Int → Int) (l : Cd) : Prop := μ o 0 = n ∧ μ o 6 = l.length ∧ (∀ i, 0 ≤ i → i < n → μ (o + 1) i = D 0 i ∧ μ (o + 2) i = D 1 i ∧ μ (o + 3) i = D 2 i ∧ μ (o + 4) i = D 3 i) ∧ cod (μ (o + 5)) 0 l
def LQ (μ : Mm) (b e : Int) (n : Int) (D : Int → Int → Int) (l : Cd) : Prop := (∀ i, 0 ≤ i → i < n → μ 131 (b + i) = D 0 i ∧ μ 132 (b + i) = D 1 i ∧ μ 133 (b + i) = D 2 i ∧ μ 134 (b + i) = D 3 i) ∧ coM (μ 135) (μ 136) e l
def LM (μ : Mm) (n : Int) (D : Int → Int → Int) (l : Cd) : Prop := μ 130 0 = n ∧ LQ μ 0 0 n D l
def sg (l : Cd) (a b : Int) : Cd := (l.drop a.toNat).take (b - a).toNat
def LOK (n : Int) (D : Int → Int → Int) (l : Cd) : Prop := 0 ≤ n ∧ n ≤ 16 ∧ l.length ≤ 400 ∧ ∀ i, 0 ≤ i → i < n → (0 ≤ D 0 i ∧ D 0 i ≤ 2) ∧ 0 ≤ D 1 i ∧ D 1 i ≤ D 2 i ∧ D 2 i ≤ D 3 i ∧ D 3 i ≤ l.length ∧ (∃ t, tyS (sg l (D 1 i) (D 2 i)) [] [t]) ∧ (D 2 i < D 3 i → ∃ t, tyS (sg l (D 2 i) (D 3 i)) [] [t])
theorem cod_drop {m : Int → Int} : ∀ (k : Nat) (l : Cd) (i : Int), cod m i l → cod m (i + k) (l.drop k)
  | 0, l, i, h => by rw [List.drop_zero]; simpa using h
  | k + 1, [], i, h => by rw [List.drop_nil]; exact trivial
  | k + 1, c :: l, i, h => by
    rw [List.drop_succ_cons, show i + ((k + 1 : Nat) : Int) = i + 1 + k by omega]
    exact cod_drop k l (i + 1) h.2
theorem cod_take {m : Int → Int} : ∀ (k : Nat) (l : Cd) (i : Int), cod m i l → cod m i (l.take k)
  | 0, l, i, h => by rw [List.take_zero]; exact trivial
  | k + 1, [], i, h => by rw [List.take_nil]; exact trivial
  | k + 1, c :: l, i, h => by rw [List.take_succ_cons]; exact ⟨h.1, cod_take k l (i + 1) h.2⟩
theorem coM_drop {m g : Int → Int} : ∀ (k : Nat) (l : Cd) (i : Int), coM m g i l → coM m g (i + k) (l.drop k)
  | 0, l, i, h => by rw [List.drop_zero]; simpa using h
  | k + 1, [], i, h => by rw [List.drop_nil]; exact trivial
  | k + 1, c :: l, i, h => by
    rw [List.drop_succ_cons, show i + ((k + 1 : Nat) : Int) = i + 1 + k by omega]
    exact coM_drop k l (i + 1) h.2.2
theorem coM_take {m g : Int → Int} : ∀ (k : Nat) (l : Cd) (i : Int), coM m g i l → coM m g i (l.take k)
  | 0, l, i, h => by rw [List.take_zero]; exact trivial
  | k + 1, [], i, h => by rw [List.take_nil]; exact trivial
  | k + 1, c :: l, i, h => by rw [List.take_succ_cons]; exact ⟨h.1, h.2.1, coM_take k l (i + 1) h.2.2⟩
theorem sg_len {l : Cd} {a b : Int} (a0 : 0 ≤ a) (ab : a ≤ b) (bl : b ≤ l.length) : a + (sg l a b).length = b := by
  unfold sg
  rw [List.length_take, List.length_drop]
  omega
theorem cod_sg {m : Int → Int} {l : Cd} {a b : Int} (h : cod m 0 l) (a0 : 0 ≤ a) : cod m a (sg l a b) := by
  have := cod_take (b - a).toNat _ _ (cod_drop a.toNat l 0 h)
  rw [show 0 + (a.toNat : Int) = a by omega] at this
  exact this
theorem coM_sg {m g : Int → Int} {l : Cd} {a b : Int} (h : coM m g 0 l) (a0 : 0 ≤ a) : coM m g a (sg l a b) := by
  have := coM_take (b - a).toNat _ _ (coM_drop a.toNat l 0 h)
  rw [show 0 + (a.toNat : Int) = a by omega] at this
  exact this
def lqp (D : Int → Int → Int) (l : Cd) (F : Int → Int) (w i : Int) : Prop := D 0 i = w ∧ (D 2 i = D 3 i ∨ w32 (evV F (sg l (D 2 i) (D 3 i))) ≠ 0)
noncomputable def tlz (D : Int → Int → Int) (l : Cd) (F : Int → Int) (w i : Int) : Int := if i = -1 then (if w = 2 then 100 * F 3 else if w = 0 then 1000 else 0) else max 0 (min (if w = 1 then 9 else 1000) (w32 (evV F (sg l (D 1 i) (D 2 i)))))
/-- what the law tells -/
noncomputable def lwt (n : Int) (D : Int → Int → Int) (l : Cd) (F : Int → Int) (w : Int) : Int := tlz D l F w (fst (lqp D l F w) n.toNat 0)
theorem tlz_b {D : Int → Int → Int} {l : Cd} {F : Int → Int} {w i : Int} (hF : 0 ≤ F 3 ∧ F 3 ≤ 9) : 0 ≤ tlz D l F w i ∧ tlz D l F w i ≤ 1000 := by
  unfold tlz
  split
  · split
    · omega
    · split <;> omega
  · split <;> omega
theorem fst_t {p : Int → Prop} {m : Nat} {x : Int} (h : p x) : fst p (m + 1) x = x := by rw [fst, if_pos h]
theorem fst_f {p : Int → Prop} {m : Nat} {x : Int} (h : ¬ p x) : fst p (m + 1) x = fst p m (x + 1) := by rw [fst, if_neg h]
theorem fst_e {p q : Int → Prop} : ∀ (m : Nat) (x : Int), (∀ i, x ≤ i → i < x + m → (p i ↔ q i)) → fst p m x = fst q m x
  | 0, _, _ => rfl
  | m + 1, x, h => by
    have h0 := h x (by omega) (by omega)
    have h1 := fst_e m (x + 1) (fun i i0 i1 => h i (by omega) (by omega))
    by_cases e : p x
    · rw [fst_t e, fst_t (h0.mp e)]
    · rw [fst_f e, fst_f (fun g => e (h0.mpr g)), h1]
theorem fst_n {p : Int → Prop} : ∀ (m : Nat) (x : Int), 0 ≤ x → fst p m x ≠ x + m
  | 0, x, h => by show (-1 : Int) ≠ _; omega
  | m + 1, x, h => by
    by_cases e : p x
    · rw [fst_t e]; omega
    · rw [fst_f e]
      have := fst_n (p := p) m (x + 1) (by omega)
      omega
/-- the numbers that are asked for alone count -/
theorem ev1_c {F G : Int → Int} (h : ∀ i, 0 ≤ i → i < 9 → F i = G i) {c : Int × Int} {t t' s : List Int} (hc : tyR c t t') : ev1 F c s = ev1 G c s := by
  rcases hc with ⟨h1, -⟩ | ⟨h1, h2, h3, -⟩ | ⟨h1, -⟩ | ⟨_, _, _, _, h2, -⟩
  · unfold ev1; rw [if_pos h1, if_pos h1]
  · unfold ev1; rw [if_neg (by omega), if_pos h1, if_neg (by omega), if_pos h1, h _ h2 h3]
  · unfold ev1; rw [if_neg (by omega), if_neg (by omega), if_neg (by omega), if_neg (by omega)]
  · unfold ev1; rw [if_neg (by omega), if_neg (by omega), if_neg (by omega), if_neg (by omega)]
theorem evS_c {F G : Int → Int} (h : ∀ i, 0 ≤ i → i < 9 → F i = G i) : ∀ (l : Cd) (t t' s : List Int), tyS l t t' → evS F l s = evS G l s
  | [], _, _, _, _ => rfl
  | c :: l, t, t', s, ⟨u, h1, h2⟩ => by
    show evS F l (ev1 F c s) = evS G l (ev1 G c s)
    rw [ev1_c h h1]
    exact evS_c h l u t' _ h2
theorem evV_c {F G : Int → Int} (h : ∀ i, 0 ≤ i → i < 9 → F i = G i) {l : Cd} (ht : ∃ t, tyS l [] [t]) : evV F l = evV G l := by
  obtain ⟨t, ht⟩ := ht
  unfold evV
  rw [evS_c h l _ _ _ ht]
theorem lwt_c {n : Int} {D : Int → Int → Int} {l : Cd} {F G : Int → Int} {w : Int} (hL : LOK n D l) (h : ∀ i, 0 ≤ i → i < 9 → F i = G i) : lwt n D l F w = lwt n D l G w := by
  unfold lwt
  have e1 : fst (lqp D l F w) n.toNat 0 = fst (lqp D l G w) n.toNat 0 := fst_e _ _ fun i i0 i1 => by
    have hi := hL.2.2.2 i (by omega) (by omega)
    unfold lqp
    by_cases e : D 2 i = D 3 i
    · simp only [e, true_or]
    · rw [evV_c h (hi.2.2.2.2.2.2 (by omega))]
  rw [e1]
  generalize hz : fst (lqp D l G w) n.toNat 0 = z
  have hb := fst_b (p := lqp D l G w) n.toNat 0 (by omega)
  unfold tlz
  by_cases e : z = -1
  · rw [if_pos e, if_pos e, h 3 (by omega) (by omega)]
  · rw [if_neg e, if_neg e]
    have hi := hL.2.2.2 z (by omega) (by
      rw [hz] at hb
      rcases Int.lt_or_le z n with g | g
      · exact g
      · exfalso
        have : z ≤ n.toNat := by omega
        have hn := fst_n (p := lqp D l G w) n.toNat 0 (by omega)
        rw [hz] at hn
        have := hL.1
        omega)
    rw [evV_c h hi.2.2.2.2.2.1]
section S29
variable {E : En} {d : Nat} {f : Int → Mm → Prop} {μ μ0 : Mm} {n w : Int} {D : Int → Int → Int} {l : Cd}
theorem w32_cl {z m : Int} (hm : 0 ≤ m) (hm2 : m ≤ 1000) : w32 (iMax 0 (iMin m z)) = max 0 (min m (w32 z)) := by
  have hz := w32_in z
  unfold inR at hz
  have em : w32 m = m := w32_id (inR_of (by omega) (by omega))
  have e0 : w32 0 = 0 := by decide
  have e1 : w32 (iMin m z) = min m (w32 z) := by
    unfold iMin
    rw [em]
    split
    · omega
    · rw [em]; omega
  unfold iMax
  rw [e1, e0]
  split
  · rw [e1]; omega
  · rw [e0]; omega
theorem l15 (hd : 3 ≤ d) (hW : LW μ0 28 n D l) (hL : LOK n D l) (w0 : 0 ≤ w) (w2 : w ≤ 2) (h3 : 0 ≤ μ0 63 3 ∧ μ0 63 3 ≤ 9) : ∀ (m : Nat) (i : Int) (μ : Mm), 0 ≤ i → i + m = n → Eo 35 μ0 μ → (∀ μ', Eo 35 μ0 μ' → f (tlz D l (μ0 63) w (fst (lqp D l (μ0 63) w) m i)) μ') →
    G E d 15 (rI fun z μ => f (w32 z) μ) 2 [some (.inr 28), some (.inl w), some (.inr 63), some (.inl i), none, none] [] μ := by
  obtain ⟨q1, q2, q3, q4⟩ := hW
  have n0 := hL.1
  have n16 := hL.2.1
  intro m
  induction m with
  | zero =>
    intro i μ i0 hm hE h
    have e1 : μ 28 0 = n := by rw [hE _ _ (by decide)]; exact q1
    have e2 : μ 63 3 = μ0 63 3 := hE _ _ (by decide)
    have h := h μ hE
    have e3 : fst (lqp D l (μ0 63) w) 0 i = -1 := rfl
    rw [e3] at h
    unfold tlz at h
    rw [if_pos rfl] at h
    refine v15_2 (by omega) ?_
    rw [e1, e2]
    refine ⟨inR_of (by omega) (by omega), inR_of (by omega) (by omega), fun _ => ⟨inR_of (by omega) (by omega), fun k => ⟨inR_of (by omega) (by omega), fun k2 => ?_, fun k2 => ?_⟩, fun k => ?_⟩, fun k => by omega⟩
    · rw [if_neg k, if_neg k2] at h; exact h
    · rw [if_neg k, if_pos k2] at h; exact h
    · rw [if_pos k] at h
      show f (w32 (100 * μ0 63 3)) μ
      rw [w32_id (inR_of (by omega) (by omega))]
      exact h
  | succ m ih =>
    intro i μ i0 hm hE h
    have hi := hL.2.2.2 i i0 (by omega)
    have qi := q3 i i0 (by omega)
    have l4 := hL.2.2.1
    have e1 : μ 28 0 = n := by rw [hE _ _ (by decide)]; exact q1
    have e29 : μ 29 i = D 0 i := by rw [hE _ _ (by decide)]; exact qi.1
    have e31 : μ 31 i = D 2 i := by rw [hE _ _ (by decide)]; exact qi.2.2.1
    have e32 : μ 32 i = D 3 i := by rw [hE _ _ (by decide)]; exact qi.2.2.2
    have hi1 : inR (D 0 i) := inR_of (by omega) (by omega)
    have hi2 : inR (D 2 i) := inR_of (by omega) (by omega)
    have hi3 : inR (D 3 i) := inR_of (by omega) (by omega)
    have hw : inR w := inR_of (by omega) (by omega)
    have bi : 0 ≤ i ∧ i < 16 := ⟨i0, by omega⟩
    have no : ¬ lqp D l (μ0 63) w i → ∀ μ1, Eo 35 μ0 μ1 → G E d 15 (rI fun z μ => f (w32 z) μ) 2 [some (.inr 28), some (.inl w), some (.inr 63), some (.inl (i + 1)), none, none] [] μ1 := fun k μ1 h1 => ih (i + 1) μ1 (by omega) (by omega) h1 (by rw [fst_f k] at h; exact h)
    have yes : lqp D l (μ0 63) w i → ∀ μ1, Eo 35 μ0 μ1 → ∀ Ψ : Int → Mm → Prop, (∀ z μ', Eo 35 μ0 μ' → w32 z = w32 (evV (μ0 63) (sg l (D 1 i) (D 2 i))) → (w ≠ 1 → f (w32 (iMax 0 (iMin 1000 z))) μ') → (w = 1 → f (w32 (iMax 0 (iMin 9 z))) μ') → Ψ z μ') → Ct E (d - 1) 16 [.inr 28, .inl (μ1 30 i), .inl (μ1 31 i), .inr 63] μ1 (rI Ψ) := by
      intro k μ1 h1 Ψ hΨ
      rw [fst_t k] at h
      have a30 : μ1 30 i = D 1 i := by rw [h1 _ _ (by decide)]; exact qi.2.1
      have a31 : μ1 31 i = D 2 i := by rw [h1 _ _ (by decide)]; exact qi.2.2.1
      rw [a30, a31]
      obtain ⟨t, ht⟩ := hi.2.2.2.2.2.1
      have e63 : μ1 63 = μ0 63 := funext fun x => h1 _ _ (by decide)
      have e33 : μ1 33 = μ0 33 := funext fun x => h1 _ _ (by decide)
      refine s16 (t := t) (u := l.length) (by omega) (by rw [h1 _ _ (by decide)]; exact q2) (by omega) (by omega) (by omega) (sg_len (by omega) (by omega) (by omega)) (by rw [e33]; exact cod_sg q4 (by omega)) ht (fun μ' h2 => ?_)
      rw [e63]
      have hE2 : Eo 35 μ0 μ' := h1.tr h2
      have hh := h μ' hE2
      unfold tlz at hh
      rw [if_neg (by omega)] at hh
      refine hΨ _ _ hE2 rfl (fun k1 => ?_) (fun k1 => ?_)
      · rw [if_neg k1] at hh; rw [w32_cl (by omega) (by omega)]; exact hh
      · rw [if_pos k1] at hh; rw [w32_cl (by omega) (by omega)]; exact hh
    refine v15_2 (by omega) ?_
    rw [e1, e29, e31, e32]
    refine ⟨inR_of (by omega) (by omega), inR_of (by omega) (by omega), fun k => by omega, fun _ => ⟨bi, bi, hi2, hi3, fun k => ⟨bi, hi1, hw, fun k2 => no (fun g => k2 g.1) μ hE, fun k2 => ⟨bi, bi, ?_⟩⟩, fun k => ⟨bi, hi1, hw, fun k2 => no (fun g => k2 g.1) μ hE, fun k2 => ⟨bi, bi, ?_⟩⟩⟩⟩
    · obtain ⟨t, ht⟩ := hi.2.2.2.2.2.2 (by omega)
      have e63 : μ 63 = μ0 63 := funext fun x => hE _ _ (by decide)
      have e33 : μ 33 = μ0 33 := funext fun x => hE _ _ (by decide)
      refine s16 (t := t) (u := l.length) (by omega) (by rw [hE _ _ (by decide)]; exact q2) (by omega) (by omega) (by omega) (sg_len (by omega) (by omega) (by omega)) (by rw [e33]; exact cod_sg q4 (by omega)) ht (fun μ' h2 => ?_)
      rw [e63]
      have hE2 : Eo 35 μ0 μ' := hE.tr h2
      refine ⟨fun k3 => no (fun g => g.2.elim k (fun g => g k3)) μ' hE2, fun k3 => ⟨bi, bi, ?_⟩⟩
      refine yes ⟨k2, Or.inr k3⟩ μ' hE2 _ (fun z μ2 _ _ g1 g2 => ⟨hw, fun k4 => g1 k4, fun k4 => g2 k4⟩)
    · have := yes ⟨k2, Or.inl k⟩ μ hE _ (fun z μ2 _ _ g1 g2 => (⟨hw, fun k4 => g1 k4, fun k4 => g2 k4⟩ : inR w ∧ (w ≠ 1 → (rI fun z μ => f (w32 z) μ) (some (.inl (iMax 0 (iMin 1000 z)))) μ2) ∧ (w = 1 → (rI fun z μ => f (w32 z) μ) (some (.inl (iMax 0 (iMin 9 z)))) μ2)))
      rw [e31] at this
      exact this
theorem s15 (hd : 3 ≤ d) (hW : LW μ0 28 n D l) (hL : LOK n D l) (w0 : 0 ≤ w) (w2 : w ≤ 2) (h3 : 0 ≤ μ0 63 3 ∧ μ0 63 3 ≤ 9) (h : ∀ μ', Eo 35 μ0 μ' → f (lwt n D l (μ0 63) w) μ') : Ct E d 15 [.inr 28, .inl w, .inr 63] μ0 (rI f) := by
  have := hL.1
  exact ct_w (v15 (by omega) (l15 hd hW hL w0 w2 h3 n.toNat 0 μ0 (by omega) (by omega) Eo.rf h))
theorem s208 {Φ : Option AV → Mm → Prop} (hd : 3 ≤ d) (hW : LM μ0 n D l) (hL : LOK n D l) (w0 : 0 ≤ w) (w2 : w ≤ 2) (h : ∀ μ', Eo 143 μ0 μ' → Φ (some (.inl (fst (lqp D l (μ0 142) w) n.toNat 0))) μ') : Ct E d 208 [.inr 123, .inl w] μ0 Φ := by
  obtain ⟨q1, q3, q4⟩ := hW
  have n0 := hL.1
  have n16 := hL.2.1
  have hw : inR w := inR_of (by omega) (by omega)
  have key : ∀ (m : Nat) (i : Int) (μ : Mm), 0 ≤ i → i + m = n → Eo 143 μ0 μ → (∀ μ', Eo 143 μ0 μ' → Φ (some (.inl (fst (lqp D l (μ0 142) w) m i))) μ') →
      G E d 208 Φ 2 [some (.inr 123), some (.inl w), some (.inl i)] [] μ := by
    intro m
    induction m with
    | zero =>
      intro i μ i0 hm hE h
      have e1 : μ 130 0 = n := by rw [hE _ _ (by decide)]; exact q1
      refine v208_2 (by omega) ?_
      rw [e1]
      exact ⟨inR_of (by omega) (by omega), inR_of (by omega) (by omega), fun _ => h μ hE, fun k => by omega⟩
    | succ m ih =>
      intro i μ i0 hm hE h
      have hi := hL.2.2.2 i i0 (by omega)
      have qi := q3 i i0 (by omega)
      rw [Int.zero_add] at qi
      have l4 := hL.2.2.1
      have e1 : μ 130 0 = n := by rw [hE _ _ (by decide)]; exact q1
      have e29 : μ 131 i = D 0 i := by rw [hE _ _ (by decide)]; exact qi.1
      have e31 : μ 133 i = D 2 i := by rw [hE _ _ (by decide)]; exact qi.2.2.1
      have e32 : μ 134 i = D 3 i := by rw [hE _ _ (by decide)]; exact qi.2.2.2
      have hi1 : inR (D 0 i) := inR_of (by omega) (by omega)
      have hi2 : inR (D 2 i) := inR_of (by omega) (by omega)
      have hi3 : inR (D 3 i) := inR_of (by omega) (by omega)
      have bi : 0 ≤ i ∧ i < 48 := ⟨i0, by omega⟩
      have no : ¬ lqp D l (μ0 142) w i → ∀ μ1, Eo 143 μ0 μ1 → G E d 208 Φ 2 [some (.inr 123), some (.inl w), some (.inl (i + 1))] [] μ1 := fun k μ1 h1 => ih (i + 1) μ1 (by omega) (by omega) h1 (by rw [fst_f k] at h; exact h)
      refine v208_2 (by omega) ?_
      rw [e1, e29, e31, e32]
      refine ⟨inR_of (by omega) (by omega), inR_of (by omega) (by omega), fun k => by omega, fun _ => ⟨bi, hi1, hw, fun k => no (fun g => k g.1) μ hE, fun k => ⟨bi, bi, hi2, hi3, fun k2 => ?_, fun k2 => ⟨bi, bi, ?_⟩⟩⟩⟩
      · rw [fst_t ⟨k, Or.inl k2⟩] at h; exact h μ hE
      · obtain ⟨t, ht⟩ := hi.2.2.2.2.2.2 (by omega)
        have e63 : μ 142 = μ0 142 := funext fun x => hE _ _ (by decide)
        have e33 : μ 135 = μ0 135 := funext fun x => hE _ _ (by decide)
        have e34 : μ 136 = μ0 136 := funext fun x => hE _ _ (by decide)
        refine s207 (t := t) (by omega) (by omega) (by omega) (sg_len (by omega) (by omega) (by omega)) (by rw [e33, e34]; exact coM_sg q4 (by omega)) ht (fun μ' h2 => ?_)
        rw [e63]
        have hE2 : Eo 143 μ0 μ' := hE.tr h2
        refine ⟨fun k3 => no (fun g => g.2.elim k2 (fun g => g k3)) μ' hE2, fun k3 => ?_⟩
        rw [fst_t ⟨k, Or.inr k3⟩] at h; exact h μ' hE2
  exact v208 (by omega) (key n.toNat 0 μ0 (by omega) (by omega) Eo.rf h)
theorem s154 {z c : Int} (hd : 1 ≤ d) (hc : 0 ≤ c) (hc2 : c ≤ 1000) (h : f (max 0 (min c (w32 z))) μ) : Ct E d 154 [.inr 123, .inl z, .inl 0, .inl c] μ (rI f) := by
  have e0 : w32 0 = 0 := by decide
  have ec : w32 c = c := w32_id (inR_of (by omega) (by omega))
  refine ct_w (v154 hd ?_)
  rw [e0, ec]
  refine ⟨fun k => ⟨fun k2 => ?_, fun k2 => ?_⟩, fun k => ?_⟩
  · show f (w32 z) μ
    rw [show w32 z = max 0 (min c (w32 z)) by omega]; exact h
  · show f (w32 c) μ
    rw [ec, show c = max 0 (min c (w32 z)) by omega]; exact h
  · show f (w32 0) μ
    rw [e0, show 0 = max 0 (min c (w32 z)) by omega]; exact h
theorem s216 {b c : Int} (hd : 4 ≤ d) (hW : LM μ0 n D l) (hL : LOK n D l) (w0 : 0 ≤ w) (w2 : w ≤ 2) (h3 : 0 ≤ μ0 142 3 ∧ μ0 142 3 ≤ 9) (hb : b = if w = 2 then 100 * μ0 142 3 else if w = 0 then 1000 else 0) (hc : c = if w = 1 then 9 else 1000) (h : ∀ μ', Eo 143 μ0 μ' → f (lwt n D l (μ0 142) w) μ') : Ct E d 216 [.inr 123, .inl w, .inl b, .inl c] μ0 (rI f) := by
  have n0 := hL.1
  have n16 := hL.2.1
  have l4 := hL.2.2.1
  have hc1 : 0 ≤ c ∧ c ≤ 1000 := by rw [hc]; split <;> omega
  have hb1 : 0 ≤ b ∧ b ≤ 1000 := by
    rw [hb]
    split
    · omega
    · split <;> omega
  have hb2 : w = 1 → b = 0 := fun e => by rw [hb, if_neg (by omega), if_neg (by omega)]
  refine v216 (by omega) (s208 (by omega) hW hL w0 w2 (fun μ' hE => ?_))
  unfold lwt tlz at h
  generalize hz : fst (lqp D l (μ0 142) w) n.toNat 0 = z at h
  have zb := fst_b (p := lqp D l (μ0 142) w) n.toNat 0 (by omega)
  have zn := fst_n (p := lqp D l (μ0 142) w) n.toNat 0 (by omega)
  rw [hz] at zb zn
  refine ⟨inR_of (by omega) (by omega), fun k => ?_, fun k => ?_⟩
  · have hi := hL.2.2.2 z (by omega) (by omega)
    have qi := hW.2.1 z (by omega) (by omega)
    rw [Int.zero_add] at qi
    obtain ⟨t, ht⟩ := hi.2.2.2.2.2.1
    refine ⟨⟨by omega, by omega⟩, ⟨by omega, by omega⟩, ?_⟩
    have e63 : μ' 142 = μ0 142 := funext fun x => hE _ _ (by decide)
    have e33 : μ' 135 = μ0 135 := funext fun x => hE _ _ (by decide)
    have e34 : μ' 136 = μ0 136 := funext fun x => hE _ _ (by decide)
    have e1 : μ' 132 z = D 1 z := by rw [hE _ _ (by decide)]; exact qi.2.1
    have e2 : μ' 133 z = D 2 z := by rw [hE _ _ (by decide)]; exact qi.2.2.1
    rw [e1, e2]
    refine s207 (t := t) (by omega) (by omega) (by omega) (sg_len (by omega) (by omega) (by omega)) (by rw [e33, e34]; exact coM_sg hW.2.2 (by omega)) ht (fun μ2 h2 => ?_)
    rw [e63]
    refine s154 (by omega) hc1.1 hc1.2 ?_
    have := h μ2 (hE.tr h2)
    rw [if_neg k, ← hc] at this
    exact this
  · refine s154 (by omega) hc1.1 hc1.2 ?_
    have := h μ' hE
    rw [if_pos k, ← hb] at this
    rw [w32_id (inR_of (by omega) (by omega))]
    have e : max 0 (min c b) = b := by
      by_cases e1 : w = 1
      · rw [hb2 e1]; omega
      · rw [if_neg e1] at hc; omega
    rw [e]; exact this
end S29
