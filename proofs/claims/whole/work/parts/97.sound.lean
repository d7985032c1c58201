/-! the machine does what the interpreter does -/
def AN (E : En) : Nat → Prop := fun q => e_r E 0 ≤ q
def EA (E : En) : Prop := ∀ k, k < NO → e_r E k = e_r E 0 + k
def cv (E : En) : Option AV → Value
  | none => .null
  | some v => tv E v
def celm (E : En) : CE → va_E
  | .inl q => .inl (e_I E, q.1, .inl (fun i => Int32.ofInt (lkI q.2 i)))
  | .inr (.inl q) => .inl (e_S E, q.1, .inr (.inr (.inr (.inr (fun i => (lkN q.2 i).map (e_r E))))))
  | .inr (.inr q) => .inr (q.1, q.2.map (cv E))
def cwsF (E : En) : Nat → CW → va_W
  | _, [] => []
  | k, c :: r => (e_r E k, celm E c) :: cwsF E (k + 1) r
def cws (E : En) (w : CW) : va_W := cwsF E 0 w
section S80
variable {E : En} {w w' : CW} {c : CE} {i o : Nat} {q : Nat × va_E}
theorem cwsF_get : ∀ (w : CW) (k i : Nat), (cwsF E k w)[i]? = (w[i]?).map (fun c => (e_r E (k + i), celm E c))
  | [], k, i => by simp [cwsF]
  | c :: r, k, 0 => rfl
  | c :: r, k, i + 1 => by
    show (cwsF E (k + 1) r)[i]? = (r[i]?).map _
    rw [cwsF_get r (k + 1) i, show k + 1 + i = k + (i + 1) by omega]
theorem cws_get (h : w[i]? = some c) : (cws E w)[i]? = some (e_r E i, celm E c) := by
  rw [cws, cwsF_get, h, Nat.zero_add]; rfl
theorem cws_inv (h : (cws E w)[i]? = some q) : ∃ c, w[i]? = some c ∧ q = (e_r E i, celm E c) := by
  rw [cws, cwsF_get, Nat.zero_add] at h
  cases hc : w[i]? with
  | none => rw [hc] at h; cases h
  | some c => rw [hc] at h; exact ⟨c, rfl, (Option.some.inj h).symm⟩
theorem cwsF_app : ∀ (w : CW) (k : Nat), cwsF E k (w ++ [c]) = cwsF E k w ++ [(e_r E (k + w.length), celm E c)]
  | [], k => rfl
  | x :: r, k => by
    show (e_r E k, celm E x) :: cwsF E (k + 1) (r ++ [c]) = (e_r E k, celm E x) :: (cwsF E (k + 1) r ++ _)
    rw [cwsF_app r (k + 1), List.length_cons, show k + 1 + r.length = k + (r.length + 1) by omega]
theorem cws_app : cws E (w ++ [c]) = cws E w ++ [(e_r E w.length, celm E c)] := by
  have := cwsF_app (E := E) (c := c) w 0
  rwa [Nat.zero_add] at this
theorem cwsF_set : ∀ (w : CW) (k o : Nat), (cwsF E k w).set o (e_r E (k + o), celm E c) = cwsF E k (w.set o c)
  | [], k, o => by simp [cwsF]
  | x :: r, k, 0 => rfl
  | x :: r, k, o + 1 => by
    show (e_r E k, celm E x) :: (cwsF E (k + 1) r).set o _ = (e_r E k, celm E x) :: cwsF E (k + 1) (r.set o c)
    rw [← cwsF_set r (k + 1) o, show k + 1 + o = k + (o + 1) by omega]
theorem cws_set : (cws E w).set o (e_r E o, celm E c) = cws E (w.set o c) := by
  have := cwsF_set (E := E) (c := c) w 0 o
  rwa [Nat.zero_add] at this
theorem cwsF_len : ∀ (w : CW) (k : Nat), (cwsF E k w).length = w.length
  | [], _ => rfl
  | x :: r, k => by
    show (cwsF E (k + 1) r).length + 1 = r.length + 1
    rw [cwsF_len r (k + 1)]
theorem cws_D (hE : EA E) (hw : w.length ≤ NO) : va_D (AN E) (cws E w) := by
  have lt : ∀ {i : Nat} {c : CE}, w[i]? = some c → i < NO := fun h => Nat.lt_of_lt_of_le (List.getElem?_eq_some_iff.mp h).1 hw
  refine ⟨fun i j p q hi hj hpq => ?_, fun k q hk => ?_⟩
  · obtain ⟨c1, a1, rfl⟩ := cws_inv hi
    obtain ⟨c2, a2, rfl⟩ := cws_inv hj
    have e1 := hE i (lt a1)
    have e2 := hE j (lt a2)
    have hpq : e_r E i = e_r E j := hpq
    omega
  · obtain ⟨c1, a1, rfl⟩ := cws_inv hk
    have e1 := hE k (lt a1)
    show e_r E 0 ≤ e_r E k
    omega
/-- where the new one lies -/
theorem q_is {q n : Nat} {c : va_E} (hE : EA E) (hw : w.length < NO) (hD : va_D (AN E) (cws E w ++ [(q, c)])) (hq : q < n) (hn : n ≤ e_r E 0 + w.length + 1) : q = e_r E w.length := by
  have lc : (cws E w).length = w.length := cwsF_len w 0
  have hl : (cws E w ++ [(q, c)])[w.length]? = some (q, c) := by
    rw [List.getElem?_append_right (by omega), lc, Nat.sub_self]; rfl
  have h0 : e_r E 0 ≤ q := hD.2 _ _ hl
  have ew := hE w.length hw
  rcases Nat.lt_or_ge (q - e_r E 0) w.length with g | g
  · exfalso
    obtain ⟨c1, hc1⟩ : ∃ c1, w[q - e_r E 0]? = some c1 := ⟨_, List.getElem?_eq_getElem g⟩
    have h1 : (cws E w ++ [(q, c)])[q - e_r E 0]? = some (e_r E (q - e_r E 0), celm E c1) := by
      rw [List.getElem?_append_left (by omega)]
      exact cws_get hc1
    have e1 := hE (q - e_r E 0) (by omega)
    have := hD.1 _ _ _ _ h1 hl (show e_r E (q - e_r E 0) = q by omega)
    omega
  · omega
theorem csl_app : csl (w ++ [c]) = csl w + csz c := by
  induction w with
  | nil => show csz c + 0 = 0 + csz c; omega
  | cons x r ih => show csz x + csl (r ++ [c]) = csz x + csl r + csz c; omega
theorem csl_set {c0 : CE} : ∀ (w : CW) (o : Nat), w[o]? = some c0 → csz c = csz c0 → csl (w.set o c) = csl w
  | [], o, h, _ => by simp at h
  | x :: r, 0, h, hz => by
    have h : x = c0 := by simpa using h
    show csz c + csl r = csz x + csl r
    rw [h, hz]
  | x :: r, o + 1, h, hz => by
    show csz x + csl (r.set o c) = csz x + csl r
    rw [csl_set r o (by simpa using h) hz]
theorem fld_kind {a b N : Nat} {C : String} {T : u_T} (h : clsL[a]? = some (C, T, N)) (hb : b < N) : ∃ t, parseFieldDescriptor (T b).2.2.1 = some t ∧ defaultValue t = cond (Nat.blt (fk a b) 2) (.int 0) .null ∧ (match t with
      | .int => Nat.beq (fk a b) 0
      | .boolean => Nat.beq (fk a b) 1
      | .object _ => Nat.blt 1 (fk a b)
      | .array _ => Nat.blt 1 (fk a b)
      | _ => false) = true := by
  have ha : a < 13 := (List.getElem?_eq_some_iff.mp h).1
  have h1 := List.all_eq_true.mp dfl_all a (List.mem_range.mpr ha)
  rw [h] at h1
  have h2 := List.all_eq_true.mp h1 b (List.mem_range.mpr hb)
  cases ht : parseFieldDescriptor (T b).2.2.1 with
  | none => rw [ht] at h2; cases h2
  | some t =>
    rw [ht] at h2
    have h2 := Bool.and_eq_true_iff.mp h2
    exact ⟨t, rfl, of_decide_eq_true h2.1, h2.2⟩
theorem fit_of {a b N : Nat} {C : String} {T : u_T} {v : AV} (h : clsL[a]? = some (C, T, N)) (hb : b < N) (hf : fitB a b v = true) : ∃ ty, parseFieldDescriptor (T b).2.2.1 = some ty ∧ narrow ty (tv E v) = tv E v ∧ fits ty (tv E v) = true := by
  obtain ⟨t, h1, -, h3⟩ := fld_kind h hb
  refine ⟨t, h1, ?_⟩
  cases v with
  | inl z =>
    unfold fitB at hf
    rw [Bool.or_eq_true, Bool.and_eq_true, Bool.or_eq_true, decide_eq_true_iff, decide_eq_true_iff] at hf
    split at h3
    · exact ⟨rfl, rfl⟩
    · have h3 := Nat.eq_of_beq_eq_true h3
      rcases hf with hf | ⟨-, hf⟩
      · have := Nat.eq_of_beq_eq_true hf; omega
      · rcases hf with rfl | rfl <;> exact ⟨rfl, rfl⟩
    · have h3 : 1 < fk a b := Nat.le_of_ble_eq_true h3
      rcases hf with hf | ⟨hf, -⟩
      · have := Nat.eq_of_beq_eq_true hf; omega
      · have := Nat.eq_of_beq_eq_true hf; omega
    · have h3 : 1 < fk a b := Nat.le_of_ble_eq_true h3
      rcases hf with hf | ⟨hf, -⟩
      · have := Nat.eq_of_beq_eq_true hf; omega
      · have := Nat.eq_of_beq_eq_true hf; omega
    · cases h3
  | inr k =>
    unfold fitB at hf
    rw [Bool.and_eq_true] at hf
    have h4 : 1 < fk a b := Nat.le_of_ble_eq_true hf.1
    have h5 : k < 158 := Nat.le_of_ble_eq_true hf.2
    rw [tv_ref (by omega)]
    split at h3
    · have := Nat.eq_of_beq_eq_true h3; omega
    · have := Nat.eq_of_beq_eq_true h3; omega
    · exact ⟨rfl, rfl⟩
    · exact ⟨rfl, rfl⟩
    · cases h3
end S80
