/-! the first memory -/
set_option maxRecDepth 8000 in
theorem okk_all : ∀ j, (okKM (kget j) = true ∧ okKs (kget j) 0 (r_c (kget j)) = true) ∧ okC (kget j) ∧ pco (kget j) 0 = 0
  | 0 => ⟨okk_0, memC_1 (i := 161) rfl, rfl⟩
  | 1 => ⟨okk_1, memC_1 (i := 95) rfl, rfl⟩
  | 2 => ⟨okk_2, memC_2 (i := 135) rfl, rfl⟩
  | 3 => ⟨okk_3, memC_1 (i := 189) rfl, rfl⟩
  | 4 => ⟨okk_4, memC_1 (i := 34) rfl, rfl⟩
  | 5 => ⟨okk_5, memC_2 (i := 22) rfl, rfl⟩
  | 6 => ⟨okk_6, memC_2 (i := 155) rfl, rfl⟩
  | 7 => ⟨okk_7, memC_2 (i := 28) rfl, rfl⟩
  | 8 => ⟨okk_8, memC_1 (i := 195) rfl, rfl⟩
  | 9 => ⟨okk_9, memC_1 (i := 201) rfl, rfl⟩
  | 10 => ⟨okk_10, memC_1 (i := 136) rfl, rfl⟩
  | 11 => ⟨okk_11, memC_1 (i := 26) rfl, rfl⟩
  | 12 => ⟨okk_12, memC_6 (i := 20) rfl, rfl⟩
  | n + 13 => by
    have e : kget (n + 13) = k0 := by
      unfold kget ktab
      rw [List.getD_eq_getElem?_getD, List.getElem?_eq_none (by simp)]
      rfl
    rw [e]
    exact ⟨okk_0, memC_1 (i := 161) rfl, rfl⟩
def stdL : List Nat := [25, 59, 66, 102, 105, 108, 111, 114, 117]
def iniI (o : Nat) (i : Int) : Int := if o = 1 ∧ i = 13 then -1 else if o = 123 ∧ i = 30 then -1 else if o = 23 ∧ i = 5 then 25 else if stdL.contains o = true ∧ i = 3 then 5 else 0
/-- the first memory -/
def μ0 : Mm := fun o i => if o = 129 then (if 0 ≤ i ∧ i < 120 then (wdL.getD i.toNat 0 : Nat) else 0) else iniI o i
def fldc (o ci k : Nat) (f : Option AV) : Bool := match fk ci k, f with
  | 0, some (.inl z) => decide (z = iniI o k)
  | 1, some (.inl z) => decide (z = iniI o k)
  | 2, some (.inr j) => decide ((j : Int) = iniI o k)
  | n + 3, some (.inr j) => Nat.beq j (o + n)
  | _, _ => false
def chk9 (l : List (Nat × Int)) : Bool := (List.range 120).all (fun i => decide (lkI l i = (wdL.getD i 0 : Nat))) && l.all (fun q => Nat.blt q.1 120)
def chk1 (o : Nat) (c : CE) : Bool := match c with
  | .inl (n, l) => Nat.beq (cls o) 100 && Nat.beq (aln o) n && cond (Nat.beq o 129) (chk9 l) l.isEmpty
  | .inr (.inl (n, l)) => Nat.beq (cls o) 101 && Nat.beq (aln o) n && (List.range n).all fun i => decide (lkN l i = some (o + 1 + 3 * i))
  | .inr (.inr (ci, fs)) => Nat.beq (cls o) ci && Nat.blt ci 13 && Nat.beq fs.length (nfs ci) && (List.range fs.length).all fun k => match fs[k]? with
    | some f => fldc o ci k f
    | none => false
def chkW : Nat → CW → Bool
  | _, [] => true
  | k, c :: r => chk1 k c && chkW (k + 1) r
theorem chk_t : (match cgo (ccall 8) (r_c kL) 8 3000 0 [some (.inr 2000), none, none, none] [] [] with
  | some (ls, [], w) => decide (ls = [some (.inr 2000), some (.inr 0), some (.inr 123), none]) && Nat.beq w.length NO && Nat.ble (csl w) 100000 && chkW 0 w
  | _ => false) = true := by decide +kernel
theorem wE_ex : ∃ w, cgo (ccall 8) (r_c kL) 8 3000 0 [some (.inr 2000), none, none, none] [] [] = some ([some (.inr 2000), some (.inr 0), some (.inr 123), none], [], w) ∧ w.length = NO ∧ csl w ≤ 100000 ∧ chkW 0 w = true := by
  have h := chk_t
  split at h
  · rename_i ls w hw
    rw [Bool.and_eq_true, Bool.and_eq_true, Bool.and_eq_true, decide_eq_true_iff] at h
    obtain ⟨⟨⟨h1, h2⟩, h3⟩, h4⟩ := h
    rw [h1] at hw
    exact ⟨w, hw, Nat.eq_of_beq_eq_true h2, Nat.le_of_ble_eq_true h3, h4⟩
  · cases h
theorem chkW_at : ∀ {w : CW} {k i : Nat} {c : CE}, chkW k w = true → w[i]? = some c → chk1 (k + i) c = true
  | [], _, _, _, _, h => by simp at h
  | x :: r, k, 0, c, h, hi => by
    unfold chkW at h
    rw [Bool.and_eq_true] at h
    have : x = c := by simpa using hi
    rw [← this]; exact h.1
  | x :: r, k, i + 1, c, h, hi => by
    unfold chkW at h
    rw [Bool.and_eq_true] at h
    have := chkW_at h.2 (show r[i]? = some c by simpa using hi)
    rw [show k + (i + 1) = k + 1 + i by omega]
    exact this
theorem lkI_0 : ∀ {l : List (Nat × Int)} {i : Nat}, (l.all (fun q => Nat.blt q.1 120)) = true → 120 ≤ i → lkI l i = 0
  | [], _, _, _ => rfl
  | (k, v) :: r, i, h, hi => by
    rw [List.all_cons, Bool.and_eq_true] at h
    have hk := blt_l h.1
    show (if i = k then v else lkI r i) = 0
    rw [if_neg (by have : k < 120 := hk; omega)]
    exact lkI_0 h.2 hi
theorem ini_0 {o : Nat} {i : Int} (h : cls o = 100) : iniI o i = 0 := by
  unfold iniI
  have hs : ∀ o, o ∈ stdL → cls o ≠ 100 := by decide +kernel
  rw [if_neg (fun q => by rw [q.1] at h; exact absurd h (by decide +kernel)), if_neg (fun q => by rw [q.1] at h; exact absurd h (by decide +kernel)), if_neg (fun q => by rw [q.1] at h; exact absurd h (by decide +kernel)), if_neg (fun q => hs o (List.contains_iff_mem.mp q.1) h)]
theorem μ0_arr {o : Nat} {i : Int} (h : cls o = 100) (h9 : o ≠ 129) : μ0 o i = 0 := by
  unfold μ0
  rw [if_neg h9]
  exact ini_0 h
section S84
variable {E : En} {w : CW} {H : Heap}
theorem fld_at {o ci k : Nat} {f : Option AV} (h : fldc o ci k f = true) (h9 : o ≠ 129) : cv E f = tv E (fv μ0 o ci k) := by
  have e0 : μ0 o k = iniI o k := if_neg h9
  unfold fldc at h
  unfold fv
  rw [e0]
  split at h
  · rename_i z hk
    rw [hk, of_decide_eq_true h]
    rfl
  · rename_i z hk
    rw [hk, of_decide_eq_true h]
    rfl
  · rename_i j hk
    rw [hk, ← of_decide_eq_true h]
    rfl
  · rename_i n j hk
    rw [hk, Nat.eq_of_beq_eq_true h]
    rfl
  · cases h
theorem wE_P (hw : w.length = NO) (hc : chkW 0 w = true) (hP : va_P (e_D E) clsL (cws E w) H) : va_P (e_D E) clsL (wsM E μ0) H := by
  intro k q hq
  obtain ⟨hk, rfl⟩ := ws_inv hq
  obtain ⟨c, hck⟩ : ∃ c, w[k]? = some c := ⟨_, List.getElem?_eq_getElem (by omega)⟩
  have h1 := hP k _ (cws_get hck)
  have h2 := chkW_at hc hck
  rw [Nat.zero_add] at h2
  rcases c with ⟨n, l⟩ | ⟨n, l⟩ | ⟨ci, fs⟩
  · replace h2 : (Nat.beq (cls k) 100 && Nat.beq (aln k) n && cond (Nat.beq k 129) (chk9 l) l.isEmpty) = true := h2
    rw [Bool.and_eq_true, Bool.and_eq_true] at h2
    obtain ⟨⟨a1, a2⟩, a3⟩ := h2
    have a1 := Nat.eq_of_beq_eq_true a1
    have a2 := Nat.eq_of_beq_eq_true a2
    have e1 : elm E μ0 k = celm E (.inl (n, l)) := by
      rw [elm_int a1, a2]
      show (.inl (e_I E, n, .inl (fun i => Int32.ofInt (μ0 k i))) : va_E) = .inl (e_I E, n, .inl (fun i => Int32.ofInt (lkI l i)))
      have e2 : (fun i : Nat => Int32.ofInt (μ0 k i)) = fun i => Int32.ofInt (lkI l i) := by
        funext i
        congr 1
        by_cases h9 : k = 129
        · subst h9
          have a3 : chk9 l = true := a3
          unfold chk9 at a3
          rw [Bool.and_eq_true] at a3
          unfold μ0
          rw [if_pos rfl]
          by_cases hi : i < 120
          · rw [if_pos (by omega)]
            have := List.all_eq_true.mp a3.1 i (List.mem_range.mpr hi)
            rw [of_decide_eq_true this]
            rfl
          · rw [if_neg (by omega), lkI_0 a3.2 (by omega)]
        · have hb : Nat.beq k 129 = false := by
            cases hb : Nat.beq k 129 with
            | true => exact absurd (Nat.eq_of_beq_eq_true hb) h9
            | false => rfl
          rw [hb] at a3
          have hl : l = [] := List.isEmpty_iff.mp a3
          rw [hl, μ0_arr a1 h9]
          rfl
      rw [e2]
    rw [e1]
    exact h1
  · replace h2 : (Nat.beq (cls k) 101 && Nat.beq (aln k) n && (List.range n).all fun i => decide (lkN l i = some (k + 1 + 3 * i))) = true := h2
    rw [Bool.and_eq_true, Bool.and_eq_true] at h2
    obtain ⟨⟨a1, a2⟩, a3⟩ := h2
    have a1 := Nat.eq_of_beq_eq_true a1
    have a2 := Nat.eq_of_beq_eq_true a2
    rw [elm_rfs a1, a2]
    have h1 : H[e_r E k]? = some (vp_cell (e_S E) (n, .inr (.inr (.inr (.inr (fun i => (lkN l i).map (e_r E))))))) := h1
    show H[e_r E k]? = some (vp_cell (e_S E) (n, .inr (.inr (.inr (.inr (fun i => some (e_r E (k + 1 + 3 * i))))))))
    rw [h1, vp_cell_q, vp_cell_q]
    unfold arrV
    congr 3
    funext j
    have := List.all_eq_true.mp a3 j.val (List.mem_range.mpr j.isLt)
    show va_rf ((lkN l j.val).map (e_r E)) = va_rf (some (e_r E (k + 1 + 3 * j.val)))
    rw [of_decide_eq_true this]
    rfl
  · replace h2 : (Nat.beq (cls k) ci && Nat.blt ci 13 && Nat.beq fs.length (nfs ci) && (List.range fs.length).all fun j => match fs[j]? with
      | some f => fldc k ci j f
      | none => false) = true := h2
    rw [Bool.and_eq_true, Bool.and_eq_true, Bool.and_eq_true] at h2
    obtain ⟨⟨⟨a1, a2⟩, a3⟩, a4⟩ := h2
    have a1 := Nat.eq_of_beq_eq_true a1
    have a2 := blt_l a2
    have a3 := Nat.eq_of_beq_eq_true a3
    have h9 : k ≠ 129 := fun q => by
      rw [q] at a1
      have : cls 129 = 100 := by decide +kernel
      omega
    have e1 : elm E μ0 k = celm E (.inr (.inr (ci, fs))) := by
      unfold elm
      rw [a1, if_neg (by omega), if_neg (by omega)]
      show (.inr (ci, (List.range (nfs ci)).map fun j => tv E (fv μ0 k ci j)) : va_E) = .inr (ci, fs.map (cv E))
      congr 2
      apply List.ext_getElem?
      intro j
      rw [List.getElem?_map, List.getElem?_map]
      by_cases hj : j < fs.length
      · rw [List.getElem?_range (by omega)]
        obtain ⟨f, hf⟩ : ∃ f, fs[j]? = some f := ⟨_, List.getElem?_eq_getElem hj⟩
        have := List.all_eq_true.mp a4 j (List.mem_range.mpr hj)
        rw [hf] at this ⊢
        show some (tv E (fv μ0 k ci j)) = some (cv E f)
        rw [fld_at this h9]
      · rw [List.getElem?_eq_none (by simp; omega), List.getElem?_eq_none (by omega)]
        rfl
    rw [e1]
    exact h1
end S84
