theorem fldO_out {own : String} {k a b c : Nat} (h : fldO own k a b c = true) : ∃ (C : String) (T : u_T) (N : Nat), clsL[a]? = some (C, T, N) ∧ b < N ∧ Cond.fieldLink own k C (T b).2.1 (T b).2.2.1 ∈ lw_g ∧ (T b).1 = C ∧ a < 13 := by
  unfold fldO at h
  split at h
  · rename_i C T N hc
    simp only [Bool.and_eq_true, decide_eq_true_eq] at h
    exact ⟨C, T, N, hc, Nat.le_of_ble_eq_true h.1.1, tb_g h.1.2 rfl, h.2, (List.getElem?_eq_some_iff.mp hc).1⟩
  · cases h
theorem elm_obj {E : En} {μ : Mm} {o a : Nat} {C : String} {T : u_T} {N : Nat} (h : cls o = a) (hc : clsL[a]? = some (C, T, N)) (ha : a < 13) : elm E μ o = .inr (a, (List.range N).map fun k => tv E (fv μ o a k)) := by
  unfold elm
  rw [h, if_neg (by omega), if_neg (by omega)]
  unfold nfs
  rw [hc]
theorem elm_int {E : En} {μ : Mm} {o : Nat} (h : cls o = 100) : elm E μ o = .inl (e_I E, aln o, .inl (fun i => Int32.ofInt (μ o i))) := by
  unfold elm; rw [if_pos h]
theorem elm_rfs {E : En} {μ : Mm} {o : Nat} (h : cls o = 101) : elm E μ o = .inl (e_S E, aln o, .inr (.inr (.inr (.inr (fun i => some (e_r E (o + 1 + 3 * i))))))) := by
  unfold elm; rw [if_neg (by omega), if_pos h]
theorem aln_lt (o : Nat) : aln o < 2147483648 := by
  have h : (shpL.all fun q => decide (q.2 < 2147483648)) = true := by decide +kernel
  unfold aln
  rw [List.getD_eq_getElem?_getD]
  cases hq : shpL[o]? with
  | none => show 0 < _; omega
  | some q => exact of_decide_eq_true (List.all_eq_true.mp h q (List.mem_of_getElem? hq))
section HW
variable {p : Program} {l : Launch} {e : Env} {R : Room} {s : State} {m : MethodId} {args : Array Value} {below : List Frame} {meth : Method} {c : Code} {H : Heap} {locs : List Loc} {cells slots : Nat} {Q : State → Prop}
variable {E : En} {r : MR} {ins : ClassFile.Instr} {pc len : Nat} {lsA : Array Slot} {ls ls' : Ls} {st st' : List AV} {μ : Mm}
theorem W_get {k o a b c0 : Nat} (C : Cx E r p s m args meth c) (hP : va_P (e_D E) clsL (wsM E μ) H) (hc : cls o = a) (hf : fldO (r_own r) k a b c0 = true) (hdg : decode (r_b r) pc = .ok (.getfield k, 3)) (K : W p l e R s m args below meth c H locs cells slots Q (F0 m (pc + 3) lsA ((fv μ o a b :: st).map (tv E)))) : W p l e R s m args below meth c H locs cells slots Q (F0 m pc lsA (((.inr o : AV) :: st).map (tv E))) := by
  obtain ⟨hx, hb, hml, hr, hlk, hown, hts, hB⟩ := C
  obtain ⟨Cn, T, N, h1, h2, h3, h4, h5⟩ := fldO_out hf
  obtain ⟨hin, -⟩ := cls_fields h1
  have ho : o < NO := cls_lt hc (by omega)
  rw [List.map_cons, tv_ref (show o < 3000 by have : NO = 158 := rfl; omega)]
  refine va_get (D := e_D E) (ci := a) (ref := Cn) (C := Cn) (T := T) (N := N) hx hb hts hin hown hB.1 hP o (by rw [ws_get ho, elm_obj hc h1 h5]) h1 b h2 (hts _ h3) (fun x hx => by rw [h4] at hx; exact hx) (v := tv E (fv μ o a b)) ?_ hdg K
  rw [List.getElem?_map, List.getElem?_range h2]
  rfl
theorem W_ild {o : Nat} {x : Int} (C : Cx E r p s m args meth c) (hP : va_P (e_D E) clsL (wsM E μ) H) (hc : cls o = 100 ∧ 0 ≤ x ∧ x < aln o) (hdg : decode (r_b r) pc = .ok (.iaload, 1)) (K : W p l e R s m args below meth c H locs cells slots Q (F0 m (pc + 1) lsA (((.inl (μ o x) : AV) :: st).map (tv E)))) : W p l e R s m args below meth c H locs cells slots Q (F0 m pc lsA (((.inl x : AV) :: .inr o :: st).map (tv E))) := by
  obtain ⟨hx, hb, hml, hr, hlk, hown, hts, hB⟩ := C
  have ho : o < NO := cls_lt hc.1 (by omega)
  rw [List.map_cons, List.map_cons, tv_ref (show o < 3000 by have : NO = 158 := rfl; omega)]
  obtain ⟨g1, g2⟩ := ofI_in hc.2.1 hc.2.2 (aln_lt o)
  refine va_iald (D := e_D E) (i := Int32.ofInt x) hx hb hB.1 hP o 0 (by rw [ws_get ho, elm_int hc.1]) rfl g1 hdg ?_
  rw [g2]
  have : ((x.toNat : Nat) : Int) = x := Int.toNat_of_nonneg hc.2.1
  rw [this]
  exact K
theorem W_ald {o : Nat} {x : Int} (C : Cx E r p s m args meth c) (hP : va_P (e_D E) clsL (wsM E μ) H) (hc : cls o = 101 ∧ 0 ≤ x ∧ x < aln o) (hdg : decode (r_b r) pc = .ok (.aaload, 1)) (K : W p l e R s m args below meth c H locs cells slots Q (F0 m (pc + 1) lsA (((.inr (o + 1 + 3 * x.toNat) : AV) :: st).map (tv E)))) : W p l e R s m args below meth c H locs cells slots Q (F0 m pc lsA (((.inl x : AV) :: .inr o :: st).map (tv E))) := by
  obtain ⟨hx, hb, hml, hr, hlk, hown, hts, hB⟩ := C
  have ho : o < NO := cls_lt hc.1 (by omega)
  rw [List.map_cons, List.map_cons, tv_ref (show o < 3000 by have : NO = 158 := rfl; omega)]
  obtain ⟨g1, g2⟩ := ofI_in hc.2.1 hc.2.2 (aln_lt o)
  refine va_aldq (D := e_D E) (i := Int32.ofInt x) hx hb hB.1 hP o 1 (by rw [ws_get ho, elm_rfs hc.1]) rfl g1 hdg ?_
  rw [g2]
  have hs : x.toNat < 6 := by
    have h6 : ∀ o : Nat, cls o = 101 → aln o = 6 := by
      intro o h
      have ho := cls_lt h (by omega)
      have : ∀ o, o < NO → cls o = 101 → aln o = 6 := by decide +kernel
      exact this o ho h
    have := h6 o hc.1
    omega
  rw [List.map_cons, tv_ref (by have : NO = 158 := rfl; omega)] at K
  exact K
theorem W_ist {o : Nat} {x v : Int} (C : Cx E r p s m args meth c) (hP : va_P (e_D E) clsL (wsM E μ) H) (hS : va_S (Afn E) s.heap H locs) (hc : cls o = 100 ∧ 0 ≤ x ∧ x < aln o) (hdg : decode (r_b r) pc = .ok (.iastore, 1)) (K : ∀ (H1 : Heap) (locs1 : List Loc), va_P (e_D E) clsL (wsM E (mu μ o x v)) H1 → va_S (Afn E) s.heap H1 locs1 → W p l e R s m args below meth c H1 locs1 cells slots Q (F0 m (pc + 1) lsA (st.map (tv E)))) : W p l e R s m args below meth c H locs cells slots Q (F0 m pc lsA (((.inl v : AV) :: .inl x :: .inr o :: st).map (tv E))) := by
  obtain ⟨hx, hb, hml, hr, hlk, hown, hts, hB⟩ := C
  have ho : o < NO := cls_lt hc.1 (by omega)
  rw [List.map_cons, List.map_cons, List.map_cons, tv_ref (show o < 3000 by have : NO = 158 := rfl; omega)]
  obtain ⟨g1, g2⟩ := ofI_in hc.2.1 hc.2.2 (aln_lt o)
  refine va_iast (D := e_D E) (i := Int32.ofInt x) (x := Int32.ofInt v) hx hb hB.1 hP (ws_D hB) hS o 0 (by rw [ws_get ho, elm_int hc.1]) rfl g1 hdg (fun H1 locs1 h1 h2 h3 => ?_)
  refine K H1 locs1 ?_ h3
  rw [ws_set (μ' := mu μ o x v) ho ?_ (fun a ha => elm_ne ha)] at h1
  · exact h1
  · rw [elm_int hc.1, g2]
    have : ((x.toNat : Nat) : Int) = x := Int.toNat_of_nonneg hc.2.1
    congr 3
    congr 1
    funext i
    unfold mu upd
    by_cases hi : i = x.toNat
    · subst hi
      rw [if_pos ⟨rfl, this⟩, if_pos rfl]
    · rw [if_neg (fun h => hi (by omega)), if_neg hi]
theorem W_alen {o : Nat} (C : Cx E r p s m args meth c) (hP : va_P (e_D E) clsL (wsM E μ) H) (hc : cls o = 100) (hdg : decode (r_b r) pc = .ok (.arraylength, 1)) (K : W p l e R s m args below meth c H locs cells slots Q (F0 m (pc + 1) lsA (((.inl (aln o) : AV) :: st).map (tv E)))) : W p l e R s m args below meth c H locs cells slots Q (F0 m pc lsA (((.inr o : AV) :: st).map (tv E))) := by
  obtain ⟨hx, hb, hml, hr, hlk, hown, hts, hB⟩ := C
  have ho : o < NO := cls_lt hc (by omega)
  rw [List.map_cons, tv_ref (show o < 3000 by have : NO = 158 := rfl; omega)]
  exact va_alen (D := e_D E) (x := (aln o, .inl (fun i => Int32.ofInt (μ o i)))) (v := Int32.ofInt (aln o)) hx hb hB.1 hP o 0 (by rw [ws_get ho, elm_int hc]) (ty := .int) rfl (by apply Int32.toInt_inj.mp; rw [ofI_toInt (by have := aln_lt o; unfold inR; omega)]; exact Int32.toInt_ofNat_of_lt (aln_lt o)) hdg K
theorem fk_of {a b : Nat} {C : String} {T : u_T} {N : Nat} (h : clsL[a]? = some (C, T, N)) (hb : b < N) : (fk a b = 0 → parseFieldDescriptor (T b).2.2.1 = some .int) ∧ (fk a b = 1 → parseFieldDescriptor (T b).2.2.1 = some .boolean) ∧ (fk a b = 2 → parseFieldDescriptor (T b).2.2.1 = some (.object "DevilsFount$Standing")) := by
  have ha : a < 13 := (List.getElem?_eq_some_iff.mp h).1
  have h1 := List.all_eq_true.mp fk_all a (List.mem_range.mpr ha)
  rw [h] at h1
  have h2 := List.all_eq_true.mp h1 b (List.mem_range.mpr hb)
  refine ⟨fun e => ?_, fun e => ?_, fun e => ?_⟩ <;> rw [e] at h2 <;> exact of_decide_eq_true h2
theorem W_put {k o a b c0 : Nat} {v : AV} {z : Int} (C : Cx E r p s m args meth c) (hP : va_P (e_D E) clsL (wsM E μ) H) (hS : va_S (Afn E) s.heap H locs) (hc : cls o = a) (hf : fldO (r_own r) k a b c0 = true) (hfin : ∀ q, clsL[a]? = some q → (q.2.1 b).2.2.2 = false) (hv : (fk a b = 0 ∧ v = .inl z) ∨ (fk a b = 1 ∧ v = .inl z ∧ (z = 0 ∨ z = 1)) ∨ (fk a b = 2 ∧ ∃ w : Nat, v = .inr w ∧ z = w ∧ w < NO)) (hdg : decode (r_b r) pc = .ok (.putfield k, 3)) (K : ∀ (H1 : Heap) (locs1 : List Loc), va_P (e_D E) clsL (wsM E (mu μ o b z)) H1 → va_S (Afn E) s.heap H1 locs1 → W p l e R s m args below meth c H1 locs1 cells slots Q (F0 m (pc + 3) lsA (st.map (tv E)))) : W p l e R s m args below meth c H locs cells slots Q (F0 m pc lsA ((v :: .inr o :: st).map (tv E))) := by
  obtain ⟨hx, hb, hml, hr, hlk, hown, hts, hB⟩ := C
  obtain ⟨Cn, T, N, h1, h2, h3, h4, h5⟩ := fldO_out hf
  obtain ⟨hin, ty0, hty, hnm⟩ := cls_fields h1
  have ho : o < NO := cls_lt hc (by omega)
  rw [List.map_cons, List.map_cons, tv_ref (show o < 3000 by have : NO = 158 := rfl; omega)]
  have hvv : tv E v = tv E (fv (mu μ o b z) o a b) := by
    have e0 : mu μ o b z o b = z := by simp [mu]
    unfold fv
    rcases hv with ⟨h, rfl⟩ | ⟨h, rfl, -⟩ | ⟨h, w, rfl, rfl, -⟩ <;> rw [h] <;> simp [e0]
  have hty2 : ∃ ty, parseFieldDescriptor (T b).2.2.1 = some ty ∧ narrow ty (tv E v) = tv E v ∧ fits ty (tv E v) = true := by
    obtain ⟨f0, f1, f2⟩ := fk_of h1 h2
    rcases hv with ⟨h, rfl⟩ | ⟨h, rfl, hz⟩ | ⟨h, w, rfl, rfl, hw⟩
    · exact ⟨_, f0 h, rfl, rfl⟩
    · refine ⟨_, f1 h, ?_, ?_⟩ <;> rcases hz with rfl | rfl <;> rfl
    · refine ⟨_, f2 h, ?_, ?_⟩ <;> rw [tv_ref (by have : NO = 158 := rfl; omega)] <;> rfl
  obtain ⟨ty, t1, t2, t3⟩ := hty2
  refine va_put (D := e_D E) (ci := a) (ref := Cn) (C := Cn) (T := T) (N := N) hx hb hts hin ty0 hty hnm hown hB.1 hP (ws_D hB) hS o (by rw [ws_get ho, elm_obj hc h1 h5]) h1 b h2 (hts _ h3) (fun x hx => by rw [h4] at hx; exact hx) (hfin _ h1) t1 t2 t3 (by simpa using h2) hdg (fun H1 locs1 g1 g2 g3 => K H1 locs1 ?_ g3)
  rw [ws_set (μ' := mu μ o b z) ho ?_ (fun a ha => elm_ne ha)] at g1
  · exact g1
  · rw [elm_obj hc h1 h5]
    congr 2
    apply List.ext_getElem?
    intro j
    by_cases hj : j = b
    · subst hj
      rw [List.getElem?_set_self (by simpa using h2), List.getElem?_map, List.getElem?_range h2, hvv]
      rfl
    · rw [List.getElem?_set_ne (Ne.symm hj), List.getElem?_map, List.getElem?_map]
      by_cases hjN : j < N
      · rw [List.getElem?_range hjN]
        have e1 : mu μ o b z o j = μ o j := by
          unfold mu
          rw [if_neg (fun h => hj (by omega))]
        have e2 : fv (mu μ o b z) o a j = fv μ o a j := by
          unfold fv
          split <;> simp only [e1]
        show some (tv E (fv (mu μ o b z) o a j)) = some (tv E (fv μ o a j))
        rw [e2]
      · rw [List.getElem?_eq_none (by simpa using hjN)]
        rfl
end HW
