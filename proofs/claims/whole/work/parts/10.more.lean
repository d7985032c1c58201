theorem leL_at (i : Nat) : leL.getD i 0 = sln i := by
  unfold leL sln
  rw [List.getD_eq_getElem?_getD, List.getD_eq_getElem?_getD, List.getElem?_map]
  cases strL[i]? <;> rfl
theorem byL_at (i k : Nat) (h : i < 5) (hk : k < sln i) : (byL.getD i []).getD k 0 = Int32.ofInt (sch i k) := by
  have h1 : ∀ i, i < 5 → ∀ k, k < sln i → (byL.getD i []).getD k 0 = Int32.ofInt (sch i k) := by decide +kernel
  exact h1 i h k hk
theorem sln_lt (i : Nat) : sln i < 2147483648 := by
  have h : (strL.all fun q => decide (q.length < 2147483648)) = true := by decide +kernel
  unfold sln
  rw [List.getD_eq_getElem?_getD]
  cases hq : strL[i]? with
  | none => show 0 < _; omega
  | some q => exact of_decide_eq_true (List.all_eq_true.mp h q (List.mem_of_getElem? hq))
section HX
variable {p : Program} {l : Launch} {e : Env} {R : Room} {s : State} {m : MethodId} {args : Array Value} {below : List Frame} {meth : Method} {c : Code} {H : Heap} {locs : List Loc} {cells slots : Nat} {Q : State → Prop}
variable {E : En} {r : MR} {ins : ClassFile.Instr} {pc len : Nat} {lsA : Array Slot} {ls ls' : Ls} {st st' : List AV} {μ : Mm}
theorem W_gets {k o b c0 : Nat} (C : Cx E r p s m args meth c) (hS : va_S (Afn E) s.heap H locs) (ho : 1000 ≤ o ∧ o < 1005) (hf : cond (Nat.beq b 0) (tbA c0 (.fieldLink (r_own r) k "java/lang/String" "value" "[B")) (tbA c0 (.fieldLink (r_own r) k "java/lang/String" "coder" "B")) = true) (hdg : decode (r_b r) pc = .ok (.getfield k, 3)) (K : W p l e R s m args below meth c H locs cells slots Q (F0 m (pc + 3) lsA (((cond (Nat.beq b 0) (.inr (o + 100)) (.inl 0) : AV) :: st).map (tv E)))) : W p l e R s m args below meth c H locs cells slots Q (F0 m pc lsA (((.inr o : AV) :: st).map (tv E))) := by
  obtain ⟨hx, hb, hml, hr, hlk, hown, hts, hB⟩ := C
  obtain ⟨i, hi, rfl⟩ : ∃ i, i < 5 ∧ o = 1000 + i := ⟨o - 1000, by omega, by omega⟩
  obtain ⟨q1, q2, q3, q4⟩ := hB.2.2.1.1 i hi
  rw [List.map_cons, tv_ref (by omega)]
  cases hbb : Nat.beq b 0 <;> rw [hbb] at hf K
  · exact vk_getf (v := .int 0) hx hb q2 hS hown (hts _ (tb_g hf rfl)) (fun _ h => h) hdg K
  · refine vk_getf (v := .ref (e_r E (1100 + i))) hx hb q3 hS hown (hts _ (tb_g hf rfl)) (fun _ h => h) hdg ?_
    rw [List.map_cons] at K
    have e1 : tv E (cond true (.inr (1000 + i + 100)) (.inl 0)) = .ref (e_r E (1100 + i)) := by
      rw [show 1000 + i + 100 = 1100 + i by omega]
      exact tv_ref (by omega)
    rw [e1] at K
    exact K
theorem W_bld {o : Nat} {x : Int} (C : Cx E r p s m args meth c) (hS : va_S (Afn E) s.heap H locs) (hc : (1100 ≤ o ∧ o < 1105) ∧ 0 ≤ x ∧ x < sln (o - 1100)) (hdg : decode (r_b r) pc = .ok (.baload, 1)) (K : W p l e R s m args below meth c H locs cells slots Q (F0 m (pc + 1) lsA (((.inl (sch (o - 1100) x) : AV) :: st).map (tv E)))) : W p l e R s m args below meth c H locs cells slots Q (F0 m pc lsA (((.inl x : AV) :: .inr o :: st).map (tv E))) := by
  obtain ⟨hx, hb, hml, hr, hlk, hown, hts, hB⟩ := C
  obtain ⟨i, hi, rfl⟩ : ∃ i, i < 5 ∧ o = 1100 + i := ⟨o - 1100, by omega, by omega⟩
  rw [show 1100 + i - 1100 = i by omega] at hc K
  obtain ⟨q1, q2, q3, q4⟩ := hB.2.2.1.1 i hi
  rw [List.map_cons, List.map_cons, tv_ref (by omega)]
  obtain ⟨g1, g2⟩ := ofI_in hc.2.1 hc.2.2 (sln_lt i)
  refine va_tb (i := Int32.ofInt x) hx hb q4 hS (by rw [leL_at]; exact g1) rfl hdg ?_
  rw [g2]
  have e1 : ((x.toNat : Nat) : Int) = x := Int.toNat_of_nonneg hc.2.1
  have e2 := byL_at i x.toNat hi (by omega)
  rw [e1] at e2
  rw [e2]
  exact K
theorem W_blen {o : Nat} (C : Cx E r p s m args meth c) (hS : va_S (Afn E) s.heap H locs) (ho : 1100 ≤ o ∧ o < 1105) (hdg : decode (r_b r) pc = .ok (.arraylength, 1)) (K : W p l e R s m args below meth c H locs cells slots Q (F0 m (pc + 1) lsA (((.inl (sln (o - 1100)) : AV) :: st).map (tv E)))) : W p l e R s m args below meth c H locs cells slots Q (F0 m pc lsA (((.inr o : AV) :: st).map (tv E))) := by
  obtain ⟨hx, hb, hml, hr, hlk, hown, hts, hB⟩ := C
  obtain ⟨i, hi, rfl⟩ : ∃ i, i < 5 ∧ o = 1100 + i := ⟨o - 1100, by omega, by omega⟩
  rw [show 1100 + i - 1100 = i by omega] at K
  obtain ⟨q1, q2, q3, q4⟩ := hB.2.2.1.1 i hi
  rw [List.map_cons, tv_ref (by omega)]
  refine va_tlen (v := Int32.ofInt (sln i)) hx hb q4 hS ?_ hdg K
  rw [leL_at]
  apply Int32.toInt_inj.mp
  rw [ofI_toInt (by have := sln_lt i; unfold inR; omega)]
  exact Int32.toInt_ofNat_of_lt (sln_lt i)
theorem W_sld {o : Nat} {x : Int} (C : Cx E r p s m args meth c) (hS : va_S (Afn E) s.heap H locs) (hc : o = 2000 ∧ 0 ≤ x ∧ x < (e_sc E).1) (hdg : decode (r_b r) pc = .ok (.iaload, 1)) (K : W p l e R s m args below meth c H locs cells slots Q (F0 m (pc + 1) lsA (((.inl ((e_sc E).2 x) : AV) :: st).map (tv E)))) : W p l e R s m args below meth c H locs cells slots Q (F0 m pc lsA (((.inl x : AV) :: .inr o :: st).map (tv E))) := by
  obtain ⟨hx, hb, hml, hr, hlk, hown, hts, hB⟩ := C
  obtain ⟨rfl, h0, h1⟩ := hc
  obtain ⟨-, -, -, -, -, -, -, -, hX, hlt, hnA, hL⟩ := hB
  rw [List.map_cons, List.map_cons, tv_ref (by omega)]
  have h1' : x < (e_L E : Nat) := h1
  obtain ⟨g1, g2⟩ := ofI_in h0 h1' (by omega)
  refine va_sld (i := Int32.ofInt x) hx hb hX hlt hnA hS g1 hdg ?_
  rw [g2]
  have : e_x E x.toNat = Int32.ofInt ((e_sc E).2 x) := (ofI_back _).symm
  rw [this]
  exact K
theorem W_sln {o : Nat} (C : Cx E r p s m args meth c) (hS : va_S (Afn E) s.heap H locs) (ho : o = 2000) (hdg : decode (r_b r) pc = .ok (.arraylength, 1)) (K : W p l e R s m args below meth c H locs cells slots Q (F0 m (pc + 1) lsA (((.inl (e_sc E).1 : AV) :: st).map (tv E)))) : W p l e R s m args below meth c H locs cells slots Q (F0 m pc lsA (((.inr o : AV) :: st).map (tv E))) := by
  obtain ⟨hx, hb, hml, hr, hlk, hown, hts, hB⟩ := C
  subst ho
  obtain ⟨-, -, -, -, -, -, -, -, hX, hlt, hnA, hL⟩ := hB
  rw [List.map_cons, tv_ref (by omega)]
  refine va_slen hx hb hX hlt hnA hS hdg ?_
  have : Int32.ofNat (e_L E) = Int32.ofInt (e_sc E).1 := by
    apply Int32.toInt_inj.mp
    rw [ofI_toInt (by show inR (e_L E : Nat); unfold inR; omega)]
    exact Int32.toInt_ofNat_of_lt (by omega)
  rw [this]
  exact K
theorem W_gst {k a c0 : Nat} (C : Cx E r p s m args meth c) (hS : va_S (Afn E) s.heap H locs) (hf : cond (Nat.beq a 0) (tbA c0 (.fieldLink (r_own r) k "java/lang/String" "COMPACT_STRINGS" "Z")) (tbA c0 (.fieldLink (r_own r) k "jdk/internal/util/Preconditions" "SIOOBE_FORMATTER" "Ljava/util/function/BiFunction;")) = true) (hdg : decode (r_b r) pc = .ok (.getstatic k, 3)) (K : W p l e R s m args below meth c H locs cells slots Q (F0 m (pc + 3) lsA (((cond (Nat.beq a 0) (.inl 1) (.inr 3000) : AV) :: st).map (tv E)))) : W p l e R s m args below meth c H locs cells slots Q (F0 m pc lsA (st.map (tv E))) := by
  obtain ⟨hx, hb, hml, hr, hlk, hown, hts, hB⟩ := C
  obtain ⟨-, -, -, -, z1, z2, -⟩ := hB
  cases hbb : Nat.beq a 0 <;> rw [hbb] at hf K
  · exact va_gets hx hb z2 hS hown (hts _ (tb_g hf rfl)) (fun _ h => h) hdg K
  · exact va_gets hx hb z1 hS hown (hts _ (tb_g hf rfl)) (fun _ h => h) hdg K
theorem W_ldS {k a : Nat} (C : Cx E r p s m args meth c) (ha : a < 5) (hk : (r_own r, k) = [("DevilsFount$Law", 48), ("DevilsFount$Reader", 77), ("DevilsFount$Words", 31), ("DevilsFount$Words", 33), ("DevilsFount$Changes", 34)].getD a ("", 0)) (hdg : decode (r_b r) pc = .ok (.ldc k, 2)) (K : W p l e R s m args below meth c H locs cells slots Q (F0 m (pc + 2) lsA (((.inr (1000 + a) : AV) :: st).map (tv E)))) : W p l e R s m args below meth c H locs cells slots Q (F0 m pc lsA (st.map (tv E))) := by
  obtain ⟨hx, hb, hml, hr, hlk, hown, hts, hB⟩ := C
  obtain ⟨-, -, -, hR, -⟩ := hB
  rw [List.map_cons, tv_ref (by omega)] at K
  obtain ⟨q, hq, e1, e2⟩ : ∃ q, sKL[a]? = some q ∧ r_own r = q.1 ∧ k = q.2.1 := by
    match a, ha with
    | 0, _ => exact ⟨_, rfl, congrArg Prod.fst hk, congrArg Prod.snd hk⟩
    | 1, _ => exact ⟨_, rfl, congrArg Prod.fst hk, congrArg Prod.snd hk⟩
    | 2, _ => exact ⟨_, rfl, congrArg Prod.fst hk, congrArg Prod.snd hk⟩
    | 3, _ => exact ⟨_, rfl, congrArg Prod.fst hk, congrArg Prod.snd hk⟩
    | 4, _ => exact ⟨_, rfl, congrArg Prod.fst hk, congrArg Prod.snd hk⟩
    | n + 5, h => exact absurd h (by omega)
  have h9 := hR a q hq
  rw [← e1, ← e2] at h9
  exact va_ldcS hx hb hown h9 hdg K
/-- a comparison's two ways -/
theorem W_icmp {cn : ClassFile.Cond} {x y off : Int} {tgt : Nat} (C : Cx E r p s m args meth c) (hdg : decode (r_b r) pc = .ok (.if_icmp cn off, 3)) (ht : (tgt : Int) = pc + off) (k1 : cmp cn (w32 x) (w32 y) → W p l e R s m args below meth c H locs cells slots Q (F0 m tgt lsA (st.map (tv E)))) (k2 : ¬ cmp cn (w32 x) (w32 y) → W p l e R s m args below meth c H locs cells slots Q (F0 m (pc + 3) lsA (st.map (tv E)))) : W p l e R s m args below meth c H locs cells slots Q (F0 m pc lsA (((.inl y : AV) :: .inl x :: st).map (tv E))) := by
  obtain ⟨hx, hb, hml, hr, hlk, hown, hts, hB⟩ := C
  cases cn
  · exact lv_icmp_eq hx hb hdg ht.symm (fun h => k1 (ofI_inj.mp h)) (fun h => k2 (fun h2 => h (ofI_inj.mpr h2)))
  · exact lv_icmp_ne hx hb hdg ht.symm (fun h => k1 (fun h2 => h (ofI_inj.mpr h2))) (fun h => k2 (fun h2 => h2 (ofI_inj.mp h)))
  · exact lv_icmp_lt hx hb hdg ht.symm (fun h => k1 (ofI_lt.mp h)) (fun h => k2 (fun h2 => h (ofI_lt.mpr h2)))
  · exact lv_icmp_ge hx hb hdg ht.symm (fun h => k1 (ofI_le.mp h)) (fun h => k2 (fun h2 => h (ofI_le.mpr h2)))
  · exact lv_icmp_gt hx hb hdg ht.symm (fun h => k1 (ofI_lt.mp h)) (fun h => k2 (fun h2 => h (ofI_lt.mpr h2)))
  · exact lv_icmp_le hx hb hdg ht.symm (fun h => k1 (ofI_le.mp h)) (fun h => k2 (fun h2 => h (ofI_le.mpr h2)))
theorem W_ifc {cn : ClassFile.Cond} {x off : Int} {tgt : Nat} (C : Cx E r p s m args meth c) (hdg : decode (r_b r) pc = .ok (.ifCond cn off, 3)) (ht : (tgt : Int) = pc + off) (k1 : cmp cn (w32 x) 0 → W p l e R s m args below meth c H locs cells slots Q (F0 m tgt lsA (st.map (tv E)))) (k2 : ¬ cmp cn (w32 x) 0 → W p l e R s m args below meth c H locs cells slots Q (F0 m (pc + 3) lsA (st.map (tv E)))) : W p l e R s m args below meth c H locs cells slots Q (F0 m pc lsA (((.inl x : AV) :: st).map (tv E))) := by
  obtain ⟨hx, hb, hml, hr, hlk, hown, hts, hB⟩ := C
  have e0 : (0 : Int32) = Int32.ofInt 0 := rfl
  have w0 : w32 0 = 0 := rfl
  rw [← w0] at k1 k2
  cases cn
  · exact lv_if_eq hx hb hdg ht.symm (fun h => k1 (ofI_inj.mp h)) (fun h => k2 (fun h2 => h (ofI_inj.mpr h2)))
  · exact lv_if_ne hx hb hdg ht.symm (fun h => k1 (fun h2 => h (ofI_inj.mpr h2))) (fun h => k2 (fun h2 => h2 (ofI_inj.mp h)))
  · exact lv_if_lt hx hb hdg ht.symm (fun h => k1 (ofI_lt.mp h)) (fun h => k2 (fun h2 => h (ofI_lt.mpr h2)))
  · exact lv_if_ge hx hb hdg ht.symm (fun h => k1 (ofI_le.mp h)) (fun h => k2 (fun h2 => h (ofI_le.mpr h2)))
  · exact lv_if_gt hx hb hdg ht.symm (fun h => k1 (ofI_lt.mp h)) (fun h => k2 (fun h2 => h (ofI_lt.mpr h2)))
  · exact lv_if_le hx hb hdg ht.symm (fun h => k1 (ofI_le.mp h)) (fun h => k2 (fun h2 => h (ofI_le.mpr h2)))
end HX
