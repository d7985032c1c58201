theorem okSw_len {cd : List It} {pc : Nat} : ∀ {os : List Int} {sw : List (Int × Nat)} {lo : Int}, okSw cd pc lo os sw = true → os.length = sw.length
  | [], [], _, _ => rfl
  | _ :: os, (_, _) :: r, lo, h => by
    unfold okSw at h
    simp only [Bool.and_eq_true] at h
    rw [List.length_cons, List.length_cons, okSw_len h.2]
  | [], _ :: _, _, h => by unfold okSw at h; cases h
  | _ :: _, [], _, h => by unfold okSw at h; cases h
/-- a value of the table goes to its place, another one to the rest -/
theorem swt_in {f : Nat → Prop} {d : Prop} {r : MR} {pc : Nat} : ∀ {os : List Int} {sw : List (Int × Nat)} {lo x : Int}, okSw (r_c r) pc lo os sw = true → swt x d f sw →
    (lo ≤ x → x < lo + os.length → ∃ (o : Int) (t : Nat), os[(x - lo).toNat]? = some o ∧ (pco r t : Int) = pc + o ∧ f t) ∧ ((x < lo ∨ lo + os.length ≤ x) → d)
  | [], [], lo, x, _, hs => ⟨fun h1 h2 => by simp at h2; omega, fun _ => hs⟩
  | o :: os, (k, t) :: r', lo, x, h, hs => by
    unfold okSw at h
    simp only [Bool.and_eq_true, decide_eq_true_eq] at h
    obtain ⟨⟨hk, ho⟩, hr⟩ := h
    unfold swt at hs
    subst hk
    by_cases hx : x = k
    · refine ⟨fun _ _ => ⟨o, t, ?_, okO_eq ho, hs.1 hx⟩, fun h => ?_⟩
      · rw [hx, Int.sub_self]; rfl
      · simp only [List.length_cons] at h; omega
    · obtain ⟨i1, i2⟩ := swt_in hr (hs.2 hx)
      refine ⟨fun h1 h2 => ?_, fun h => i2 ?_⟩
      · obtain ⟨o', t', e1, e2, e3⟩ := i1 (by omega) (by simp only [List.length_cons] at h2; omega)
        refine ⟨o', t', ?_, e2, e3⟩
        rw [show (x - k).toNat = (x - (k + 1)).toNat + 1 by omega, List.getElem?_cons_succ]
        exact e1
      · simp only [List.length_cons] at h; omega
  | [], _ :: _, _, _, h, _ => by unfold okSw at h; cases h
  | _ :: _, [], _, _, h, _ => by unfold okSw at h; cases h
theorem swt_ls {f : Nat → Prop} {d : Prop} {r : MR} {pc : Nat} {dflt : Int} : ∀ {os : List (Int × Int)} {sw : List (Int × Nat)} {x : Int}, okLs (r_c r) pc os sw = true → swt x d f sw →
    (∃ (t : Nat), (pco r t : Int) = pc + Op.lookupswitch.offset os dflt x ∧ f t) ∨ (Op.lookupswitch.offset os dflt x = dflt ∧ d)
  | [], [], x, _, hs => Or.inr ⟨rfl, hs⟩
  | (k', o) :: os, (k, t) :: r', x, h, hs => by
    unfold okLs at h
    simp only [Bool.and_eq_true, decide_eq_true_eq] at h
    obtain ⟨⟨hk, ho⟩, hr⟩ := h
    unfold swt at hs
    subst hk
    rw [Op.lookupswitch.offset_cons]
    by_cases hx : x = k
    · rw [if_pos hx.symm]
      exact Or.inl ⟨t, okO_eq ho, hs.1 hx⟩
    · rw [if_neg (Ne.symm hx)]
      exact swt_ls hr (hs.2 hx)
  | [], _ :: _, _, h, _ => by unfold okLs at h; cases h
  | _ :: _, [], _, h, _ => by unfold okLs at h; cases h
section HC
variable {p : Program} {l : Launch} {e : Env} {R : Room} {s : State} {m : MethodId} {args : Array Value} {below : List Frame} {meth : Method} {c : Code} {H : Heap} {locs : List Loc} {cells slots : Nat} {Q : State → Prop}
variable {E : En} {r : MR} {ins : ClassFile.Instr} {pc len : Nat} {lsA : Array Slot} {ls ls' : Ls} {st st' : List AV} {μ : Mm}
theorem W_tsw {d lo hi : Int} {os : Array Int} {a : Nat} {sw : List (Int × Nat)} {x : Int} (C : Cx E r p s m args meth c) (hin : inR x) (h1 : okO (r_c r) a (pc + d) = true) (h2 : hi = lo + os.size - 1) (h3 : okSw (r_c r) pc lo os.toList sw = true) (hdg : decode (r_b r) pc = .ok (.tableswitch d lo hi os, len)) {f : Nat → Prop} (hs : swt x (f a) f sw) (K : ∀ t, f t → W p l e R s m args below meth c H locs cells slots Q (F0 m (pco r t) lsA (st.map (tv E)))) : W p l e R s m args below meth c H locs cells slots Q (F0 m pc lsA (((.inl x : AV) :: st).map (tv E))) := by
  obtain ⟨hx, hb, hml, hr, hlk, hown, hts, hB⟩ := C
  obtain ⟨i1, i2⟩ := swt_in h3 hs
  rw [Array.length_toList] at i1 i2
  have ex : (Int32.ofInt x).toInt = x := ofI_toInt hin
  by_cases hlo : x < lo ∨ hi < x
  · exact lv_tableOut hx hb hdg (by rw [ex]; exact hlo) (okO_eq h1).symm (K a (i2 (by omega)))
  · obtain ⟨o, t, e1, e2, e3⟩ := i1 (by omega) (by omega)
    exact lv_tableIn (off := o) hx hb hdg (by rw [ex]; omega) (by rw [ex]; omega) (by rw [ex, ← Array.getElem?_toList]; exact e1) e2.symm (K t e3)
theorem W_lsw {d : Int} {ps : Array (Int × Int)} {a : Nat} {sw : List (Int × Nat)} {x : Int} (C : Cx E r p s m args meth c) (hin : inR x) (h1 : okO (r_c r) a (pc + d) = true) (h2 : okLs (r_c r) pc ps.toList sw = true) (h3 : (ps.toList.zip (ps.toList.drop 1)).all (fun (a, next) => a.1 < next.1) = true) (hdg : decode (r_b r) pc = .ok (.lookupswitch d ps, len)) {f : Nat → Prop} (hs : swt x (f a) f sw) (K : ∀ t, f t → W p l e R s m args below meth c H locs cells slots Q (F0 m (pco r t) lsA (st.map (tv E)))) : W p l e R s m args below meth c H locs cells slots Q (F0 m pc lsA (((.inl x : AV) :: st).map (tv E))) := by
  obtain ⟨hx, hb, hml, hr, hlk, hown, hts, hB⟩ := C
  have ex : (Int32.ofInt x).toInt = x := ofI_toInt hin
  rcases swt_ls (dflt := d) h2 hs with ⟨t, e1, e2⟩ | ⟨e1, e2⟩
  · exact lv_lookup hx hb hdg h3 (by rw [ex]) e1.symm (K t e2)
  · exact lv_lookup hx hb hdg h3 (by rw [ex]; exact e1) (okO_eq h1).symm (K a e2)
end HC
