section RW
variable {p : Program} {l : Launch} {e : Env} {R : Room} {s : State} {m : MethodId} {args : Array Value} {below : List Frame} {meth : Method} {c : Code} {H : Heap} {locs : List Loc} {cells slots : Nat} {Q : State → Prop}
variable {E : En} {r : MR} {ins : ClassFile.Instr} {pc len : Nat} {lsA : Array Slot} {ls ls' : Ls} {st st' : List AV} {μ : Mm}
theorem i2c_eq (x : Int) : ((Int32.ofInt x).toUInt32 % 65536).toInt32 = Int32.ofInt (iChr x) := (ofI_back _).symm
theorem pur_W (C : Cx E r p s m args meth c) (hdg : decode (r_b r) pc = .ok (ins, len)) (hlen : len = lenO (r_n r) ins) (h99 : len < 99) (hp : pur ins st = some st') (k : W p l e R s m args below meth c H locs cells slots Q (F0 m (pc + len) lsA (st'.map (tv E)))) : W p l e R s m args below meth c H locs cells slots Q (F0 m pc lsA (st.map (tv E))) := by
  obtain ⟨hx, hb, hml, hr, hlk, hown, hts, hB⟩ := C
  subst hlen
  unfold pur at hp
  split at hp
  · cases hp; exact lv_iconst hx hb hdg rfl k
  · cases hp
    rename_i n
    have h1 : (-128 ≤ n) ∧ n < 128 := by
      unfold lenO at h99
      by_cases a : -128 ≤ n <;> by_cases b : n < 128 <;> simp_all
    have e2 : lenO (r_n r) (.bipush n) = 2 := by unfold lenO; simp [h1.1, h1.2]
    rw [e2] at hdg k
    exact lv_bipush hx hb hdg (bip_eq h1.1 h1.2) k
  · cases hp
    rename_i n
    have h1 : (-32768 ≤ n) ∧ n < 32768 := by
      unfold lenO at h99
      by_cases a : -32768 ≤ n <;> by_cases b : n < 32768 <;> simp_all
    have e2 : lenO (r_n r) (.sipush n) = 3 := by unfold lenO; simp [h1.1, h1.2]
    rw [e2] at hdg k
    exact lv_sipush hx hb hdg (sip_eq h1.1 h1.2) k
  · cases hp; exact lv_dup hx hb hdg (tv_cat hB _) k
  · cases hp; exact lv_dup2_11 hx hb hdg (tv_cat hB _) (tv_cat hB _) k
  · cases hp; exact lv_pop hx hb hdg (tv_cat hB _) k
  · cases hp; exact lv_iadd hx hb hdg (by rw [← Int32.ofInt_add]; exact k)
  · cases hp; exact lv_isub hx hb hdg (by rw [← Int32.ofInt_sub]; exact k)
  · cases hp; exact lv_imul hx hb hdg (by rw [← Int32.ofInt_mul]; exact k)
  · cases hp; exact lv_iand hx hb hdg (by rw [← ofI_back (_ &&& _)]; exact k)
  · cases hp; exact lv_ior hx hb hdg (by rw [← ofI_back (_ ||| _)]; exact k)
  · cases hp; exact lv_ixor hx hb hdg (by rw [← ofI_back (_ ^^^ _)]; exact k)
  · cases hp; exact lv_ishl hx hb hdg (by rw [← ofI_back (_ <<< _)]; exact k)
  · cases hp; exact lv_ishr hx hb hdg (by rw [← ofI_back (_ >>> _)]; exact k)
  · cases hp; exact lv_iushr hx hb hdg (ofI_back _).symm k
  · cases hp; exact lv_i2c hx hb hdg (ofI_back _).symm k
  · cases hp; exact lv_i2b hx hb hdg (ofI_back _).symm k
  · cases hp
theorem loc_W (C : Cx E r p s m args meth c) (hdg : decode (r_b r) pc = .ok (ins, len)) (hlen : len = lenO (r_n r) ins) (h99 : len < 99) (hl : lv_has lsA (r_n r) (lvl E 0 ls)) (hp : loc ins ls st = some (ls', st')) (k : ∀ lsB : Array Slot, lv_has lsB (r_n r) (lvl E 0 ls') → W p l e R s m args below meth c H locs cells slots Q (F0 m (pc + len) lsB (st'.map (tv E)))) : W p l e R s m args below meth c H locs cells slots Q (F0 m pc lsA (st.map (tv E))) := by
  obtain ⟨hx, hb, hml, hr, hlk, hown, hts, hB⟩ := C
  subst hlen
  have blt : ∀ {a b n : Nat}, cond (Nat.blt a b) n 99 < 99 → a < b ∧ cond (Nat.blt a b) n 99 = n := by
    intro a b n h
    cases hc : Nat.blt a b
    · rw [hc] at h; exact absurd h (Nat.lt_irrefl 99)
    · exact ⟨Nat.le_of_ble_eq_true hc, rfl⟩
  unfold loc at hp
  split at hp
  · split at hp
    · cases hp; rename_i hz; exact lv_iload_n hx hb hdg rfl (lvl_at hl hz) (k _ hl)
    · cases hp
  · split at hp
    · cases hp; rename_i hz; exact lv_iload hx hb hdg (lvl_at hl hz) (k _ hl)
    · cases hp
  · split at hp
    · cases hp
      rename_i z hz
      have h1 := lvl_at hl hz
      have h2 := k _ hl
      rw [List.map_cons] at h2
      rcases tv_nr hB z with h0 | ⟨a, h0⟩ <;> rw [h0] at h1 h2
      · exact lv_aload_nN hx hb hdg rfl h1 h2
      · exact lv_aload_n hx hb hdg rfl h1 h2
    · cases hp
  · split at hp
    · cases hp
      rename_i z hz
      have h1 := lvl_at hl hz
      have h2 := k _ hl
      rw [List.map_cons] at h2
      rcases tv_nr hB z with h0 | ⟨a, h0⟩ <;> rw [h0] at h1 h2
      · exact lv_aloadN hx hb hdg h1 h2
      · exact lv_aload hx hb hdg h1 h2
    · cases hp
  · cases hp
    obtain ⟨h1, h2⟩ := blt h99
    have hdg' : decode (r_b r) pc = .ok (.istore_n _, 1) := hdg.trans (by rw [show lenO (r_n r) (.istore_n _) = 1 from h2])
    have k' := k
    rw [show lenO (r_n r) (.istore_n _) = 1 from h2] at k'
    exact lv_istore_n hx hb hdg' rfl hl h1 rfl (fun lsB h => k' lsB (lvl_set hB h))
  · cases hp
    obtain ⟨h1, h2⟩ := blt h99
    have hdg' : decode (r_b r) pc = .ok (.istore _, 2) := hdg.trans (by rw [show lenO (r_n r) (.istore _) = 2 from h2])
    have k' := k
    rw [show lenO (r_n r) (.istore _) = 2 from h2] at k'
    exact lv_istore hx hb hdg' hl h1 rfl (fun lsB h => k' lsB (lvl_set hB h))
  · cases hp
    rename_i z
    obtain ⟨h1, h2⟩ := blt h99
    have hdg' : decode (r_b r) pc = .ok (.astore_n _, 1) := hdg.trans (by rw [show lenO (r_n r) (.astore_n _) = 1 from h2])
    have k' := fun lsB h => k lsB (lvl_set (k := _) (v := .inr z) hB h)
    rw [show lenO (r_n r) (.astore_n _) = 1 from h2] at k'
    rw [List.map_cons]
    rcases tv_nr hB z with h0 | ⟨a, h0⟩ <;> rw [h0] at k' ⊢
    · exact lv_astore_nN hx hb hdg' rfl hl h1 rfl k'
    · exact lv_astore_n hx hb hdg' rfl hl h1 rfl k'
  · cases hp
    rename_i z
    obtain ⟨h1, h2⟩ := blt h99
    have hdg' : decode (r_b r) pc = .ok (.astore _, 2) := hdg.trans (by rw [show lenO (r_n r) (.astore _) = 2 from h2])
    have k' := fun lsB h => k lsB (lvl_set (k := _) (v := .inr z) hB h)
    rw [show lenO (r_n r) (.astore _) = 2 from h2] at k'
    rw [List.map_cons]
    rcases tv_nr hB z with h0 | ⟨a, h0⟩ <;> rw [h0] at k' ⊢
    · exact lv_astoreN hx hb hdg' hl h1 rfl k'
    · exact lv_astore hx hb hdg' hl h1 rfl k'
  · split at hp
    · cases hp
      rename_i i n _ z hz
      obtain ⟨h1, h2⟩ := blt h99
      have hdg' : decode (r_b r) pc = .ok (.iinc _ _, 3) := hdg.trans (by rw [show lenO (r_n r) (.iinc _ _) = 3 from h2])
      have k' := k
      rw [show lenO (r_n r) (.iinc _ _) = 3 from h2] at k'
      obtain ⟨q, hq⟩ := List.getElem?_of_mem ((lvl_mem (E := E) ls 0 (i, tv E (.inl z))).mpr ⟨i, _, hz, by rw [Nat.zero_add]⟩)
      exact lv_iinc (k := q) (x := Int32.ofInt z) (v := Int32.ofInt (z + n)) hx hb hdg' hl hq (Int32.ofInt_add z n).symm h1 rfl (fun lsB h => k' lsB (lvl_set (v := .inl (z + n)) hB h))
    · cases hp
  · cases hp
end RW
