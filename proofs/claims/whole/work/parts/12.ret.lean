theorem okM_out {r : MR} (h : okQ r = true) : (r_y r).cls = r_own r ∧ plainName (r_own r) = true ∧ ((r_y r).cls ≠ "java/lang/invoke/MethodHandle" ∧ (r_y r).cls ≠ "java/lang/invoke/VarHandle") ∧ r_n r ≤ 40 ∧ Cond.initialized (r_own r) ∈ lw_g ∧ (r_s r = true → Cond.static (r_y r) ∈ lw_g) ∧ (r_s r = false → Cond.instanceMethod (r_y r) ∈ lw_g ∧ Cond.selects (r_own r) (r_y r) (r_y r) ∈ lw_g) := by
  unfold okQ okM at h
  simp only [Bool.and_eq_true, decide_eq_true_eq] at h
  obtain ⟨⟨⟨⟨⟨⟨⟨h1, h2⟩, h3⟩, h4⟩, h5⟩, h6⟩, -⟩, -⟩ := h
  refine ⟨h1, h2, h3, Nat.le_of_ble_eq_true h4, tb_g h5 rfl, fun hs => ?_, fun hs => ?_⟩ <;> rw [hs] at h6
  · exact tb_g h6 rfl
  · have h7 := Bool.and_eq_true_iff.mp h6
    exact ⟨tb_g h7.1 rfl, tb_g h7.2 rfl⟩
theorem good_ws {r : MR} (h : okC r) : GoodIn lw_g (wsm r) := by
  intro w hw
  rcases List.mem_cons.mp hw with rfl | hw
  · exact ⟨mem_g h rfl, Or.inl rfl⟩
  · exact ⟨hw, good_of_word (List.mem_filter.mp hw).2⟩
theorem blindP {E : En} {as : List AV} {μ : Mm} : FrameBlind (Pcm E as μ) := fun a _ g mk h => ⟨h.1, h.2.1.blind g mk a, h.2.2⟩
theorem cat_len {E : En} {s : State} (hB : Bg E s) : ∀ l : List AV, ((l.map (tv E)).map fun v => v.category).sum = l.length
  | [] => rfl
  | x :: l => by
    rw [List.map_cons, List.map_cons, List.sum_cons, cat_len hB l, tv_cat hB x, List.length_cons]
    omega
theorem char_eq {z : Int} (h0 : 0 ≤ z) (h1 : z < 65536) : narrow .char (.int (Int32.ofInt z)) = .int (Int32.ofInt z) := by
  have e0 : (Int32.ofInt z).toInt = z := ofI_toInt (by unfold inR; omega)
  have e1 : (Int32.ofInt z).toUInt32.toNat = z.toNat := by
    have := Int32.toInt_toBitVec (Int32.ofInt z)
    have h2 : ((Int32.ofInt z).toBitVec.toInt) = z := by rw [this]; exact e0
    have h3 := BitVec.toInt_eq_toNat_cond (Int32.ofInt z).toBitVec
    show (Int32.ofInt z).toBitVec.toNat = _
    have h4 := (Int32.ofInt z).toBitVec.isLt
    rw [h2] at h3
    split at h3 <;> omega
  have e2 : (Int32.ofInt z).toUInt32.toUInt16.toUInt32 = (Int32.ofInt z).toUInt32 := by
    apply UInt32.toNat_inj.mp
    rw [UInt16.toNat_toUInt32, UInt32.toNat_toUInt16, e1]
    omega
  have e3 : ∀ x : Int32, x.toUInt32.toInt32 = x := fun x => by simp
  show Value.int ((Int32.ofInt z).toUInt32.toUInt16.toUInt32.toInt32) = _
  rw [e2, e3]
section HR
variable {p : Program} {l : Launch} {e : Env} {R : Room} {s : State} {m : MethodId} {args : Array Value} {below : List Frame} {meth : Method} {c : Code} {H : Heap} {locs : List Loc} {Q : State → Prop}
variable {E : En} {r : MR} {pc len d j : Nat} {lsA : Array Slot} {ls ls' : Ls} {st : List AV} {μ : Mm} {Φ : Option AV → Mm → Prop}
theorem W_iret {z : Int} (C : Cx E r p s m args meth c) (hP : va_P (e_D E) clsL (wsM E μ) H) (hS : va_S (Afn E) s.heap H locs) (hdg : decode (r_b r) pc = .ok (.ireturn, 1)) (hΦ : match r_t r with
      | some .boolean => (z = 0 ∨ z = 1) ∧ Φ (some (.inl z)) μ
      | some .char => (0 ≤ z ∧ z < 65536) ∧ Φ (some (.inl z)) μ
      | some .byte => z = 0 ∧ Φ (some (.inl z)) μ
      | some .int => Φ (some (.inl z)) μ
      | _ => False) : W p l e R s m args below meth c H locs 0 0 (MQ below (Qcm E Φ) args s 0 0 (Afn E)) (F0 m pc lsA (([(.inl z : AV)]).map (tv E))) := by
  obtain ⟨hx, hb, hml, hr, hlk, hown, hts, hB⟩ := C
  have key : Φ (some (.inl z)) μ → ∀ t : State, t.heap = H → s.WarmedH t.vm → Qcm E Φ args s (.returned (some (.int (Int32.ofInt z)))) t := fun h t ht hW => ⟨⟨some (.inl z), μ, rfl, h, by rw [ht]; exact hP⟩, hS.F ht⟩
  split at hΦ
  · rename_i hrt
    refine W.zret hx hb (hr.trans hrt) ?_ (key hΦ.2) hS.2.2 hdg hlk
    rcases hΦ.1 with rfl | rfl <;> rfl
  · rename_i hrt
    refine W.zret hx hb (hr.trans hrt) ?_ (key hΦ.2) hS.2.2 hdg hlk
    exact char_eq hΦ.1.1 hΦ.1.2
  · rename_i hrt
    refine W.zret hx hb (hr.trans hrt) ?_ (key hΦ.2) hS.2.2 hdg hlk
    rw [hΦ.1]
    rfl
  · rename_i hrt
    exact W.iret hx hb (hr.trans hrt) (key hΦ) hS.2.2 hdg hlk
  · exact hΦ.elim
theorem W_aret {z : Nat} {n : String} (C : Cx E r p s m args meth c) (hP : va_P (e_D E) clsL (wsM E μ) H) (hS : va_S (Afn E) s.heap H locs) (hdg : decode (r_b r) pc = .ok (.areturn, 1)) (hrt : r_t r = some (.object n)) (hz : z < 2000) (hΦ : Φ (some (.inr z)) μ) : W p l e R s m args below meth c H locs 0 0 (MQ below (Qcm E Φ) args s 0 0 (Afn E)) (F0 m pc lsA (([(.inr z : AV)]).map (tv E))) := by
  obtain ⟨hx, hb, hml, hr, hlk, hown, hts, hB⟩ := C
  have e1 : ([(.inr z : AV)]).map (tv E) = [.ref (e_r E z)] := by rw [List.map_cons, tv_ref (by omega)]; rfl
  rw [e1]
  exact W.aret hx hb (hr.trans hrt) (Or.inl ⟨n, rfl⟩) (Or.inr ⟨_, rfl⟩) (fun t ht hW => ⟨⟨some (.inr z), μ, by rw [Option.map_some, tv_ref (by omega)], hΦ, by rw [ht]; exact hP⟩, hS.F ht⟩) hS.2.2 hdg hlk
theorem W_vret (C : Cx E r p s m args meth c) (hP : va_P (e_D E) clsL (wsM E μ) H) (hS : va_S (Afn E) s.heap H locs) (hdg : decode (r_b r) pc = .ok (.return_, 1)) (hrt : r_t r = none) (hΦ : Φ none μ) : W p l e R s m args below meth c H locs 0 0 (MQ below (Qcm E Φ) args s 0 0 (Afn E)) (F0 m pc lsA (([] : List AV).map (tv E))) := by
  obtain ⟨hx, hb, hml, hr, hlk, hown, hts, hB⟩ := C
  exact W.vret hx hb (hr.trans hrt) (fun t ht hW => ⟨⟨none, μ, rfl, hΦ, by rw [ht]; exact hP⟩, hS.F ht⟩) hS.2.2 hdg hlk
theorem W_run {c0 s0 : Nat} {rest st0 : List Value} {a : Array Value} {Φ' : Option AV → Mm → Prop} (hr : va_Run p l e R s m args below meth c H locs c0 s0 0 0 (F0 m pc lsA st0) rest (Qcm E Φ' a) (Afn E)) (hS : va_S (Afn E) s.heap H locs)
    (K : ∀ (v : Option AV) (μ' : Mm) (H1 : Heap) (locs1 : List Loc), Φ' v μ' → va_P (e_D E) clsL (wsM E μ') H1 → va_S (Afn E) s.heap H1 locs1 → W p l e R s m args below meth c H1 locs1 c0 s0 Q (F0 m (pc + 3) lsA ((v.map (tv E)).toList ++ rest))) : W p l e R s m args below meth c H locs c0 s0 Q (F0 m pc lsA st0) := by
  intro T hT X
  obtain ⟨v, st₀, t, T', L, h0, X', hL, e1, e2, ⟨⟨v', μ', hv, hΦ, hP1⟩, hz, hk⟩, st⟩ := hr T hT X
  cases hv
  rw [h0] at hz hk
  obtain ⟨t2, a1, b1⟩ := K v' μ' T'.heap (locs ++ L) hΦ (by rw [e1]; exact hP1)
    ⟨Nat.le_trans hS.1 (by rw [e1]; exact hz), fun q h1 h2 => by rw [e1, hk q (Nat.lt_of_lt_of_le h1 hS.1) h2]; exact hS.2.1 q h1 h2, fun q hq => by
      rcases List.mem_append.mp hq with h | h
      · exact hS.2.2 q h
      · exact hL q h⟩ T' rfl X'
  exact ⟨t2, st t2 a1, b1⟩
end HR
