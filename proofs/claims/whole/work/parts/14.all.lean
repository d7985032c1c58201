theorem ofI_w32 (x : Int) : Int32.ofInt (w32 x) = Int32.ofInt x := by
  rw [ofI_inj, w32_id (w32_in x)]
theorem ofI_rem2 (x y : Int) : Int32.ofInt (iRem x y) = Int32.ofInt x - Int32.ofInt x / Int32.ofInt y * Int32.ofInt y := by
  unfold iRem
  rw [Int.tmod_def, Int32.ofInt_sub, Int32.ofInt_mul, ofI_w32, ofI_w32, ← ofI_div]
  unfold iDiv
  rw [Int32.mul_comm]
theorem okIs_at {r : MR} : ∀ {l : List It} {n i : Nat} {it : It}, okIs r n l = true → l[i]? = some it → okI r (n + i) it = true
  | [], _, _, _, _, h => by simp at h
  | x :: l, n, i, it, h, hi => by
    unfold okIs at h
    rw [Bool.and_eq_true] at h
    cases i with
    | zero =>
      have : x = it := by simpa using hi
      rw [← this]; exact h.1
    | succ i =>
      have := okIs_at h.2 (show l[i]? = some it by simpa using hi)
      rw [show n + (i + 1) = n + 1 + i by omega]
      exact this
theorem okQ_at {r : MR} (h : okQ r = true) {i : Nat} {it : It} (hi : (r_c r)[i]? = some it) : okI r i it = true := by
  unfold okQ at h
  simp only [Bool.and_eq_true] at h
  have := okIs_at h.1.2 hi
  rwa [Nat.zero_add] at this
theorem okQ_0 {r : MR} (h : okQ r = true) : pco r 0 = 0 := by
  unfold okQ at h
  simp only [Bool.and_eq_true] at h
  exact okG_eq h.2
set_option maxHeartbeats 4000000 in
theorem wpS_gen {E : En} {d : Nat} {r : MR} {R : Room} {c0 s0 : Nat} {QQ : State → Array Value → List Frame → State → Prop} {Φ : Option AV → Mm → Prop} (hd : (rmd (d - 1)).frames + 1 ≤ R.frames ∧ 64 + (rmd (d - 1)).locals ≤ R.locals) (hcs : c0 ≤ R.cells ∧ s0 ≤ R.slots) (oq : okIs r 0 (r_c r) = true) {go : Go} (hgo : ∀ i ls st μ, go i ls st μ → GW E r R c0 s0 QQ i ls st μ)
    (hret : ∀ {p : Program} {e : Env} {s : State} {m : MethodId} {args : Array Value} {below : List Frame} {meth : Method} {c : Code} {H : Heap} {locs : List Loc} {lsA : Array Slot} {pc : Nat} {μ : Mm}, Cx E r p s m args meth c → va_P (e_D E) clsL (wsM E μ) H → va_S (Afn E) s.heap H locs →
      (∀ {z : Int}, decode (r_b r) pc = .ok (.ireturn, 1) → (match r_t r with
        | some .boolean => (z = 0 ∨ z = 1) ∧ Φ (some (.inl z)) μ
        | some .char => (0 ≤ z ∧ z < 65536) ∧ Φ (some (.inl z)) μ
        | some .byte => z = 0 ∧ Φ (some (.inl z)) μ
        | some .int => Φ (some (.inl z)) μ
        | _ => False) → W p (e_l E) e R s m args below meth c H locs c0 s0 (QQ s args below) (F0 m pc lsA (([(.inl z : AV)]).map (tv E)))) ∧
      (∀ {z : Nat} {n : String}, decode (r_b r) pc = .ok (.areturn, 1) → r_t r = some (.object n) → z < 2000 → Φ (some (.inr z)) μ → W p (e_l E) e R s m args below meth c H locs c0 s0 (QQ s args below) (F0 m pc lsA (([(.inr z : AV)]).map (tv E)))) ∧
      (decode (r_b r) pc = .ok (.return_, 1) → r_t r = none → Φ none μ → W p (e_l E) e R s m args below meth c H locs c0 s0 (QQ s args below) (F0 m pc lsA (([] : List AV).map (tv E)))))
    {i : Nat} {ls : Ls} {st : List AV} {μ : Mm} (h : wpS (e_sc E) (Ct E (d - 1)) Φ (r_t r) (r_c r) go i ls st μ) : GW E r R c0 s0 QQ i ls st μ := by
  unfold wpS at h
  split at h
  · exact h.elim
  · rename_i pc ins len a b c e sw hit
    have hI := okIs_at oq hit
    rw [Nat.zero_add] at hI
    unfold okI at hI
    dsimp only at hI
    cases he : Nat.beq e 999 <;> rw [he] at h hI
    · simp only [cond_false] at h hI
      rw [Bool.and_eq_true] at hI
      obtain ⟨hdg, hI⟩ := hI
      have hdg := of_decide_eq_true hdg
      intro p en s m args below meth cd C H locs lsA hP hS hl
      rw [pco_eq hit]
      dsimp only
      obtain ⟨re1, re2, re3⟩ := hret (e := en) (below := below) (lsA := lsA) (pc := pc) C hP hS
      have nx : ∀ {n : Nat}, okG (r_c r) (i + 1) (pc + n) = true → ∀ {ls' : Ls} {st' : List AV} {μ' : Mm} {H' : Heap} {locs' : List Loc} {lsB : Array Slot}, go (i + 1) ls' st' μ' → va_P (e_D E) clsL (wsM E μ') H' → va_S (Afn E) s.heap H' locs' → lv_has lsB (r_n r) (lvl E 0 ls') →
          W p (e_l E) en R s m args below meth cd H' locs' c0 s0 (QQ s args below) (F0 m (pc + n) lsB (st'.map (tv E))) := by
        intro n h1 ls' st' μ' H' locs' lsB h2 h3 h4 h5
        rw [← okG_eq h1]
        exact hgo _ _ _ _ h2 p en s m args below meth cd C H' locs' lsB h3 h4 h5
      have tgt : ∀ {t : Nat} {ls' : Ls} {st' : List AV} {μ' : Mm}, go t ls' st' μ' → va_P (e_D E) clsL (wsM E μ') H → lv_has lsA (r_n r) (lvl E 0 ls') →
          W p (e_l E) en R s m args below meth cd H locs c0 s0 (QQ s args below) (F0 m (pco r t) lsA (st'.map (tv E))) :=
        fun h2 h3 h5 => hgo _ _ _ _ h2 p en s m args below meth cd C H locs lsA h3 hS h5
      split at h
      · -- goto
        simp only [Bool.and_eq_true] at hI
        have e3 := Nat.eq_of_beq_eq_true hI.2
        subst e3
        exact lv_goto C.1 C.2.1 hdg (okO_eq hI.1).symm (tgt h hP hl)
      · -- if_icmp
        simp only [Bool.and_eq_true] at hI
        have e3 := Nat.eq_of_beq_eq_true hI.2
        subst e3
        cases hc : Nat.beq c 0 <;> rw [hc] at h
        · exact W_icmp C hdg (okO_eq hI.1.1) (fun q => tgt (h.1 q) hP hl) (fun q => nx hI.1.2 (h.2 q) hP hS hl)
        · obtain ⟨⟨g1, g2⟩, g3, g4⟩ := h
          rw [← w32_id g1, ← w32_id g2] at g3 g4
          exact W_icmp C hdg (okO_eq hI.1.1) (fun q => tgt (g3 q) hP hl) (fun q => nx hI.1.2 (g4 q) hP hS hl)
      · -- ifCond
        simp only [Bool.and_eq_true] at hI
        have e3 := Nat.eq_of_beq_eq_true hI.2
        subst e3
        cases hc : Nat.beq c 0 <;> rw [hc] at h
        · exact W_ifc C hdg (okO_eq hI.1.1) (fun q => tgt (h.1 q) hP hl) (fun q => nx hI.1.2 (h.2 q) hP hS hl)
        · obtain ⟨g1, g3, g4⟩ := h
          refine W_ifc C hdg (okO_eq hI.1.1) (fun q => tgt (g3 ?_) hP hl) (fun q => nx hI.1.2 (g4 ?_) hP hS hl)
          · rwa [w32_id g1] at q
          · rwa [w32_id g1] at q
      · -- tableswitch
        simp only [Bool.and_eq_true, decide_eq_true_eq] at hI
        obtain ⟨⟨⟨⟨q1, q2⟩, q3⟩, -⟩, -⟩ := hI
        exact W_tsw C h.1 q1 q2 q3 hdg (f := fun t => go t ls _ μ) h.2 (fun t ht => tgt ht hP hl)
      · -- lookupswitch
        simp only [Bool.and_eq_true] at hI
        obtain ⟨⟨q1, q2⟩, q3⟩ := hI
        exact W_lsw C h.1 q1 q2 q3 hdg (f := fun t => go t ls _ μ) h.2 (fun t ht => tgt ht hP hl)
      · -- getfield
        simp only [Bool.and_eq_true] at hI
        obtain ⟨⟨q1, q2⟩, q3⟩ := hI
        have e3 := Nat.eq_of_beq_eq_true q2
        subst e3
        cases hc : Nat.beq a 50 <;> rw [hc] at h q3
        · exact W_get C hP h.1 q3 hdg (nx q1 h.2 hP hS hl)
        · exact W_gets C hS h.1 q3 hdg (nx q1 h.2 hP hS hl)
      · -- putfield
        simp only [Bool.and_eq_true] at hI
        obtain ⟨⟨⟨q1, q2⟩, q3⟩, q4⟩ := hI
        have e3 := Nat.eq_of_beq_eq_true q2
        subst e3
        have q5 : ∀ q, clsL[a]? = some q → (q.2.1 b).2.2.2 = false := by
          intro q hq
          rw [hq] at q4
          exact of_decide_eq_true q4
        split at h
        · rename_i hk; exact W_put C hP hS h.1 q3 q5 (Or.inl ⟨hk, rfl⟩) hdg (fun H1 l1 g1 g2 => nx q1 h.2 g1 g2 hl)
        · rename_i hk; exact W_put C hP hS h.1 q3 q5 (Or.inr (Or.inl ⟨hk, rfl, h.2.1⟩)) hdg (fun H1 l1 g1 g2 => nx q1 h.2.2 g1 g2 hl)
        · rename_i hk; exact W_put C hP hS h.1 q3 q5 (Or.inr (Or.inr ⟨hk, _, rfl, rfl, h.2.2.1⟩)) hdg (fun H1 l1 g1 g2 => nx q1 h.2.2.2 g1 g2 hl)
        · exact h.elim
      · -- getstatic
        simp only [Bool.and_eq_true] at hI
        obtain ⟨⟨q1, q2⟩, q3⟩ := hI
        have e3 := Nat.eq_of_beq_eq_true q2
        subst e3
        exact W_gst C hS q3 hdg (nx q1 h hP hS hl)
      · -- iaload
        simp only [Bool.and_eq_true] at hI
        obtain ⟨⟨q1, q2⟩, -⟩ := hI
        have e3 := Nat.eq_of_beq_eq_true q2
        subst e3
        cases hc : Nat.beq a 1 <;> rw [hc] at h
        · exact W_ild C hP h.1 hdg (nx q1 h.2 hP hS hl)
        · exact W_sld C hS h.1 hdg (nx q1 h.2 hP hS hl)
      · -- iastore
        simp only [Bool.and_eq_true] at hI
        obtain ⟨⟨q1, q2⟩, -⟩ := hI
        have e3 := Nat.eq_of_beq_eq_true q2
        subst e3
        exact W_ist C hP hS h.1 hdg (fun H1 l1 g1 g2 => nx q1 h.2 g1 g2 hl)
      · -- aaload
        simp only [Bool.and_eq_true] at hI
        obtain ⟨⟨q1, q2⟩, -⟩ := hI
        have e3 := Nat.eq_of_beq_eq_true q2
        subst e3
        exact W_ald C hP h.1 hdg (nx q1 h.2 hP hS hl)
      · -- baload
        simp only [Bool.and_eq_true] at hI
        obtain ⟨⟨q1, q2⟩, -⟩ := hI
        have e3 := Nat.eq_of_beq_eq_true q2
        subst e3
        exact W_bld C hS h.1 hdg (nx q1 h.2 hP hS hl)
      · -- arraylength
        simp only [Bool.and_eq_true] at hI
        obtain ⟨⟨q1, q2⟩, -⟩ := hI
        have e3 := Nat.eq_of_beq_eq_true q2
        subst e3
        cases hc : Nat.beq a 0 <;> rw [hc] at h
        · cases hc2 : Nat.beq a 2 <;> rw [hc2] at h
          · exact W_blen C hS h.1 hdg (nx q1 h.2 hP hS hl)
          · exact W_sln C hS h.1 hdg (nx q1 h.2 hP hS hl)
        · exact W_alen C hP h.1 hdg (nx q1 h.2 hP hS hl)
      · -- ldc
        simp only [Bool.and_eq_true] at hI
        obtain ⟨⟨q1, q2⟩, q3⟩ := hI
        have e3 := Nat.eq_of_beq_eq_true q2
        subst e3
        cases hc : Nat.beq e 1 <;> rw [hc] at h q3
        · exact lv_ldc C.1 C.2.1 C.2.2.2.2.2.1 (C.2.2.2.2.2.2.1 _ (tb_g q3 rfl)) hdg (nx q1 h hP hS hl)
        · rw [cond_true, Bool.and_eq_true, decide_eq_true_eq] at q3
          exact W_ldS C (Nat.le_of_ble_eq_true q3.1) q3.2 hdg (nx q1 h hP hS hl)
      · -- ldc_w
        simp only [Bool.and_eq_true] at hI
        obtain ⟨⟨q1, q2⟩, q3⟩ := hI
        have e3 := Nat.eq_of_beq_eq_true q2
        subst e3
        exact lv_ldcw C.1 C.2.1 C.2.2.2.2.2.1 (C.2.2.2.2.2.2.1 _ (tb_g q3 rfl)) hdg (nx q1 h hP hS hl)
      · -- idiv
        simp only [Bool.and_eq_true] at hI
        obtain ⟨⟨q1, q2⟩, -⟩ := hI
        have e3 := Nat.eq_of_beq_eq_true q2
        subst e3
        exact lv_idiv C.1 C.2.1 hdg (ofI_ne0 h.1) (by rw [← ofI_div]; exact nx q1 h.2 hP hS hl)
      · -- irem
        simp only [Bool.and_eq_true] at hI
        obtain ⟨⟨q1, q2⟩, -⟩ := hI
        have e3 := Nat.eq_of_beq_eq_true q2
        subst e3
        exact lv_irem C.1 C.2.1 hdg (ofI_ne0 h.1) (by rw [← ofI_rem2]; exact nx q1 h.2 hP hS hl)
      · -- ireturn
        have e3 := Nat.eq_of_beq_eq_true hI
        subst e3
        exact re1 hdg h
      · -- areturn
        simp only [Bool.and_eq_true] at hI
        obtain ⟨q1, q2⟩ := hI
        have e3 := Nat.eq_of_beq_eq_true q1
        subst e3
        split at q2
        · rename_i hrt
          exact re2 hdg hrt h.1 h.2
        · cases q2
      · -- return
        simp only [Bool.and_eq_true, decide_eq_true_eq] at hI
        have e3 := Nat.eq_of_beq_eq_true hI.1
        subst e3
        exact re3 hdg hI.2 h
      · -- invokevirtual
        cases hc : (Nat.ble b st.length && Nat.ble (st.length - b) 8) <;> rw [hc] at h
        · exact h.elim
        · rw [Bool.and_eq_true] at hc
          simp only [Bool.and_eq_true, decide_eq_true_eq] at hI
          obtain ⟨⟨⟨⟨⟨⟨q1, q2⟩, q3⟩, q4⟩, q5⟩, q6⟩, q7⟩ := hI
          have e3 := Nat.eq_of_beq_eq_true q2
          subst e3
          rw [cond_true] at h
          split at h
          · rename_i has
            have q8 : r_s (mget a) = false := by simpa using q7
            refine W_callV hd hcs C hP hS hl q3 (Nat.le_of_ble_eq_true q4) q5 q6 q8 (Nat.le_of_ble_eq_true hc.1) (Nat.le_of_ble_eq_true hc.2) has h.1 h.2 hdg ?_
            intro v μ' H1 l1 hv g1 g2
            split at hv
            · unfold rV at hv
              cases v with
              | none => exact nx q1 hv g1 g2 hl
              | some v => exact hv.elim
            · unfold rI at hv
              match v, hv with
              | some (.inl z), hv => exact nx q1 hv g1 g2 hl
            · unfold rR at hv
              match v, hv with
              | some (.inr z), hv => exact nx q1 hv g1 g2 hl
          · exact h.elim
      · -- invokestatic
        simp only [Bool.and_eq_true] at hI
        obtain ⟨⟨q1, q2⟩, q3⟩ := hI
        have e3 := Nat.eq_of_beq_eq_true q2
        subst e3
        cases hc : Nat.beq e 77 <;> rw [hc] at h q3
        · rw [cond_false] at h q3
          cases hm : (Nat.beq e 78 || Nat.beq e 79) <;> rw [hm] at h q3
          · rw [cond_false] at h q3
            cases hc2 : (Nat.ble b st.length && Nat.ble (st.length - b) 8) <;> rw [hc2] at h
            · exact h.elim
            · rw [Bool.and_eq_true] at hc2
              simp only [Bool.and_eq_true, decide_eq_true_eq] at q3
              obtain ⟨⟨q4, q5⟩, q6⟩ := q3
              rw [cond_true] at h
              refine W_callS hd hcs C hP hS hl q4 q5 q6 (Nat.le_of_ble_eq_true hc2.1) (Nat.le_of_ble_eq_true hc2.2) h hdg ?_
              intro v μ' H1 l1 hv g1 g2
              split at hv
              · unfold rV at hv
                cases v with
                | none => exact nx q1 hv g1 g2 hl
                | some v => exact hv.elim
              · unfold rI at hv
                match v, hv with
                | some (.inl z), hv => exact nx q1 hv g1 g2 hl
              · unfold rR at hv
                match v, hv with
                | some (.inr z), hv => exact nx q1 hv g1 g2 hl
          · rw [cond_true] at h q3
            split at h
            · rename_i st0
              cases hc2 : Nat.ble st0.length 8 <;> rw [hc2] at h
              · exact h.elim
              · exact W_mm hd hcs C hl q3 (Nat.le_of_ble_eq_true hc2) hdg (nx q1 h hP hS hl)
            · exact h.elim
        · rw [cond_true] at h q3
          split at h
          · rename_i st0
            cases hc2 : Nat.ble st0.length 8 <;> rw [hc2] at h
            · exact h.elim
            · exact W_copy hd hcs C hP hS hl q3 h.1 (Nat.le_of_ble_eq_true hc2) hdg (fun H1 l1 g1 g2 => nx q1 h.2 g1 g2 hl)
          · exact h.elim
      · -- the plain ones
        rename_i g1 g2 g3 g4 g5 g6 g7 g8 g9 g10 g11 g12 g13 g14 g15 g16 g17 g18 g19 g20
        split at h
        · rename_i st' hp
          have hI2 : (okG (r_c r) (i + 1) (pc + len) && Nat.beq len (lenO (r_n r) ins) && Nat.blt len 99) = true := by
            unfold pur at hp
            split at hp <;> first | exact hI | cases hp
          simp only [Bool.and_eq_true] at hI2
          exact pur_W C hdg (Nat.eq_of_beq_eq_true hI2.1.2) (Nat.le_of_ble_eq_true hI2.2) hp (nx hI2.1.1 h hP hS hl)
        · split at h
          · rename_i hp
            have hI2 : (okG (r_c r) (i + 1) (pc + len) && Nat.beq len (lenO (r_n r) ins) && Nat.blt len 99) = true := by
              unfold loc at hp
              split at hp <;> first | exact hI | cases hp
            simp only [Bool.and_eq_true] at hI2
            exact loc_W C hdg (Nat.eq_of_beq_eq_true hI2.1.2) (Nat.le_of_ble_eq_true hI2.2) hl hp (fun lsB h9 => nx hI2.1.1 h hP hS h9)
          · exact h.elim
    · exact h.elim
theorem wpS_sound {E : En} {d j : Nat} {Φ : Option AV → Mm → Prop} (hd : 1 ≤ d) (oq : okQ (mget j) = true) {go : Go} (hgo : ∀ i ls st μ, go i ls st μ → G E d j Φ i ls st μ) {i : Nat} {ls : Ls} {st : List AV} {μ : Mm} (h : wpS (e_sc E) (Ct E (d - 1)) Φ (r_t (mget j)) (r_c (mget j)) go i ls st μ) : G E d j Φ i ls st μ := by
  have o2 : okIs (mget j) 0 (r_c (mget j)) = true := by
    unfold okQ at oq
    simp only [Bool.and_eq_true] at oq
    exact oq.1.2
  exact wpS_gen (rmd_room hd) ⟨Nat.zero_le _, Nat.zero_le _⟩ o2 hgo (fun C hP hS => ⟨fun hdg h => W_iret C hP hS hdg h, fun hdg h1 h2 h3 => W_aret C hP hS hdg h1 h2 h3, fun hdg h1 h2 => W_vret C hP hS hdg h1 h2⟩) h
theorem wp_sound {E : En} {d j : Nat} {Φ : Option AV → Mm → Prop} (hd : 1 ≤ d) (oq : okQ (mget j) = true) {cuts : List (Nat × List Nat)} : ∀ (n i : Nat) (ls : Ls) (st : List AV) (μ : Mm), wp (e_sc E) (Ct E (d - 1)) Φ (r_t (mget j)) (r_c (mget j)) cuts (G E d j Φ) n i ls st μ → G E d j Φ i ls st μ := by
  intro n
  induction n with
  | zero => intro i ls st μ h; exact h.elim
  | succ n ih =>
    intro i ls st μ h
    refine wpS_sound hd oq (fun i ls st μ hg => ?_) h
    split at hg
    · intro p en s m args below meth cd C H locs lsA hP hS hl
      exact hg p en s m args below meth cd C H locs lsA hP hS (lvl_mask _ hl)
    · exact ih i ls st μ hg
/-- a method from its entry -/
theorem ct_of {E : En} {d j : Nat} {as : List AV} {μ : Mm} {Φ : Option AV → Mm → Prop} (ok : okQ (mget j) = true ∧ okC (mget j)) (hn : as.length ≤ r_n (mget j)) (h : G E d j Φ 0 (as.map some) [] μ) : Ct E d j as μ Φ := by
  refine ⟨ok, ?_⟩
  obtain ⟨m1, m2, m3, m4, m5, m6, m7⟩ := okM_out ok.1
  refine Met.ofW (cc := r_b (mget j)) (maxL := r_n (mget j)) (ret := r_t (mget j)) (by rw [m1]; exact m2) rfl ?_
  intro p e s m args below meth c s₁ B hml hv
  obtain ⟨rfl, hB, hP⟩ := hv
  have hts := atoms_spec (ws := wsm (mget j)) B.pre
  have hown : s.vm.findClass (r_own (mget j)) = some m.cls := by rw [← m1]; exact findClass_of_methodNamed B.named
  have hsl : (lg_sl (as.map (tv E))).length ≤ r_n (mget j) := by
    have : ∀ l : List AV, (lg_sl (l.map (tv E))).length = l.length := by
      intro l
      induction l with
      | nil => rfl
      | cons x l ih =>
        unfold lg_sl at ih ⊢
        rw [List.map_cons, List.flatMap_cons, List.length_append, ih, if_neg (by rw [tv_cat hB]; decide), List.length_cons]
        simp; omega
    rw [this]; exact hn
  have hl := lv_entry (as.map (tv E)) (n := r_n (mget j)) hsl
  rw [lg_entry_eq]
  have e1 : ∀ (l : List AV) (n : Nat), lv_args n (l.map (tv E)) = lvl E n (l.map some) := by
    intro l
    induction l with
    | nil => intro n; rfl
    | cons x l ih =>
      intro n
      rw [List.map_cons, List.map_cons, lv_args, lvl, if_neg (by rw [tv_cat hB]; decide), ih]
  rw [e1] at hl
  have hz := okQ_0 ok.1
  have := h p e s m _ below meth c ⟨B.exec, B.bytes, hml, B.returns, B.notSynchronized, hown, fun w hw => hts w (List.mem_cons_of_mem _ hw), hB⟩ s.heap [] _ hP va_S.rf hl
  rw [hz] at this
  exact this
