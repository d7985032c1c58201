theorem okI_room {d : Nat} {R : Room} {r : MR} (hd : (rmd (d - 1)).frames + 1 ≤ R.frames ∧ 64 + (rmd (d - 1)).locals ≤ R.locals) (h4 : r_n r ≤ 40) : (rmd (d - 1)).frames + 1 ≤ R.frames ∧ 8 + (r_n r + 11) + (rmd (d - 1)).locals ≤ R.locals := ⟨hd.1, by have := hd.2; omega⟩
theorem rmd_room {d : Nat} (hd : 1 ≤ d) : (rmd (d - 1)).frames + 1 ≤ (rmd d).frames ∧ 64 + (rmd (d - 1)).locals ≤ (rmd d).locals := by
  unfold rmd
  refine ⟨?_, ?_⟩
  · show d - 1 + 1 ≤ d
    omega
  · show 64 + 64 * (d - 1) ≤ 64 * d
    omega
section HV
variable {R : Room} {c0 s0 : Nat} {p : Program} {e : Env} {s : State} {m : MethodId} {args : Array Value} {below : List Frame} {meth : Method} {c : Code} {H : Heap} {locs : List Loc} {Q : State → Prop}
variable {E : En} {r : MR} {pc len d j : Nat} {lsA : Array Slot} {ls ls' : Ls} {st : List AV} {μ : Mm} {Φ' : Option AV → Mm → Prop}
theorem W_callV {k b e1 o : Nat} {as : List AV} {sw : List (Int × Nat)} (hd : (rmd (d - 1)).frames + 1 ≤ R.frames ∧ 64 + (rmd (d - 1)).locals ≤ R.locals) (hcs : c0 ≤ R.cells ∧ s0 ≤ R.slots) (C : Cx E r p s m args meth c) (hP : va_P (e_D E) clsL (wsM E μ) H) (hS : va_S (Afn E) s.heap H locs) (hl : lv_has lsA (r_n r) (lvl E 0 ls))
    (hsw : (match sw with
      | [(p, _)] => tbA p.toNat (.methodLink (r_own r) k (r_y (mget j)))
      | _ => false) = true) (hb0 : 0 < b) (hb1 : (parseMethodDescriptor (r_y (mget j)).desc).map (fun d => d.parameters.length) = some (b - 1))
    (hcl : cond (Nat.beq e1 50) (decide ((r_y (mget j)).cls = "java/lang/String")) (match clsL[e1]? with
      | some (C, _, _) => decide ((r_y (mget j)).cls = C)
      | none => false) = true) (hst : r_s (mget j) = false)
    (hlen : b ≤ st.length) (h8 : st.length - b ≤ 8) (has : (st.take b).reverse = .inr o :: as) (hrc : cond (Nat.beq e1 50) (1000 ≤ o ∧ o < 1005) (cls o = e1)) (hM : Ct E (d - 1) j (.inr o :: as) μ Φ')
    (hdg : decode (r_b r) pc = .ok (.invokevirtual k, 3))
    (K : ∀ (v : Option AV) (μ' : Mm) (H1 : Heap) (locs1 : List Loc), Φ' v μ' → va_P (e_D E) clsL (wsM E μ') H1 → va_S (Afn E) s.heap H1 locs1 → W p (e_l E) e R s m args below meth c H1 locs1 c0 s0 Q (F0 m (pc + 3) lsA ((v.map (tv E)).toList ++ (st.drop b).map (tv E)))) : W p (e_l E) e R s m args below meth c H locs c0 s0 Q (F0 m pc lsA (st.map (tv E))) := by
  obtain ⟨hx, hb, hml, hr, hlk, hown, hts, hB⟩ := C
  obtain ⟨⟨oq, oc⟩, hMet⟩ := hM
  obtain ⟨m1, m2, m3, m4, m5, m6, m7⟩ := okM_out oq
  obtain ⟨m8, m9⟩ := m7 hst
  have hlink : Cond.methodLink (r_own r) k (r_y (mget j)) ∈ lw_g := by
    split at hsw
    · exact tb_g hsw rfl
    · cases hsw
  have ho : o < 3000 := by
    cases h5 : Nat.beq e1 50 <;> rw [h5] at hrc hcl
    · have h6 : e1 < 13 := by
        split at hcl
        · rename_i hc
          exact (List.getElem?_eq_some_iff.mp hc).1
        · cases hcl
      have : o < NO := cls_lt (show cls o = e1 from hrc) (by omega)
      have : NO = 158 := rfl
      omega
    · have : 1000 ≤ o ∧ o < 1005 := hrc
      omega
  have hrecv : ∃ cellB : Cell, H[e_r E o]? = some cellB ∧ cellB.vm.isStatics = false ∧ s.vm.findClass (r_own (mget j)) = some cellB.cls := by
    cases h5 : Nat.beq e1 50 <;> rw [h5] at hrc hcl
    · have hrc' : cls o = e1 := hrc
      have hcl' : (match clsL[e1]? with
        | some (C, _, _) => decide ((r_y (mget j)).cls = C)
        | none => false) = true := hcl
      split at hcl'
      · rename_i Cn T N hc
        have h6 : e1 < 13 := (List.getElem?_eq_some_iff.mp hc).1
        have hno : o < NO := cls_lt hrc' (by omega)
        have := va_recv (D := e_D E) (a := e_r E o) (q0 := o) (ci := e1) hB.1 hP hc (by rw [ws_get hno, elm_obj hrc' hc h6])
        rw [← m1, of_decide_eq_true hcl']
        exact this
      · cases hcl'
    · have hrc' : 1000 ≤ o ∧ o < 1005 := hrc
      have hcl' : (r_y (mget j)).cls = "java/lang/String" := of_decide_eq_true hcl
      have := vk_recv (adK := fun i => e_r E (1000 + i)) (i := o - 1000) hB.2.2.1 (by omega) hS
      rw [show 1000 + (o - 1000) = o by omega] at this
      rw [← m1, hcl']
      exact this
  have hgood := good_ws oc
  have cb : CallB R s args (r_own r) k (r_y (mget j)) (r_b (mget j)) (r_n (mget j)) (r_t (mget j)) (wsm (mget j)) (rmd (d - 1)) 0 0 (b - 1) :=
    callB_of (b - 1) hts hgood rfl rfl rfl (by rw [m1]; exact hts _ m5) (hts _ hlink) ⟨m3.1, m3.2, hb1⟩ (okI_room hd m4)
  have hstk : st.take b = as.reverse ++ [.inr o] := by
    have := congrArg List.reverse has
    rw [List.reverse_reverse, List.reverse_cons] at this
    exact this
  have hlas : as.length = b - 1 := by
    have := congrArg List.length hstk
    rw [List.length_take, List.length_append, List.length_reverse] at this
    simp at this
    omega
  have hst2 : st.map (tv E) = (as.map (tv E)).reverse ++ .ref (e_r E o) :: (st.drop b).map (tv E) := by
    have h9 : st = as.reverse ++ .inr o :: st.drop b := by
      have := (List.take_append_drop b st).symm
      rw [hstk] at this
      rw [List.append_assoc] at this
      exact this
    conv => lhs; rw [h9]
    rw [List.map_append, List.map_reverse, List.map_cons, tv_ref ho]
  rw [hst2]
  have hrun := va_runV (H := H) (locs := locs) (cells := c0) (slots := s0) (g := F0 m pc lsA ((as.map (tv E)).reverse ++ .ref (e_r E o) :: (st.drop b).map (tv E))) (As := as.map (tv E)) (rest := (st.drop b).map (tv E)) (b := e_r E o) (below := below) (meth := meth) (e := e) ⟨hx, hb, hml, hown, hts⟩ hMet ⟨cb, hts _ m8, hts _ m9⟩ ⟨blindP, hrecv, fun U hU hW => ⟨by rw [List.map_cons, tv_ref ho], hB.moved hW hS hU, by rw [hU]; exact hP⟩⟩ rfl (by rw [List.length_map]; exact hlas) hl.1 rfl (lv_room (by rw [cat_len hB, List.length_drop]; exact h8)) hdg ⟨hcs.1, hcs.2⟩
  exact W_run hrun hS K
theorem W_callS {k b : Nat} {sw : List (Int × Nat)} (hd : (rmd (d - 1)).frames + 1 ≤ R.frames ∧ 64 + (rmd (d - 1)).locals ≤ R.locals) (hcs : c0 ≤ R.cells ∧ s0 ≤ R.slots) (C : Cx E r p s m args meth c) (hP : va_P (e_D E) clsL (wsM E μ) H) (hS : va_S (Afn E) s.heap H locs) (hl : lv_has lsA (r_n r) (lvl E 0 ls))
    (hsw : (match sw with
      | [(p, n)] => tbA p.toNat (cond (Nat.beq n 0) (.methodLink (r_own r) k (r_y (mget j))) (.methodLinkNest (r_own r) k (r_y (mget j)) "DevilsFount"))
      | _ => false) = true) (hb1 : (parseMethodDescriptor (r_y (mget j)).desc).map (fun d => d.parameters.length) = some b) (hst : r_s (mget j) = true)
    (hlen : b ≤ st.length) (h8 : st.length - b ≤ 8) (hM : Ct E (d - 1) j (st.take b).reverse μ Φ')
    (hdg : decode (r_b r) pc = .ok (.invokestatic k, 3))
    (K : ∀ (v : Option AV) (μ' : Mm) (H1 : Heap) (locs1 : List Loc), Φ' v μ' → va_P (e_D E) clsL (wsM E μ') H1 → va_S (Afn E) s.heap H1 locs1 → W p (e_l E) e R s m args below meth c H1 locs1 c0 s0 Q (F0 m (pc + 3) lsA ((v.map (tv E)).toList ++ (st.drop b).map (tv E)))) : W p (e_l E) e R s m args below meth c H locs c0 s0 Q (F0 m pc lsA (st.map (tv E))) := by
  obtain ⟨hx, hb, hml, hr, hlk, hown, hts, hB⟩ := C
  obtain ⟨⟨oq, oc⟩, hMet⟩ := hM
  obtain ⟨m1, m2, m3, m4, m5, m6, m7⟩ := okM_out oq
  have m8 := m6 hst
  have hgood := good_ws oc
  have hst2 : st.map (tv E) = (((st.take b).reverse).map (tv E)).reverse ++ (st.drop b).map (tv E) := by
    rw [List.map_reverse, List.reverse_reverse, ← List.map_append, List.take_append_drop]
  have hlas : (((st.take b).reverse).map (tv E)).length = b := by
    rw [List.length_map, List.length_reverse, List.length_take]
    omega
  have hW8 := lv_room (m := m) (pc := pc) (ls := lsA) (rest := (((st.take b).reverse).map (tv E)).reverse ++ (st.drop b).map (tv E)) (st := (st.drop b).map (tv E)) (by rw [cat_len hB, List.length_drop]; exact h8)
  have hpre : PreS s H (Pcm E (st.take b).reverse μ) ((st.take b).reverse.map (tv E)) := ⟨blindP, fun U hU hW => ⟨rfl, hB.moved hW hS hU, by rw [hU]; exact hP⟩⟩
  rw [hst2]
  split at hsw
  · rename_i p' n
    cases hn : Nat.beq n 0 <;> rw [hn] at hsw
    · have hlink : va_Nw (.methodLinkNest (r_own r) k (r_y (mget j)) "DevilsFount") s := hB.2.2.2.2.2.2.2.1 _ _ _ (mem_tb hsw)
      have cb := va_cnB (R := R) (s := s) (args := args) (own := r_own r) (host := "DevilsFount") (index := k) (maxL := r_n (mget j)) (mc := 0) (ms := 0) (y := r_y (mget j)) (bytes := r_b (mget j)) (ret := r_t (mget j)) (ws := wsm (mget j)) (rm := rmd (d - 1)) b hts hgood rfl rfl rfl hlink (by rw [m1]; exact hts _ m5) ⟨m3.1, m3.2, hb1⟩ (okI_room hd m4)
      have hrun := va_runSN (H := H) (locs := locs) (cells := c0) (slots := s0) (g := F0 m pc lsA ((((st.take b).reverse).map (tv E)).reverse ++ (st.drop b).map (tv E))) (As := ((st.take b).reverse).map (tv E)) (rest := (st.drop b).map (tv E)) (below := below) (meth := meth) (e := e) ⟨hx, hb, hml, hown, hts⟩ hMet ⟨cb, hts _ m8, trivial⟩ hpre rfl hlas hl.1 rfl hW8 hdg ⟨hcs.1, hcs.2⟩
      exact W_run hrun hS K
    · have cb : CallB R s args (r_own r) k (r_y (mget j)) (r_b (mget j)) (r_n (mget j)) (r_t (mget j)) (wsm (mget j)) (rmd (d - 1)) 0 0 b :=
        callB_of b hts hgood rfl rfl rfl (by rw [m1]; exact hts _ m5) (hts _ (tb_g hsw rfl)) ⟨m3.1, m3.2, hb1⟩ (okI_room hd m4)
      have hrun := va_runS (H := H) (locs := locs) (cells := c0) (slots := s0) (g := F0 m pc lsA ((((st.take b).reverse).map (tv E)).reverse ++ (st.drop b).map (tv E))) (As := ((st.take b).reverse).map (tv E)) (rest := (st.drop b).map (tv E)) (below := below) (meth := meth) (e := e) ⟨hx, hb, hml, hown, hts⟩ hMet ⟨cb, hts _ m8⟩ hpre rfl hlas hl.1 rfl hW8 hdg ⟨hcs.1, hcs.2⟩
      exact W_run hrun hS K
  · cases hsw
theorem copy_words : tbA 3006 (.native arraycopyName) = true ∧ tbA 3005 (.static arraycopyName) = true ∧ tbA 1014 (.initialized "java/lang/System") = true := by decide +kernel
theorem copy_room : nativeFrameWords "java/lang/System" "arraycopy" 5 + 11 ≤ 40 := by decide +kernel
theorem W_copy {k o t : Nat} {a q n : Int} {sw : List (Int × Nat)} (hd : (rmd (d - 1)).frames + 1 ≤ R.frames ∧ 64 + (rmd (d - 1)).locals ≤ R.locals) (hcs : c0 ≤ R.cells ∧ s0 ≤ R.slots) (C : Cx E r p s m args meth c) (hP : va_P (e_D E) clsL (wsM E μ) H) (hS : va_S (Afn E) s.heap H locs) (hl : lv_has lsA (r_n r) (lvl E 0 ls))
    (hsw : (match sw with
      | [(p, _)] => tbA p.toNat (.methodLink (r_own r) k arraycopyName)
      | _ => false) = true) (hc : (cls o = 100 ∧ cls t = 100) ∧ (0 ≤ a ∧ a + n ≤ aln o) ∧ (0 ≤ q ∧ q + n ≤ aln t) ∧ 0 ≤ n) (h8 : st.length ≤ 8)
    (hdg : decode (r_b r) pc = .ok (.invokestatic k, 3))
    (K : ∀ (H1 : Heap) (locs1 : List Loc), va_P (e_D E) clsL (wsM E (mcp μ o a t q n)) H1 → va_S (Afn E) s.heap H1 locs1 → W p (e_l E) e R s m args below meth c H1 locs1 c0 s0 Q (F0 m (pc + 3) lsA (st.map (tv E)))) : W p (e_l E) e R s m args below meth c H locs c0 s0 Q (F0 m pc lsA (((.inl n : AV) :: .inl q :: .inr t :: .inl a :: .inr o :: st).map (tv E))) := by
  obtain ⟨hx, hb, hml, hr, hlk, hown, hts, hB⟩ := C
  have ho : o < NO := cls_lt hc.1.1 (by omega)
  have ht : t < NO := cls_lt hc.1.2 (by omega)
  have hNO : NO = 158 := rfl
  have hlink : Cond.methodLink (r_own r) k arraycopyName ∈ lw_g := by
    split at hsw
    · exact tb_g hsw rfl
    · cases hsw
  have l1 := aln_lt o
  have l2 := aln_lt t
  have nn : ∀ x : Int, 0 ≤ x → x < 2147483648 → ¬ Int32.ofInt x < 0 ∧ (Int32.ofInt x).toNatClampNeg = x.toNat := by
    intro x h0 h1
    have e1 : (Int32.ofInt x).toInt = x := ofI_toInt (by unfold inR; omega)
    refine ⟨?_, ?_⟩
    · rw [Int32.lt_iff_toInt_lt, e1, Int32.toInt_zero]; omega
    · show (Int32.ofInt x).toInt.toNat = _
      rw [e1]
  obtain ⟨a1, a2⟩ := nn a (by omega) (by omega)
  obtain ⟨q1, q2⟩ := nn q (by omega) (by omega)
  obtain ⟨n1, n2⟩ := nn n (by omega) (by omega)
  rw [List.map_cons, List.map_cons, List.map_cons, List.map_cons, List.map_cons, tv_ref (show t < 3000 by omega), tv_ref (show o < 3000 by omega)]
  obtain ⟨c1, c2, c3⟩ := copy_words
  refine va_copyi (D := e_D E) (R := R) (sp := Int32.ofInt a) (dp := Int32.ofInt q) (n := Int32.ofInt n) (ty := .int) hx hb (hml.trans hl.1.symm) hown (hts _ hlink) (hts _ (tb_g c1 rfl)) (hts _ (tb_g c2 rfl)) (hts _ (tb_g c3 rfl)) hB.1 hP (ws_D hB) hS o t 0 0 (by rw [ws_get ho, elm_int hc.1.1]) (by rw [ws_get ht, elm_int hc.1.2]) rfl rfl rfl a1 q1 n1 (by rw [a2, n2]; omega) (by rw [q2, n2]; omega) (fun _ _ => rfl) (by have := hd.1; omega) ?_ hdg (fun H1 locs1 g1 g2 g3 => K H1 locs1 ?_ g3)
  · rw [cat_len hB]
    have := copy_room
    have := hd.2
    omega
  · rw [ws_set (μ' := mcp μ o a t q n) ht ?_ (fun x hx => elm_neC hx (Classical.em _))] at g1
    · exact g1
    · rw [elm_int hc.1.2, a2, q2, n2]
      congr 3
      congr 1
      funext i
      unfold mcp va_cpy
      by_cases hi : q.toNat ≤ i ∧ i < q.toNat + n.toNat
      · rw [if_pos ⟨rfl, by omega, by omega⟩, if_pos hi]
        congr 2
        omega
      · rw [if_neg (fun h => hi (by omega)), if_neg hi]
theorem math_words : tbA 3065 (.static Lib.Math.max.name) = true ∧ tbA 3031 (.static Lib.Math.min.name) = true ∧ tbA 1015 (.initialized "java/lang/Math") = true ∧ tbA 3066 (.code Lib.Math.max.name Lib.Math.max.code 2 (some .int)) = true ∧ tbA 3032 (.code Lib.Math.min.name Lib.Math.min.code 2 (some .int)) = true := by decide +kernel
theorem W_mm {k e1 : Nat} {x y : Int} {sw : List (Int × Nat)} (hd : (rmd (d - 1)).frames + 1 ≤ R.frames ∧ 64 + (rmd (d - 1)).locals ≤ R.locals) (hcs : c0 ≤ R.cells ∧ s0 ≤ R.slots) (C : Cx E r p s m args meth c) (hl : lv_has lsA (r_n r) (lvl E 0 ls))
    (hsw : (match sw with
      | [(p, _)] => tbA p.toNat (.methodLink (r_own r) k (cond (Nat.beq e1 78) Lib.Math.max.name Lib.Math.min.name))
      | _ => false) = true) (h8 : st.length ≤ 8)
    (hdg : decode (r_b r) pc = .ok (.invokestatic k, 3))
    (K : W p (e_l E) e R s m args below meth c H locs c0 s0 Q (F0 m (pc + 3) lsA (((.inl (cond (Nat.beq e1 78) (iMax x y) (iMin x y)) : AV) :: st).map (tv E)))) : W p (e_l E) e R s m args below meth c H locs c0 s0 Q (F0 m pc lsA (((.inl y : AV) :: .inl x :: st).map (tv E))) := by
  obtain ⟨hx, hb, hml, hr, hlk, hown, hts, hB⟩ := C
  obtain ⟨w1, w2, w3, w4, w5⟩ := math_words
  have hlo : ((st.map (tv E)).map fun v => v.category).sum + 13 ≤ R.locals := by
    rw [cat_len hB]; have := hd.2; omega
  split at hsw
  · cases h : Nat.beq e1 78 <;> rw [h] at hsw K
    · refine va_mmin hx hb (hml.trans hl.1.symm) hown (hts _ (tb_g hsw rfl)) (hts _ (tb_g w2 rfl)) (hts _ (tb_g w3 rfl)) (hts _ (tb_g w5 rfl)) (by have := hd.1; omega) hlo hcs.1 hcs.2 hdg ?_
      have e2 : (if Int32.ofInt y < Int32.ofInt x then Int32.ofInt y else Int32.ofInt x) = Int32.ofInt (iMin x y) := by
        unfold iMin
        by_cases hh : w32 y < w32 x
        · rw [if_pos hh, if_pos (ofI_lt.mpr hh)]
        · rw [if_neg hh, if_neg (fun q => hh (ofI_lt.mp q))]
      rw [e2]; exact K
    · refine va_mmax hx hb (hml.trans hl.1.symm) hown (hts _ (tb_g hsw rfl)) (hts _ (tb_g w1 rfl)) (hts _ (tb_g w3 rfl)) (hts _ (tb_g w4 rfl)) (by have := hd.1; omega) hlo hcs.1 hcs.2 hdg ?_
      have e2 : (if Int32.ofInt x < Int32.ofInt y then Int32.ofInt y else Int32.ofInt x) = Int32.ofInt (iMax x y) := by
        unfold iMax
        by_cases hh : w32 x < w32 y
        · rw [if_pos hh, if_pos (ofI_lt.mpr hh)]
        · rw [if_neg hh, if_neg (fun q => hh (ofI_lt.mp q))]
      rw [e2]; exact K
  · cases hsw
end HV
