/-! what makes objects, by the machine -/
section S81
variable {p : Program} {l : Launch} {e : Env} {R : Room} {s : State} {m : MethodId} {args : Array Value} {below : List Frame} {meth : Method} {c : Code} {H : Heap} {locs : List Loc} {cells slots : Nat} {Q : State → Prop}
variable {E : En} {r : MR} {pc : Nat} {lsA : Array Slot} {st : List AV} {w : CW} {g : JFrame}
theorem W_hs (h : H.size ≤ s.heap.size + cells → W p l e R s m args below meth c H locs cells slots Q g) : W p l e R s m args below meth c H locs cells slots Q g :=
  fun T hT X => h (by rw [← hT]; exact X.heapSize) T hT X
theorem AN_le {b0 : Nat} (hs : s.heap.size = e_r E 0 + b0) : ∀ q : Nat, s.heap.size ≤ q → AN E q := fun q h => by
  show e_r E 0 ≤ q
  omega
theorem C_new {k a b c1 e1 b0 : Nat} (C : Cx E r p s m args meth c) (hE : EA E) (hP : va_P (e_D E) clsL (cws E w) H) (hS : va_S (AN E) s.heap H locs) (hw : w.length < NO) (hok : (match clsL[a]? with
    | some (C, _, N) => tbA b (.classLink (r_own r) k C) && tbA c1 (.instantiable C N) && tbA e1 (.initialized C)
    | none => false) = true) (hs : s.heap.size = e_r E 0 + b0) (hcl : b0 + cells = w.length) (hc : cells + 1 ≤ R.cells) (hsl : slots + nfs a ≤ R.slots) (hdg : decode (r_b r) pc = .ok (.new k, 3))
    (K : ∀ H1, va_P (e_D E) clsL (cws E (w ++ [bornO a])) H1 → va_S (AN E) s.heap H1 locs → W p l e R s m args below meth c H1 locs (cells + 1) (slots + nfs a) Q (F0 m (pc + 3) lsA (((.inr w.length : AV) :: st).map (tv E)))) : W p l e R s m args below meth c H locs cells slots Q (F0 m pc lsA (st.map (tv E))) := by
  obtain ⟨hx, hbc, hml, hr, hlk, hown, hts, hB⟩ := C
  cases hca : clsL[a]? with
  | none => rw [hca] at hok; cases hok
  | some q =>
    obtain ⟨Cn, T, N⟩ := q
    rw [hca] at hok
    replace hok : (tbA b (.classLink (r_own r) k Cn) && tbA c1 (.instantiable Cn N) && tbA e1 (.initialized Cn)) = true := hok
    rw [Bool.and_eq_true, Bool.and_eq_true] at hok
    obtain ⟨⟨o1, o2⟩, o3⟩ := hok
    have hN : nfs a = N := by unfold nfs; rw [hca]
    rw [hN] at hsl K
    obtain ⟨hin, ty0, hty, hnm⟩ := cls_fields hca
    have hel : celm E (bornO a) = .inr (a, ((List.range N).map (dfl a)).map (cv E)) := by unfold bornO; rw [hN]; rfl
    refine va_new (D := e_D E) (ci := a) (fs := ((List.range N).map (dfl a)).map (cv E)) (C := Cn) (T := T) (N := N) hx hbc hts hin ty0 hty hown (hts _ (tb_g o1 rfl)) (hts _ (tb_g o2 rfl)) (hts _ (tb_g o3 rfl)) hB.1 hP (cws_D hE (by omega)) hS (AN_le hs) hca (fun j hj => ?_) hc hsl hdg (fun q H1 g1 g2 g3 => W_hs fun hz => ?_)
    · obtain ⟨t, t1, t2, -⟩ := fld_kind hca hj
      rw [hty j hj] at t1
      cases t1
      rw [t2]
      unfold vp_V
      rw [List.getD_eq_getElem?_getD, List.getElem?_map, List.getElem?_map, List.getElem?_range hj]
      show _ = cv E (dfl a j)
      unfold dfl
      cases Nat.blt (fk a j) 2
      · rfl
      · rfl
    · have lc : (cws E w).length = w.length := cwsF_len w 0
      have hql : (cws E w ++ [(q, (.inr (a, ((List.range N).map (dfl a)).map (cv E)) : va_E))])[w.length]? = some (q, .inr (a, ((List.range N).map (dfl a)).map (cv E))) := by
        rw [List.getElem?_append_right (by omega), lc, Nat.sub_self]; rfl
      have hq := (g1 _ _ hql).lt
      have e0 := q_is hE hw g2 hq (by omega)
      subst e0
      rw [← hel, ← cws_app] at g1
      have := K H1 g1 g3
      rw [List.map_cons, tv_ref (by have : NO = 158 := rfl; omega)] at this
      exact this
theorem C_newa {t : ArrayType} {a b0 : Nat} {z : Int} (C : Cx E r p s m args meth c) (hE : EA E) (hP : va_P (e_D E) clsL (cws E w) H) (hS : va_S (AN E) s.heap H locs) (hw : w.length < NO) (ht : newarray.typeOf t = .int) (ha : tbA a (.arrayClass .int) = true) (z0 : 0 ≤ z) (z1 : z ≤ 100000) (hs : s.heap.size = e_r E 0 + b0) (hcl : b0 + cells = w.length) (hc : cells + 1 ≤ R.cells) (hsl : slots + z.toNat ≤ R.slots) (hdg : decode (r_b r) pc = .ok (.newarray t, 2))
    (K : ∀ H1, va_P (e_D E) clsL (cws E (w ++ [.inl (z.toNat, [])])) H1 → va_S (AN E) s.heap H1 locs → W p l e R s m args below meth c H1 locs (cells + 1) (slots + z.toNat) Q (F0 m (pc + 2) lsA (((.inr w.length : AV) :: st).map (tv E)))) : W p l e R s m args below meth c H locs cells slots Q (F0 m pc lsA (((.inl z : AV) :: st).map (tv E))) := by
  obtain ⟨hx, hbc, hml, hr, hlk, hown, hts, hB⟩ := C
  have ez : (Int32.ofInt z).toInt = z := ofI_toInt (inR_of (by omega) (by omega))
  have nz : ¬ Int32.ofInt z < 0 := by rw [Int32.lt_iff_toInt_lt, ez, Int32.toInt_zero]; omega
  have cz : (Int32.ofInt z).toNatClampNeg = z.toNat := by
    show (Int32.ofInt z).toInt.toNat = _
    rw [ez]
  refine va_newa (D := e_D E) (n := Int32.ofInt z) (N' := z.toNat) (a0 := (z.toNat, .inl (fun i => Int32.ofInt (lkI [] i)))) hx hbc (by rw [ht]; exact hts _ (tb_g ha rfl)) ht hB.1 hP (cws_D hE (by omega)) hS (AN_le hs) (fun cA => rfl) nz cz (by show z.toNat * 4 ≤ 536870912; omega) hc hsl hdg (fun q cA H1 g0 g1 g2 g3 => W_hs fun hz => ?_)
  have hcA : cA = e_I E := by
    have h1 := (g0.2 (tyL E).length (cA, .int) (by rw [List.getElem?_append_right (Nat.le_refl _), Nat.sub_self]; rfl)).2
    have h2 := (hB.1.2 0 (e_I E, .int) rfl).2
    exact Option.some.inj (Eq.trans (Eq.symm h1) h2)
  subst hcA
  have lc : (cws E w).length = w.length := cwsF_len w 0
  have hql : (cws E w ++ [(q, (.inl (e_I E, (z.toNat, .inl (fun i => Int32.ofInt (lkI [] i)))) : va_E))])[w.length]? = some (q, .inl (e_I E, (z.toNat, .inl (fun i => Int32.ofInt (lkI [] i))))) := by
    rw [List.getElem?_append_right (by omega), lc, Nat.sub_self]; rfl
  have hq := (g1 _ _ hql).lt
  have e0 := q_is hE hw g2 hq (by omega)
  subst e0
  have g1 : va_P (e_D E) clsL (cws E w ++ [(e_r E w.length, celm E (.inl (z.toNat, [])))]) H1 := g1
  rw [← cws_app] at g1
  have := K H1 g1 g3
  rw [List.map_cons, tv_ref (by have : NO = 158 := rfl; omega)] at this
  exact this
theorem C_newq {k a b0 : Nat} {z : Int} (C : Cx E r p s m args meth c) (hO : va_AO "DevilsFount$Standing" s) (hE : EA E) (hP : va_P (e_D E) clsL (cws E w) H) (hS : va_S (AN E) s.heap H locs) (hw : w.length < NO) (ha : tbA a (.classLink (r_own r) k "DevilsFount$Standing") = true) (z0 : 0 ≤ z) (z1 : z ≤ 100000) (hs : s.heap.size = e_r E 0 + b0) (hcl : b0 + cells = w.length) (hc : cells + 1 ≤ R.cells) (hsl : slots + z.toNat ≤ R.slots) (hdg : decode (r_b r) pc = .ok (.anewarray k, 3))
    (K : ∀ H1, va_P (e_D E) clsL (cws E (w ++ [.inr (.inl (z.toNat, []))])) H1 → va_S (AN E) s.heap H1 locs → W p l e R s m args below meth c H1 locs (cells + 1) (slots + z.toNat) Q (F0 m (pc + 3) lsA (((.inr w.length : AV) :: st).map (tv E)))) : W p l e R s m args below meth c H locs cells slots Q (F0 m pc lsA (((.inl z : AV) :: st).map (tv E))) := by
  obtain ⟨hx, hbc, hml, hr, hlk, hown, hts, hB⟩ := C
  have ez : (Int32.ofInt z).toInt = z := ofI_toInt (inR_of (by omega) (by omega))
  have nz : ¬ Int32.ofInt z < 0 := by rw [Int32.lt_iff_toInt_lt, ez, Int32.toInt_zero]; omega
  have cz : (Int32.ofInt z).toNatClampNeg = z.toNat := by
    show (Int32.ofInt z).toInt.toNat = _
    rw [ez]
  refine va_newq (D := e_D E) (n := Int32.ofInt z) (N' := z.toNat) (C := "DevilsFount$Standing") hx hbc hown (hts _ (tb_g ha rfl)) hO hB.1 hP (cws_D hE (by omega)) hS (AN_le hs) nz cz (by omega) hc hsl hdg (fun q cA H1 g0 g1 g2 g3 => W_hs fun hz => ?_)
  have hcA : cA = e_S E := by
    obtain ⟨kA, cp, -, -, -, h1⟩ := (g0.2 (tyL E).length (cA, .object "DevilsFount$Standing") (by rw [List.getElem?_append_right (Nat.le_refl _), Nat.sub_self]; rfl)).2
    obtain ⟨kA', cp', -, -, -, h2⟩ := (hB.1.2 1 (e_S E, .object "DevilsFount$Standing") rfl).2
    exact Option.some.inj (h1.symm.trans h2)
  subst hcA
  have lc : (cws E w).length = w.length := cwsF_len w 0
  have hql : (cws E w ++ [(q, (.inl (e_S E, (z.toNat, .inr (.inr (.inr (.inr (fun _ => none)))))) : va_E))])[w.length]? = some (q, .inl (e_S E, (z.toNat, .inr (.inr (.inr (.inr (fun _ => none))))))) := by
    rw [List.getElem?_append_right (by omega), lc, Nat.sub_self]; rfl
  have hq := (g1 _ _ hql).lt
  have e0 := q_is hE hw g2 hq (by omega)
  subst e0
  have g1 : va_P (e_D E) clsL (cws E w ++ [(e_r E w.length, celm E (.inr (.inl (z.toNat, []))))]) H1 := g1
  rw [← cws_app] at g1
  have := K H1 g1 g3
  rw [List.map_cons, tv_ref (by have : NO = 158 := rfl; omega)] at this
  exact this
theorem C_ist {o n : Nat} {x v : Int} {l1 : List (Nat × Int)} (C : Cx E r p s m args meth c) (hE : EA E) (hP : va_P (e_D E) clsL (cws E w) H) (hS : va_S (AN E) s.heap H locs) (hw : w.length ≤ NO) (ho : w[o]? = some (.inl (n, l1))) (x0 : 0 ≤ x) (x1 : x < n) (hn : n < 2147483648) (ho2 : o < NO) (hdg : decode (r_b r) pc = .ok (.iastore, 1))
    (K : ∀ H1 locs1, va_P (e_D E) clsL (cws E (w.set o (.inl (n, (x.toNat, v) :: l1)))) H1 → va_S (AN E) s.heap H1 locs1 → W p l e R s m args below meth c H1 locs1 cells slots Q (F0 m (pc + 1) lsA (st.map (tv E)))) : W p l e R s m args below meth c H locs cells slots Q (F0 m pc lsA (((.inl v : AV) :: .inl x :: .inr o :: st).map (tv E))) := by
  obtain ⟨hx, hbc, hml, hr, hlk, hown, hts, hB⟩ := C
  rw [List.map_cons, List.map_cons, List.map_cons, tv_ref (show o < 3000 by have : NO = 158 := rfl; omega)]
  obtain ⟨g1, g2⟩ := ofI_in x0 x1 hn
  refine va_iast (D := e_D E) (i := Int32.ofInt x) (x := Int32.ofInt v) hx hbc hB.1 hP (cws_D hE hw) hS o 0 (cws_get ho) rfl g1 hdg (fun H1 locs1 h1 h2 h3 => K H1 locs1 ?_ h3)
  rw [g2] at h1
  rw [← cws_set]
  have e1 : celm E (.inl (n, (x.toNat, v) :: l1)) = .inl (e_I E, n, .inl (upd (fun i => Int32.ofInt (lkI l1 i)) x.toNat (Int32.ofInt v))) := by
    have e2 : (fun i => Int32.ofInt (lkI ((x.toNat, v) :: l1) i)) = upd (fun i => Int32.ofInt (lkI l1 i)) x.toNat (Int32.ofInt v) := by
      funext i
      show Int32.ofInt (if i = x.toNat then v else lkI l1 i) = if i = x.toNat then Int32.ofInt v else Int32.ofInt (lkI l1 i)
      split <;> rfl
    rw [← e2]
    rfl
  rw [e1]
  exact h1
theorem C_ast {o n v : Nat} {x : Int} {l1 : List (Nat × Nat)} {fs : List (Option AV)} (C : Cx E r p s m args meth c) (hE : EA E) (hP : va_P (e_D E) clsL (cws E w) H) (hS : va_S (AN E) s.heap H locs) (hw : w.length ≤ NO) (ho : w[o]? = some (.inr (.inl (n, l1)))) (hv : w[v]? = some (.inr (.inr (9, fs)))) (x0 : 0 ≤ x) (x1 : x < n) (hn : n < 2147483648) (ho2 : o < NO) (hv2 : v < NO) (hdg : decode (r_b r) pc = .ok (.aastore, 1))
    (K : ∀ H1 locs1, va_P (e_D E) clsL (cws E (w.set o (.inr (.inl (n, (x.toNat, v) :: l1))))) H1 → va_S (AN E) s.heap H1 locs1 → W p l e R s m args below meth c H1 locs1 cells slots Q (F0 m (pc + 1) lsA (st.map (tv E)))) : W p l e R s m args below meth c H locs cells slots Q (F0 m pc lsA (((.inr v : AV) :: .inl x :: .inr o :: st).map (tv E))) := by
  obtain ⟨hx, hbc, hml, hr, hlk, hown, hts, hB⟩ := C
  have hNO : NO = 158 := rfl
  rw [List.map_cons, List.map_cons, List.map_cons, tv_ref (show o < 3000 by omega), tv_ref (show v < 3000 by omega)]
  obtain ⟨g1, g2⟩ := ofI_in x0 x1 hn
  refine va_astq (D := e_D E) (i := Int32.ofInt x) (r := ("DevilsFount$Standing", TX9, 10)) hx hbc hB.1 hP (cws_D hE hw) hS o 1 v 9 (cws_get ho) rfl (cws_get hv) rfl g1 hdg (fun H1 locs1 h1 h2 h3 => K H1 locs1 ?_ h3)
  rw [g2] at h1
  rw [← cws_set]
  have e1 : celm E (.inr (.inl (n, (x.toNat, v) :: l1))) = .inl (e_S E, n, .inr (.inr (.inr (.inr (va_up (fun i => (lkN l1 i).map (e_r E)) x.toNat (some (e_r E v))))))) := by
    have e2 : (fun i => (lkN ((x.toNat, v) :: l1) i).map (e_r E)) = va_up (fun i => (lkN l1 i).map (e_r E)) x.toNat (some (e_r E v)) := by
      funext i
      show (if i = x.toNat then some v else lkN l1 i).map (e_r E) = if i = x.toNat then some (e_r E v) else (lkN l1 i).map (e_r E)
      split <;> rfl
    rw [← e2]
    rfl
  rw [e1]
  exact h1
theorem C_put {k o a b c0 : Nat} {v : AV} {fs : List (Option AV)} (C : Cx E r p s m args meth c) (hnm0 : (r_y r).name = "<init>" → meth.name = "<init>") (hE : EA E) (hP : va_P (e_D E) clsL (cws E w) H) (hS : va_S (AN E) s.heap H locs) (hw : w.length ≤ NO) (ho : w[o]? = some (.inr (.inr (a, fs)))) (hb : b < fs.length) (hfit : fitB a b v = true) (ho2 : o < NO) (hf : fldO (r_own r) k a b c0 = true) (hfin : (match clsL[a]? with
    | some (_, T, _) => !(T b).2.2.2 || (decide ((T b).1 = r_own r) && decide ((r_y r).name = "<init>"))
    | none => false) = true) (hdg : decode (r_b r) pc = .ok (.putfield k, 3))
    (K : ∀ H1 locs1, va_P (e_D E) clsL (cws E (w.set o (.inr (.inr (a, fs.set b (some v)))))) H1 → va_S (AN E) s.heap H1 locs1 → W p l e R s m args below meth c H1 locs1 cells slots Q (F0 m (pc + 3) lsA (st.map (tv E)))) : W p l e R s m args below meth c H locs cells slots Q (F0 m pc lsA ((v :: .inr o :: st).map (tv E))) := by
  obtain ⟨hx, hbc, hml, hr, hlk, hown, hts, hB⟩ := C
  have hNO : NO = 158 := rfl
  obtain ⟨Cn, T, N, h1, h2, h3, h4, h5⟩ := fldO_out hf
  obtain ⟨hin, ty0, hty, hnm⟩ := cls_fields h1
  rw [h1] at hfin
  replace hfin : (!(T b).2.2.2 || (decide ((T b).1 = r_own r) && decide ((r_y r).name = "<init>"))) = true := hfin
  rw [List.map_cons, List.map_cons, tv_ref (show o < 3000 by omega)]
  obtain ⟨ty, t1, t2, t3⟩ := fit_of (E := E) h1 h2 hfit
  have e1 : celm E (.inr (.inr (a, fs.set b (some v)))) = .inr (a, (fs.map (cv E)).set b (tv E v)) := by
    show (.inr (a, (fs.set b (some v)).map (cv E)) : va_E) = _
    rw [List.map_set]
    rfl
  have fin : ∀ (H1 : Heap) (locs1 : List Loc), va_P (e_D E) clsL ((cws E w).set o (e_r E o, .inr (a, (fs.map (cv E)).set b (tv E v)))) H1 → va_D (AN E) ((cws E w).set o (e_r E o, .inr (a, (fs.map (cv E)).set b (tv E v)))) → va_S (AN E) s.heap H1 locs1 → W p l e R s m args below meth c H1 locs1 cells slots Q (F0 m (pc + 3) lsA (st.map (tv E))) := fun H1 locs1 g1 _ g3 => K H1 locs1 (by rw [← cws_set, e1]; exact g1) g3
  cases hF : (T b).2.2.2 with
  | false => exact va_put (D := e_D E) (ci := a) (ref := Cn) (C := Cn) (T := T) (N := N) hx hbc hts hin ty0 hty hnm hown hB.1 hP (cws_D hE hw) hS o (cws_get ho) h1 b h2 (hts _ h3) (fun x hx => by rw [h4] at hx; exact hx) hF t1 t2 t3 (by rw [List.length_map]; exact hb) hdg fin
  | true =>
    rw [hF] at hfin
    replace hfin : (decide ((T b).1 = r_own r) && decide ((r_y r).name = "<init>")) = true := hfin
    rw [Bool.and_eq_true, decide_eq_true_iff, decide_eq_true_iff] at hfin
    exact va_putF (D := e_D E) (ci := a) (ref := Cn) (C := Cn) (T := T) (N := N) hx hbc hts hin ty0 hty hnm hown hB.1 hP (cws_D hE hw) hS o (cws_get ho) h1 b h2 (hts _ h3) (fun x hx => by rw [h4] at hx; exact hx) hF (hnm0 hfin.2) hfin.1 t1 t2 t3 (by rw [List.length_map]; exact hb) hdg fin
theorem C_get {k o a b c0 : Nat} {v : AV} {fs : List (Option AV)} (C : Cx E r p s m args meth c) (hP : va_P (e_D E) clsL (cws E w) H) (ho : w[o]? = some (.inr (.inr (a, fs)))) (hb : fs[b]? = some (some v)) (ho2 : o < NO) (hf : fldO (r_own r) k a b c0 = true) (hdg : decode (r_b r) pc = .ok (.getfield k, 3))
    (K : W p l e R s m args below meth c H locs cells slots Q (F0 m (pc + 3) lsA ((v :: st).map (tv E)))) : W p l e R s m args below meth c H locs cells slots Q (F0 m pc lsA (((.inr o : AV) :: st).map (tv E))) := by
  obtain ⟨hx, hbc, hml, hr, hlk, hown, hts, hB⟩ := C
  have hNO : NO = 158 := rfl
  obtain ⟨Cn, T, N, h1, h2, h3, h4, h5⟩ := fldO_out hf
  obtain ⟨hin, -⟩ := cls_fields h1
  rw [List.map_cons, tv_ref (show o < 3000 by omega)]
  refine va_get (D := e_D E) (ci := a) (ref := Cn) (C := Cn) (T := T) (N := N) hx hbc hts hin hown hB.1 hP o (cws_get ho) h1 b h2 (hts _ h3) (fun x hx => by rw [h4] at hx; exact hx) (v := tv E v) ?_ hdg K
  rw [List.getElem?_map, hb]
  rfl
end S81
