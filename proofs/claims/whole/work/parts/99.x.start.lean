/-! how the law begins -/
def insP : List Nat := [1158, 1092, 2132, 1186, 1031, 2019, 2152, 2025, 1192, 1198, 1133, 1023, 6017]
theorem ins_all : ((List.range 13).all fun k => match clsL[k]? with
  | some (C, _, N) => tbA (insP.getD k 0) (.instantiable C N)
  | none => false) = true := by decide +kernel
def strP : List Nat := [3142, 3221, 4120, 4121, 4150]
def tmS (i : Nat) : Term := Term.string (sKL.getD i ("", 0, "")).1 (sKL.getD i ("", 0, "")).2.1
theorem str_all : ((List.range 5).all fun i => tbA (strP.getD i 0) (.stringRef (sKL.getD i ("", 0, "")).1 (sKL.getD i ("", 0, "")).2.1 (sKL.getD i ("", 0, "")).2.2)) = true := by decide +kernel
def flG : List Cond := flatC (Jvm.Cond.and given_1 narrow_1)
theorem fl_ex : ∀ i, i < 5 → Cond.exactly (tmS i) "java/lang/String" ∈ flG := by decide +kernel
theorem fl_co : ∀ i, i < 5 → Cond.eq (.field (tmS i) "java/lang/String" "coder" "B") (.int 0) ∈ flG := by decide +kernel
theorem fl_ar : ∀ i, i < 5 → Cond.arrayOf (.field (tmS i) "java/lang/String" "value" "[B") .byte ∈ flG := by decide +kernel
theorem fl_le : ∀ i, i < 5 → Cond.eq (.length (.field (tmS i) "java/lang/String" "value" "[B")) (.int (Int32.ofNat (leL.getD i 0))) ∈ flG := by decide +kernel
theorem fl_el : ∀ i, i < 5 → ∀ j, j < leL.getD i 0 → Cond.eq (.elem (.field (tmS i) "java/lang/String" "value" "[B") (.int (Int32.ofNat j))) (.int ((byL.getD i []).getD j 0)) ∈ flG := by decide +kernel
theorem fl_ne : ∀ i, i < 5 → ∀ j, j < 5 → i ≠ j → Cond.not (Cond.eq (tmS i) (tmS j)) ∈ flG ∨ Cond.not (Cond.eq (tmS j) (tmS i)) ∈ flG := by decide +kernel
theorem fl_cs : Cond.eq (.static "java/lang/String" "COMPACT_STRINGS" "Z") (.int 1) ∈ flG := by decide +kernel
theorem fl_sf : Cond.isRef (.static "jdk/internal/util/Preconditions" "SIOOBE_FORMATTER" "Ljava/util/function/BiFunction;") ∈ flG := by decide +kernel
theorem lays_t : tbA 3178 (.laysStatic "java/lang/String" "COMPACT_STRINGS" "Z") = true ∧ tbA 1017 (.initialized "java/lang/String") = true ∧ tbA 3194 (.laysStatic "jdk/internal/util/Preconditions" "SIOOBE_FORMATTER" "Ljava/util/function/BiFunction;") = true ∧ tbA 1019 (.initialized "jdk/internal/util/Preconditions") = true ∧ tbA 1090 (.arrayClass .int) = true ∧ tbA 2138 (.arrayOver (.object "DevilsFount$Standing")) = true := by decide +kernel
section S85
variable {p : Program} {e : Env} {s : State} {m : MethodId} {below : List Frame} {meth : Method} {c : Code}
theorem Bg_start (l : Launch) {b L : Nat} {xs : Nat → Int32} (hL : L ≤ 3072) (C0 : lw_At p s m meth c b L xs) : ∃ E : En, e_l E = l ∧ EA E ∧ s.heap.size = e_r E 0 ∧ e_r E 2000 = b ∧ e_L E = L ∧ Bg E s ∧ va_AO "DevilsFount$Standing" s := by
  obtain ⟨hx, hb, hr, hml, hown, hts, hX, hbl, hlocks, hgv⟩ := id C0
  have hs := flat_of_before _ hgv
  obtain ⟨w1, w2, w3, w4, w5, w6⟩ := lays_t
  -- the classes
  have h0 : ∀ k : Nat, ∃ q : ClassId × (Nat → Nat), ∀ C, clsL[k]? = some C → u_Kn s C.1 C.2.1 C.2.2 q.1 q.2 := by
    intro k
    cases hk : clsL[k]? with
    | none => exact ⟨(0, fun _ => 0), fun C h => by cases h⟩
    | some C =>
      obtain ⟨Cn, T, N⟩ := C
      have ha : k < 13 := (List.getElem?_eq_some_iff.mp hk).1
      have h1 := List.all_eq_true.mp ins_all k (List.mem_range.mpr ha)
      rw [hk] at h1
      obtain ⟨hin, -⟩ := cls_fields hk
      obtain ⟨cC, iS, hKn⟩ := u_known (C := Cn) (T := T) (N := N) (n := N) (ws := lw_g) (fun w hw => hts w (List.mem_filter.mp hw).1) hin (hts _ (mem_tb h1))
      exact ⟨(cC, iS), fun C h => by cases h; exact hKn⟩
  obtain ⟨f, hf⟩ := Classical.axiomOfChoice h0
  -- the arrays
  obtain ⟨I, kI, cI, i1, i2, i3⟩ := Cond.arrayClass_spec (args := #[Value.ref b]) (first := s) (o := none) (s := s) (idx := []) (hts _ (mem_tb w5))
  obtain ⟨cS, S, kS, j1, -, j2, j3, j4⟩ := Cond.arrayOver_spec (args := #[Value.ref b]) (first := s) (o := none) (s := s) (idx := []) (hts _ (mem_tb w6))
  -- the texts
  have hA : ∀ a : Nat, a < s.heap.size → ¬ (fun q : Nat => s.heap.size ≤ q) a := fun a h1 h2 => by omega
  obtain ⟨adK, adV, hS, hev⟩ := vk_Sof (args := #[Value.ref b]) (s := s) (N := 5) (tm := tmS) (len := leL) (byt := byL) (A := fun q : Nat => s.heap.size ≤ q) (by decide +kernel) (fun i hi => hs _ (fl_ex i hi)) (fun i hi => hs _ (fl_co i hi)) (fun i hi => hs _ (fl_ar i hi)) (fun i hi => hs _ (fl_le i hi)) (fun i hi j hj => hs _ (fl_el i hi j hj)) (fun i j hi hj hij => (fl_ne i hi j hj hij).imp (hs _) (hs _)) hA
  have z1 := va_Zof (args := #[Value.ref b]) (s := s) (A := fun q : Nat => s.heap.size ≤ q) (hts _ (mem_tb w1)) (hts _ (mem_tb w2)) (va_eqt (hs _ fl_cs)) hA
  obtain ⟨v, hv, z2⟩ : ∃ v : Value, (v = .null ∨ ∃ a, v = .ref a) ∧ va_Z "jdk/internal/util/Preconditions" "SIOOBE_FORMATTER" "Ljava/util/function/BiFunction;" v (fun q : Nat => s.heap.size ≤ q) s s.heap := by
    rcases va_Zqof (args := #[Value.ref b]) (s := s) (A := fun q : Nat => s.heap.size ≤ q) (hts _ (mem_tb w3)) (hts _ (mem_tb w4)) (hs _ fl_sf) hA with h | ⟨t, h⟩
    · exact ⟨_, Or.inl rfl, h⟩
    · exact ⟨_, Or.inr ⟨t, rfl⟩, h⟩
  let r : Nat → Nat := fun k => if k < 1000 then s.heap.size + k else if k < 1100 then adK (k - 1000) else if k < 2000 then adV (k - 1100) else b
  let E : En := (l, (fun k => (f k).1, fun k => (f k).2), I, S, r, v, L, xs)
  have er : ∀ k, k < 1000 → e_r E k = s.heap.size + k := fun k hk => if_pos hk
  have hE : EA E := fun k hk => by rw [er k (by have : NO = 158 := rfl; omega), er 0 (by omega)]; omega
  have h2000 : e_r E 2000 = b := rfl
  have eK : ∀ i, i < 5 → e_r E (1000 + i) = adK i := fun i hi => by
    show (if 1000 + i < 1000 then _ else if 1000 + i < 1100 then adK (1000 + i - 1000) else _) = _
    rw [if_neg (by omega), if_pos (by omega), show 1000 + i - 1000 = i by omega]
  have eV : ∀ i, i < 5 → e_r E (1100 + i) = adV i := fun i hi => by
    show (if 1100 + i < 1000 then _ else if 1100 + i < 1100 then _ else if 1100 + i < 2000 then adV (1100 + i - 1100) else _) = _
    rw [if_neg (by omega), if_neg (by omega), if_pos (by omega), show 1100 + i - 1100 = i by omega]
  have hAB : ∀ q, Afn E q → (fun q : Nat => s.heap.size ≤ q) q := fun q h => by
    have := Afn_ge hE h
    rw [er 0 (by omega)] at this
    show s.heap.size ≤ q
    omega
  refine ⟨E, rfl, hE, (by rw [er 0 (by omega)]; omega), h2000, rfl, ⟨⟨fun c q hq => hf c q hq, fun k q hk => ?_⟩, ⟨fun i j p q hi hj hpq => ?_, fun k q hk => ?_⟩, ⟨fun i hi => ?_, fun i j hi hj hij => ?_⟩, fun i q hq => ?_, z1.narrow hAB, z2.narrow hAB, hv, fun o k y hy => va_Nw.of rfl (hts _ hy), by rw [h2000]; exact hX, by rw [h2000]; exact hbl, fun h => ?_, hL⟩, va_AO.of (hts _ (mem_tb w6))⟩
  · match k, hk with
    | 0, hk =>
      cases hk
      exact ⟨fun n z => ⟨fun k h => (by cases h), kI, i2, cI, i3⟩, i1⟩
    | 1, hk =>
      cases hk
      exact ⟨fun n z => ⟨fun k h => (by cases h), kS, j2, cS, j3⟩, kS, cS, j2, j3, j1, j4⟩
    | k + 2, hk => cases hk
  · obtain ⟨a1, rfl⟩ := ws_inv hi
    obtain ⟨b1, rfl⟩ := ws_inv hj
    have e1 := hE i a1
    have e2 := hE j b1
    have hpq : e_r E i = e_r E j := hpq
    omega
  · obtain ⟨a1, rfl⟩ := ws_inv hk
    exact ⟨k, a1, rfl⟩
  · have h := hS.1 i hi
    show va_O "java/lang/String" (e_r E (1000 + i)) _ _ _ ∧ va_OF "java/lang/String" "coder" "B" (.int 0) (e_r E (1000 + i)) _ _ _ ∧ va_OF "java/lang/String" "value" "[B" (.ref (e_r E (1100 + i))) (e_r E (1000 + i)) _ _ _ ∧ va_T .byte (e_r E (1100 + i)) _ _ _ _ _
    rw [eK i hi, eV i hi]
    exact ((hS.narrow hAB).1 i hi)
  · have hij : e_r E (1000 + i) = e_r E (1000 + j) := hij
    rw [eK i hi, eK j hj] at hij
    exact hS.2 i j hi hj hij
  · have hi : i < 5 := (List.getElem?_eq_some_iff.mp hq).1
    have h1 := List.all_eq_true.mp str_all i (List.mem_range.mpr hi)
    have hg : sKL.getD i ("", 0, "") = q := by rw [List.getD_eq_getElem?_getD, hq]; rfl
    have h2 := hev i hi
    unfold tmS at h2
    rw [hg] at h1 h2
    show vk_R q.1 q.2.1 q.2.2 (e_r E (1000 + i)) s
    rw [eK i hi]
    exact vk_R.of (hts _ (mem_tb h1)) h2
  · rw [h2000] at h
    have := hAB b h
    have : s.heap.size ≤ b := this
    omega
theorem kL_ok : ∀ i it, (r_c kL)[i]? = some it → i ≠ 8 → okKI kL i it = true := by
  intro i it hi hne
  have hl : (r_c kL).length = 9 := by decide +kernel
  have h9 : i < 9 := by have := (List.getElem?_eq_some_iff.mp hi).1; omega
  have := okKs_at okk_L (show ((r_c kL).take 8)[i]? = some it by rw [List.getElem?_take, if_pos (by omega)]; exact hi)
  rwa [Nat.zero_add] at this
/-- behind the constructors -/
theorem gL_8 {E : En} (hE : EA E) (hL : e_L E ≤ 3072) : GL E 8 [some (.inr 2000), some (.inr 0), some (.inr 123), none] [] μ0 :=
  wpL hE (cuts := [(10, [0, 1, 2, 3])]) 100 8 _ [] μ0 (law_loop hE hL ((e_L E : Nat) + 1) 0 μ0 (by omega) (Int.le_refl _) (by omega) Inv_0)
theorem whole_start {p : Program} {e : Env} {s : State} {m : MethodId} {below : List Frame} {meth : Method} {c : Code} (l : Launch) (hflags : l.flags = flags0) {b L : Nat} {xs : Nat → Int32} (hL : L ≤ 3072) (C0 : lw_At p s m meth c b L xs) : W p l e room_1 s m #[Value.ref b] below meth c s.heap [] 0 0 (lw_Z below #[Value.ref b] s) (entryFrame m ([Value.ref b] : List Value).toArray 4) := by
  obtain ⟨E, rfl, hE, h0, rfl, rfl, hB, hO⟩ := Bg_start l hL C0
  obtain ⟨hx, hb, hr, hml, hown, hts, hX, hbl, hlocks, hgv⟩ := id C0
  obtain ⟨w, hgo, w1, w2, w3⟩ := wE_ex
  have hNO : NO = 158 := rfl
  obtain ⟨-, kk⟩ := cgo_W (E := E) (r := kL) (stop := 8) hE (ccall_W hE okk_all 8) kL_ok _ _ _ _ _ hgo (by show 0 ≤ NO; omega)
  have C : Cx E kL p s m #[Value.ref (e_r E 2000)] meth c := ⟨hx, hb, hml, hr, hlocks, hown, fun w hw => hts w (List.mem_filter.mp hw).1, hB⟩
  have hl := lv_entry [.ref (e_r E 2000)] (n := 4) (by show 1 ≤ 4; omega)
  rw [lg_entry_eq]
  have hl2 : lv_has ((lg_sl [.ref (e_r E 2000)] ++ List.replicate (4 - (lg_sl [.ref (e_r E 2000)]).length) Slot.unset).toArray) 4 (lvl E 0 [some (.inr 2000), none, none, none]) := hl
  have key := kk (R := room_1) (b0 := 0) (t0 := 0) (QQ := QL E) (by decide) (by decide) (by rw [w1]; decide) (by show csl w ≤ 0 + 7302250; omega) (fun p e s m args below meth c C hnm hO hs H locs lsA cells slots hc hsl hP hS hlv => ?_) p e s m _ below meth c C (fun h => absurd h (by decide)) hO (by omega) s.heap [] _ 0 0 rfl rfl (fun k q h => by simp [cws, cwsF] at h) va_S.rf hl2
  · intro T hT X
    obtain ⟨t, a1, b1⟩ := key T hT X
    exact ⟨t, a1, b1 ⟨h0, rfl⟩⟩
  · refine W.widen (k := 600000) (n := 7302250) (by omega) (by omega) ?_
    refine va_forget (fun q hq => by have h1 : e_r E 0 ≤ q.base := hS.2.2 q hq; omega) ?_
    exact gL_8 hE hL p e s m args below meth c C H [] lsA (wE_P w1 w3 hP) (AN_S hE hs (by omega) hS) hlv
end S85
