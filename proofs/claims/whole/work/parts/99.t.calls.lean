/-! constructors call constructors -/
def rmk (d : Nat) (w w' : CW) : Room := { frames := d, cells := w'.length - w.length, slots := csl w' - csl w, locals := 64 * d }
def Bk (E : En) (w : CW) (U : State) : Prop := Bg E U ∧ va_AO "DevilsFount$Standing" U ∧ U.heap.size = e_r E 0 + w.length ∧ va_P (e_D E) clsL (cws E w) U.heap
def Ak (E : En) (w : CW) (_ : Unit) (t : State) : Prop := va_P (e_D E) clsL (cws E w) t.heap
def CM (E : En) (d j o : Nat) (w w' : CW) : Prop := okKM (kget j) = true ∧ okC (kget j) ∧ Met (e_l E) (r_y (kget j)) (wsm (kget j)) (rmk d w w') (va_Pc [.ref (e_r E o)] (Bk E w)) (va_Qv (fun _ : Unit => True) (Ak E w') (AN E)) (w'.length - w.length) (csl w' - csl w) (AN E)
theorem okKM_out {r : MR} (h : okKM r = true) : (r_y r).cls = r_own r ∧ plainName (r_own r) = true ∧ ((r_y r).cls ≠ "java/lang/invoke/MethodHandle" ∧ (r_y r).cls ≠ "java/lang/invoke/VarHandle") ∧ (r_n r ≤ 40 ∧ 0 < r_n r) ∧ Cond.initialized (r_own r) ∈ lw_g ∧ Cond.instanceMethod (r_y r) ∈ lw_g ∧ (r_y r).name = "<init>" ∧ (parseMethodDescriptor (r_y r).desc).map (fun d => d.parameters.length) = some 0 ∧ r_t r = none ∧ ∃ pc x, (r_c r)[clen r]? = some (pc, .return_, x) := by
  unfold okKM at h
  simp only [Bool.and_eq_true, decide_eq_true_eq] at h
  obtain ⟨⟨⟨⟨⟨⟨⟨⟨⟨⟨h1, h2⟩, h3⟩, h4⟩, h4'⟩, h5⟩, h6⟩, h7⟩, h8⟩, h9⟩, h10⟩ := h
  refine ⟨h1, h2, h3, ⟨Nat.le_of_ble_eq_true h4, blt_l h4'⟩, tb_g h5 rfl, tb_g h6 rfl, h7, h8, h9, ?_⟩
  split at h10
  · rename_i pc x hx
    exact ⟨pc, x, hx⟩
  · cases h10
theorem AN_S {E : En} {s : State} {H : Heap} {locs : List Loc} {b0 : Nat} (hE : EA E) (hs : s.heap.size = e_r E 0 + b0) (hb : b0 ≤ NO) (h : va_S (AN E) s.heap H locs) : va_S (Afn E) s.heap H [] := by
  refine ⟨h.1, fun q h1 h2 => h.2.1 q h1 (fun h3 => h2 ?_), fun _ h => by cases h⟩
  have h3 : e_r E 0 ≤ q := h3
  exact ⟨q - e_r E 0, by omega, by rw [hE _ (by omega)]; omega⟩
theorem Bk_blind {E : En} {w : CW} {v : List Value} : FrameBlind (va_Pc v (Bk E w)) := fun a U g mk h => ⟨h.1, h.2.1.blind g mk a, va_AO.moved (u := U) (U := U.calling g mk a) (Vm.Alike.refl U.vm) h.2.2.1, h.2.2.2.1, h.2.2.2.2⟩
section S83
variable {p : Program} {e : Env} {R : Room} {s : State} {m : MethodId} {args : Array Value} {below : List Frame} {meth : Method} {c : Code} {H : Heap} {locs : List Loc} {cells slots : Nat} {Q : State → Prop}
variable {E : En} {r : MR} {pc : Nat} {lsA : Array Slot} {st : List AV} {w w' : CW} {ls : Ls}
theorem C_inv {k j o b e1 d b0 : Nat} (C : Cx E r p s m args meth c) (hO : va_AO "DevilsFount$Standing" s) (hE : EA E) (hP : va_P (e_D E) clsL (cws E w) H) (hS : va_S (AN E) s.heap H locs) (hl : lv_has lsA (r_n r) (lvl E 0 ls)) (hs : s.heap.size = e_r E 0 + b0) (hcl : b0 + cells = w.length) (hw : w.length ≤ NO) (ho2 : o < NO) (hM : CM E d j o w w') (hf : d + 1 ≤ R.frames) (hlo : 64 + 64 * d ≤ R.locals) (hc : cells + (w'.length - w.length) ≤ R.cells) (hsl : slots + (csl w' - csl w) ≤ R.slots) (h8 : st.length ≤ 8)
    (hsw : cond (Nat.beq e1 2) (tbA b (.methodLink (r_own r) k (r_y (kget j)))) (tbA b (.methodLinkNest (r_own r) k (r_y (kget j)) "DevilsFount")) = true) (hdg : decode (r_b r) pc = .ok (.invokespecial k, 3))
    (K : ∀ H1 locs1, va_P (e_D E) clsL (cws E w') H1 → va_S (AN E) s.heap H1 locs1 → W p (e_l E) e R s m args below meth c H1 locs1 (cells + (w'.length - w.length)) (slots + (csl w' - csl w)) Q (F0 m (pc + 3) lsA (st.map (tv E)))) : W p (e_l E) e R s m args below meth c H locs cells slots Q (F0 m pc lsA (((.inr o : AV) :: st).map (tv E))) := by
  refine W_hs fun hz => ?_
  obtain ⟨hx, hb, hml, hr, hlk, hown, hts, hB⟩ := C
  have hNO : NO = 158 := rfl
  obtain ⟨okm, okc, hMet⟩ := hM
  obtain ⟨m1, m2, m3, m4, m5, m6, m7, m8, m9, -⟩ := okKM_out okm
  have hsz : H.size = e_r E 0 + w.length := by
    rcases Nat.eq_zero_or_pos w.length with g | g
    · have := hS.1; omega
    · obtain ⟨c1, hc1⟩ : ∃ c1, w[w.length - 1]? = some c1 := ⟨_, List.getElem?_eq_getElem (by omega)⟩
      have h1 := (hP _ _ (cws_get hc1)).lt
      have e2 := hE (w.length - 1) (by omega)
      have h1 : e_r E (w.length - 1) < H.size := h1
      omega
  have hw2 : wsm (kget j) = Cond.code (r_y (kget j)) (r_b (kget j)) (r_n (kget j)) none :: lw_g := by unfold wsm; rw [m9]
  have hgood := good_ws okc
  have room : (rmk d w w').frames + 1 ≤ R.frames ∧ 8 + (r_n (kget j) + 11) + (rmk d w w').locals ≤ R.locals := ⟨hf, by show 8 + (r_n (kget j) + 11) + 64 * d ≤ _; omega⟩
  have hpre : PreS s H (va_Pc [.ref (e_r E o)] (Bk E w)) [.ref (e_r E o)] := ⟨Bk_blind, fun U hU hW => ⟨rfl, hB.moved hW (AN_S hE hs (by omega) hS) hU, hO.moved hW.alike, by rw [hU]; exact hsz, by rw [hU]; exact hP⟩⟩
  have hst : ((.inr o : AV) :: st).map (tv E) = ([] : List Value).reverse ++ .ref (e_r E o) :: st.map (tv E) := by
    rw [List.map_cons, tv_ref (by omega)]
    rfl
  rw [hst]
  have fin := fun (hrun : va_Run p (e_l E) e R s m args below meth c H locs cells slots (w'.length - w.length) (csl w' - csl w) (F0 m pc lsA (([] : List Value).reverse ++ .ref (e_r E o) :: st.map (tv E))) (st.map (tv E)) (va_Qv (fun _ : Unit => True) (Ak E w') (AN E) (Value.ref (e_r E o) :: []).toArray) (AN E)) => va_callv (Q := Q) hrun hS (fun q _ h => h) (fun q h => h) (fun u t H1 locs1 ht hvm _ hB1 hz1 hk hS1 => K H1 locs1 (by rw [← ht]; exact hB1) hS1)
  cases h2 : Nat.beq e1 2 <;> rw [h2] at hsw
  · have hlink : va_Nw (.methodLinkNest (r_own r) k (r_y (kget j)) "DevilsFount") s := hB.2.2.2.2.2.2.2.1 _ _ _ (mem_tb hsw)
    have cb := va_cnB (R := R) (s := s) (args := args) (own := r_own r) (host := "DevilsFount") (index := k) (maxL := r_n (kget j)) (mc := w'.length - w.length) (ms := csl w' - csl w) (y := r_y (kget j)) (bytes := r_b (kget j)) (ret := none) (ws := wsm (kget j)) (rm := rmk d w w') 0 hts hgood hw2 rfl rfl hlink (by rw [m1]; exact hts _ m5) ⟨m3.1, m3.2, m8⟩ room
    exact fin (va_runIN (As := []) (rest := st.map (tv E)) ⟨hx, hb, hml, hown, hts⟩ hMet ⟨cb, m7, hts _ m6⟩ hpre rfl rfl hl.1 rfl (lv_room (by rw [cat_len hB]; exact h8)) hdg ⟨hc, hsl⟩)
  · have cb := cwI (R := R) (s := s) (args := args) (own := r_own r) (index := k) (maxL := r_n (kget j)) (mc := w'.length - w.length) (ms := csl w' - csl w) (y := r_y (kget j)) (bytes := r_b (kget j)) (ws := wsm (kget j)) (rm := rmk d w w') 0 hts hgood hw2 rfl rfl (by rw [m1]; exact hts _ m5) (hts _ (tb_g hsw rfl)) (hts _ m6) m7 ⟨m3.1, m3.2, m8⟩ room
    exact fin (va_runI (As := []) (rest := st.map (tv E)) ⟨hx, hb, hml, hown, hts⟩ hMet cb hpre rfl rfl hl.1 rfl (lv_room (by rw [cat_len hB]; exact h8)) hdg ⟨hc, hsl⟩)
/-- what is known of calls -/
def CK (E : En) (d : Nat) (call : Nat → Nat → CW → Option CW) : Prop := ∀ j o w w', call j o w = some w' → o < NO → w.length ≤ NO → (w.length ≤ w'.length ∧ csl w ≤ csl w' ∧ w'.length ≤ NO) ∧ CM E d j o w w'
theorem cgo_W {call : Nat → Nat → CW → Option CW} {d stop : Nat} (hE : EA E) (hK : CK E d call) (ok : ∀ i it, (r_c r)[i]? = some it → i ≠ stop → okKI r i it = true) : ∀ (n i : Nat) (ls : Ls) (st : List AV) (w : CW) {ls' : Ls} {st' : List AV} {w' : CW}, cgo call (r_c r) stop n i ls st w = some (ls', st', w') → w.length ≤ NO → (w.length ≤ w'.length ∧ csl w ≤ csl w' ∧ w'.length ≤ NO) ∧ ∀ {R : Room} {b0 t0 : Nat} {QQ : State → Array Value → List Frame → State → Prop}, d + 1 ≤ R.frames → 64 + 64 * d ≤ R.locals → w'.length ≤ b0 + R.cells → csl w' ≤ t0 + R.slots → CG E r R b0 t0 QQ stop ls' st' w' → CG E r R b0 t0 QQ i ls st w := by
  intro n
  induction n with
  | zero => intro i ls st w ls' st' w' h; cases h
  | succ n ih =>
    intro i ls st w ls' st' w' h hw
    unfold cgo at h
    cases hi : Nat.beq i stop with
    | true =>
      rw [hi, cond_true] at h
      cases h
      have hi := Nat.eq_of_beq_eq_true hi
      subst hi
      exact ⟨⟨Nat.le_refl _, Nat.le_refl _, hw⟩, fun _ _ _ _ K => K⟩
    | false =>
      rw [hi, cond_false] at h
      have hne : i ≠ stop := fun q => by subst q; rw [Nat.beq_refl] at hi; cases hi
      split at h
      · cases h
      · rename_i pc ins len a b c1 e1 sw hit
        have hok := ok i _ hit hne
        split at h
        · rename_i k o st1
          cases hc : (Nat.blt o NO && Nat.blt st1.length 9) with
          | false => rw [hc] at h; cases h
          | true =>
            rw [hc, cond_true] at h
            rw [Bool.and_eq_true] at hc
            obtain ⟨o1, l1⟩ := hc
            replace o1 := blt_l o1
            replace l1 := blt_l l1
            unfold okKI at hok
            rw [Bool.and_eq_true] at hok
            obtain ⟨hdg, hok⟩ := hok
            replace hdg : decode (r_b r) pc = .ok (.invokespecial k, len) := of_decide_eq_true hdg
            replace hok : (okG (r_c r) (i + 1) (pc + 3) && Nat.beq len 3 && cond (Nat.beq e1 1) (tbA b (.methodLink (r_own r) k Lib.objectInit) && tbA c1 (.instanceMethod Lib.objectInit) && tbA (sw.getD 0 (0, 0)).1.toNat (.code Lib.objectInit ⟨#[0xb1]⟩ 1 none)) (cond (Nat.beq e1 2) (tbA b (.methodLink (r_own r) k (r_y (kget a)))) (tbA b (.methodLinkNest (r_own r) k (r_y (kget a)) "DevilsFount")))) = true := hok
            rw [Bool.and_eq_true, Bool.and_eq_true] at hok
            have e3 := Nat.eq_of_beq_eq_true hok.1.2
            subst e3
            obtain ⟨⟨q1, -⟩, q3⟩ := hok
            cases he : Nat.beq e1 1 with
            | true =>
              rw [he, cond_true] at h q3
              rw [Bool.and_eq_true, Bool.and_eq_true] at q3
              obtain ⟨mn, kk⟩ := ih (i + 1) ls st1 w h hw
              refine ⟨mn, fun hf hlo hc hsl K => ?_⟩
              intro p e s m args below meth c C hnm hO hs H locs lsA cells slots hcc hss hP hS hl
              rw [pco_eq hit]
              have C0 := C
              obtain ⟨hx, hb, hml, hr, hlk, hown, hts, hB⟩ := C0
              rw [List.map_cons, tv_ref (show o < 3000 by have : NO = 158 := rfl; omega)]
              refine W.objInit hx hb hown (hts _ (tb_g q3.1.1 rfl)) (hts _ (tb_g q3.1.2 rfl)) (hts _ (tb_g q3.2 rfl)) rfl (by rw [hml]; exact hl.1) rfl hdg (by omega) (by show 2 * 0 + _ + 12 ≤ _; rw [cat_len hB]; omega) ?_
              have := kk hf hlo hc hsl K p e s m args below meth c C hnm hO hs H locs lsA cells slots hcc hss hP hS hl
              rw [okG_eq q1] at this
              exact this
            | false =>
              rw [he, cond_false] at h q3
              split at h
              · rename_i w1 hcall
                obtain ⟨⟨n1, n2, n3⟩, hM⟩ := hK a o w w1 hcall o1 hw
                obtain ⟨⟨m1, m2, m3⟩, kk⟩ := ih (i + 1) ls st1 w1 h n3
                refine ⟨⟨by omega, by omega, m3⟩, fun hf hlo hc hsl K => ?_⟩
                intro p e s m args below meth c C hnm hO hs H locs lsA cells slots hcc hss hP hS hl
                rw [pco_eq hit]
                refine C_inv C hO hE hP hS hl hs hcc hw o1 hM hf hlo (by omega) (by omega) (by omega) q3 hdg (fun H1 locs1 g1 g2 => ?_)
                have := kk hf hlo hc hsl K p e s m args below meth c C hnm hO hs H1 locs1 lsA (cells + (w1.length - w.length)) (slots + (csl w1 - csl w)) (by omega) (by omega) g1 g2 hl
                rw [okG_eq q1] at this
                exact this
              · cases h
        · split at h
          · rename_i i1 ls1 st1 w1 hcs
            obtain ⟨⟨n1, n2, n3⟩, kk⟩ := cs1_W hE hit hok hcs hw
            obtain ⟨⟨m1, m2, m3⟩, kk2⟩ := ih i1 ls1 st1 w1 h n3
            exact ⟨⟨by omega, by omega, m3⟩, fun hf hlo hc hsl K => kk (by omega) (by omega) (kk2 hf hlo hc hsl K)⟩
          · cases h
theorem ccall_W (hE : EA E) (hk : ∀ j, (okKM (kget j) = true ∧ okKs (kget j) 0 (r_c (kget j)) = true) ∧ okC (kget j) ∧ pco (kget j) 0 = 0) : ∀ d, CK E d (ccall d) := by
  intro d
  induction d with
  | zero => intro j o w w' h; cases h
  | succ d ih =>
    intro j o w w' h ho hw
    obtain ⟨⟨okm, oks⟩, okc, okg⟩ := hk j
    have okm' := okm
    obtain ⟨m1, m2, m3, m4, m5, m6, m7, m8, m9, pcr, xr, hret⟩ := okKM_out okm'
    have hNO : NO = 158 := rfl
    unfold ccall at h
    split at h
    · rename_i ls1 w1 hgo
      cases h
      obtain ⟨mn, kk⟩ := cgo_W (stop := clen (kget j)) hE ih (fun i it hi _ => by have := okKs_at oks hi; rwa [Nat.zero_add] at this) _ _ _ _ _ hgo hw
      refine ⟨mn, okm, okc, ?_⟩
      refine Met.ofW (cc := r_b (kget j)) (maxL := r_n (kget j)) (ret := r_t (kget j)) (by rw [m1]; exact m2) rfl ?_
      intro p e s m args below meth c s₁ B hml hv
      obtain ⟨rfl, hB, hO, hz, hP⟩ := hv
      have hts := atoms_spec (ws := wsm (kget j)) B.pre
      have hown : s.vm.findClass (r_own (kget j)) = some m.cls := by rw [← m1]; exact findClass_of_methodNamed B.named
      have hin : meth.name = (r_y (kget j)).name := (name_of_methodNamed B.named B.method).1
      have etv : tv E (.inr o) = .ref (e_r E o) := tv_ref (by omega)
      have hl := lv_entry [.ref (e_r E o)] (n := r_n (kget j)) (by show 1 ≤ _; omega)
      rw [lg_entry_eq]
      have hl2 : lv_has ((lg_sl [.ref (e_r E o)] ++ List.replicate (r_n (kget j) - (lg_sl [.ref (e_r E o)]).length) Slot.unset).toArray) (r_n (kget j)) (lvl E 0 (some (.inr o) :: List.replicate (r_n (kget j) - 1) none)) := by
        refine lv_mono hl fun q hq => ?_
        obtain ⟨k, v, h1, rfl⟩ := (lvl_mem _ 0 _).mp hq
        cases k with
        | zero =>
          have h1 : some (.inr o) = some v := Option.some.inj h1
          cases h1
          rw [etv]
          exact List.mem_singleton.mpr rfl
        | succ k =>
          have h1 : (List.replicate (r_n (kget j) - 1) (none : Option AV))[k]? = some (some v) := h1
          rw [List.getElem?_replicate] at h1
          split at h1 <;> cases h1
      have := kk (R := rmk (d + 1) w w') (b0 := w.length) (t0 := csl w) (QQ := fun s args below => MQ below (va_Qv (fun _ : Unit => True) (Ak E w') (AN E)) args s (w'.length - w.length) (csl w' - csl w) (AN E)) (by show d + 1 ≤ d + 1; omega) (by show 64 + 64 * d ≤ 64 * (d + 1); omega) (by show w'.length ≤ w.length + (w'.length - w.length); omega) (by show csl w' ≤ csl w + (csl w' - csl w); omega) ?_ p e s m _ below meth c ⟨B.exec, B.bytes, hml, B.returns, B.notSynchronized, hown, fun w hw => hts w (List.mem_cons_of_mem _ hw), hB⟩ (fun q => by rw [hin]; exact q) hO hz s.heap [] _ 0 0 rfl rfl hP va_S.rf hl2
      · rw [okg] at this
        exact this
      · intro p e s m args below meth c C hnm hO hs H locs lsA cells slots hcc hss hP hS hl
        obtain ⟨hx, hb, hml, hr, hlk, hown, hts, hB⟩ := C
        rw [pco_eq hret]
        have hd := okKs_at oks hret
        obtain ⟨len, xr⟩ := xr
        unfold okKI at hd
        rw [Bool.and_eq_true] at hd
        obtain ⟨hdg, hd⟩ := hd
        replace hdg : decode (r_b (kget j)) pcr = .ok (.return_, len) := of_decide_eq_true hdg
        have hd : Nat.beq len 1 = true := hd
        have e3 := Nat.eq_of_beq_eq_true hd
        subst e3
        obtain rfl : cells = w'.length - w.length := by omega
        obtain rfl : slots = csl w' - csl w := by omega
        exact W.vret hx hb (hr.trans m9) (fun t ht hW => ⟨⟨(), rfl, trivial, by show va_P _ _ _ t.heap; rw [ht]; exact hP⟩, hS.F ht⟩) hS.2.2 hdg hlk
    · cases h
end S83
