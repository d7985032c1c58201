/-! the law: its end, what holds at its entry -/
def R_law : String := "DevilsFountLaw"
def lw_P (b : Addr) (xs : List Int32) (args : Array Value) (s : State) : Prop := args = #[.ref b] ∧ s.IntsAt b xs ∧ xs.length ≤ 3072 ∧ (Jvm.Cond.and given_1 narrow_1).before args s = true
def lw_Q (_ : Array Value) (s : State) (o : Outcome) (t : State) : Prop := o = .returned (some (.int 1)) ∧ Framed s o t [] 600000 7302250
def lw_Z (below : List Frame) (a : Array Value) (s : State) : State → Prop := fun t => ∃ o, t.status = .running ∧ Ended t below o ∧ lw_Q a s o t
/-- the law's own end, with 1 on the stack, nothing written that was there before, its room as the claim has it -/
theorem lw_ret {p : Program} {l : Launch} {e : Env} {s : State} {m : MethodId} {below : List Frame} {meth : Method} {c : Code} {b : Nat} (hx : p.tables.exec = Jvm.exec) (hb : c.code = code) (hr : meth.sig.returnType = ret) (hlocks : meth.locks = false) {pc : Nat} {H : Heap} {ls : Array Slot} (hdg : decode code pc = .ok (.ireturn, 1)) : W p l e room_1 s m #[Value.ref b] below meth c H [] 600000 7302250 (lw_Z below #[Value.ref b] s) (F0 m pc ls [.int 1]) := by
  intro T hT X
  obtain ⟨fs, hret, hrun, hended, hW, hframe⟩ := X.leave (v := some (.int 1)) (hlocks := hlocks) (fun h => by rw [hr] at h; cases h)
  have hmeth' : T.vm.method? m = some meth := X.method'
  refine ⟨T.setFrames fs, ?_, .returned (some (.int 1)), hrun, hended, rfl, ⟨_, rfl⟩, hW, hframe⟩
  jvm_step X.here [X.here.top, hx, hb, hdg, hmeth', hr, ret, narrow_b1]
  (try refine ⟨rfl, ?_⟩); (try refine ⟨rfl, ?_⟩)
  first | (intro acts; rw [hret _ acts rfl rfl rfl]) | rw [hret _ _ rfl rfl rfl]
  exact Steps.refl _
/-- what holds at the law's entry: the machine, the code, the tables' words (any of lw_tbl by 'hts w (by decide +kernel)'), the script of L ints xs at the cell b, what the Statement gives of the start (any of its parts by flat_of_before) -/
def lw_At (p : Program) (s : State) (m : MethodId) (meth : Method) (c : Code) (b L : Nat) (xs : Nat → Int32) : Prop :=
  p.tables.exec = Jvm.exec ∧ c.code = code ∧ meth.sig.returnType = ret ∧ c.maxLocals = 4 ∧ s.vm.findClass R_law = some m.cls ∧ (∀ w ∈ lw_tbl, w.before #[Value.ref b] s = true) ∧ va_X b L xs s s.heap ∧ b < s.heap.size ∧ meth.locks = false ∧ (Jvm.Cond.and given_1 narrow_1).before #[Value.ref b] s = true
/-! the law's loop -/
def QL (E : En) : State → Array Value → List Frame → State → Prop := fun s args below t => (s.heap.size = e_r E 0 ∧ args = #[.ref (e_r E 2000)]) → lw_Z below args s t
abbrev GL (E : En) : Go := GW E r298 room_1 600000 7302250 (QL E)
def ΦL : Option AV → Mm → Prop := fun v _ => v = some (.inl 1)
theorem Afn_ge {E : En} (hE : EA E) {q : Nat} (h : Afn E q) : e_r E 0 ≤ q := by
  obtain ⟨o, h1, rfl⟩ := h
  have := hE o h1
  omega
theorem wpL1 {E : En} (hE : EA E) {go : Go} (hgo : ∀ i ls st μ, go i ls st μ → GL E i ls st μ) {i : Nat} {ls : Ls} {st : List AV} {μ : Mm} (h : wpS (e_sc E) (Ct E (22 - 1)) ΦL (r_t r298) (r_c r298) go i ls st μ) : GL E i ls st μ := by
  refine wpS_gen (d := 22) (Φ := ΦL) ⟨by decide, by decide⟩ ⟨Nat.le_refl _, Nat.le_refl _⟩ okL hgo (fun {p e s m args below meth c H locs lsA pc μ} C hP hS => ⟨fun {z} hdg hz => ?_, fun hdg hr => ?_, fun hdg hr => ?_⟩) h
  · obtain ⟨hx, hb, hml, hr, hlk, hown, hts, hB⟩ := C
    have hz : (z = 0 ∨ z = 1) ∧ some (Sum.inl z : AV) = some (.inl 1) := hz
    have hz1 : z = 1 := Sum.inl.inj (Option.some.inj hz.2)
    subst hz1
    by_cases hq : s.heap.size = e_r E 0 ∧ args = #[.ref (e_r E 2000)]
    · obtain ⟨h1, rfl⟩ := hq
      intro T hT X
      obtain ⟨t, a1, b1⟩ := (va_forget (fun q hq => by rw [h1]; exact Afn_ge hE (hS.2.2 q hq)) (lw_ret hx hb hr hlk hdg)) T hT X
      exact ⟨t, a1, fun _ => b1⟩
    · intro T hT X
      exact ⟨_, Steps.refl _, fun h => absurd h hq⟩
  · cases hr
  · cases hr
theorem wpL {E : En} (hE : EA E) {cuts : List (Nat × List Nat)} : ∀ (n i : Nat) (ls : Ls) (st : List AV) (μ : Mm), wp (e_sc E) (Ct E (22 - 1)) ΦL (r_t r298) (r_c r298) cuts (GL E) n i ls st μ → GL E i ls st μ := by
  intro n
  induction n with
  | zero => intro i ls st μ h; exact h.elim
  | succ n ih =>
    intro i ls st μ h
    refine wpL1 hE (fun i ls st μ hg => ?_) h
    split at hg
    · intro p en s m args below meth cd C H locs lsA hP hS hl
      exact hg p en s m args below meth cd C H locs lsA hP hS (lvl_mask _ hl)
    · exact ih i ls st μ hg
theorem iAnd_in (x y : Int) : inR (iAnd x y) := ⟨Int32.le_toInt _, Int32.toInt_lt _⟩
def LL4 (i : Int) : Ls := [some (.inr 2000), some (.inr 0), some (.inr 123), some (.inl i)]
theorem scR {E : En} {j : Int} : inR ((e_sc E).2 j) := ⟨Int32.le_toInt _, Int32.toInt_lt _⟩
theorem scB {E : En} {i c : Int} (i0 : 0 ≤ i) (i5 : i + 5 < e_L E) (c0 : 0 ≤ c) (c5 : c ≤ 5) : 0 ≤ i + c ∧ i + c < (e_sc E).1 := ⟨by omega, by show i + c < ((e_L E : Nat) : Int); omega⟩
set_option maxRecDepth 100000 in
theorem cL_0 {E : En} {i : Int} {μ : Mm} (hE : EA E) (i0 : 0 ≤ i) (i5 : i + 5 < e_L E) (hI : Inv μ) (K : ∀ μ', Inv μ' → GL E 741 (LL4 i) [] μ') : GL E 22 (LL4 i) [] μ :=
  have B : ∀ c : Int, 0 ≤ c → c ≤ 5 → 0 ≤ i + c ∧ i + c < (e_sc E).1 := fun c c0 c5 => scB i0 i5 c0 c5
  wpL hE (cuts := [(741, [0, 1, 2, 3])]) 100 22 (LL4 i) [] μ (⟨⟨rfl, B 1 (by decide) (by decide)⟩, ⟨rfl, ct_mono (o0 (d := 22 - 1) (by decide) hI) (rI_mono (fun z μ1 h1 => ⟨⟨rfl, B 1 (by decide) (by decide)⟩, ⟨rfl, ct_mono h1 (rI_mono (fun w μ2 h2 => ⟨fun _ => K μ2 h2.2, fun q => absurd (congrArg w32 h2.1) q⟩))⟩⟩))⟩⟩)
set_option maxRecDepth 100000 in
theorem cL_1 {E : En} {i : Int} {μ : Mm} (hE : EA E) (i0 : 0 ≤ i) (i5 : i + 5 < e_L E) (hI : Inv μ) (K : ∀ μ', Inv μ' → GL E 741 (LL4 i) [] μ') : GL E 39 (LL4 i) [] μ :=
  have B : ∀ c : Int, 0 ≤ c → c ≤ 5 → 0 ≤ i + c ∧ i + c < (e_sc E).1 := fun c c0 c5 => scB i0 i5 c0 c5
  wpL hE (cuts := [(741, [0, 1, 2, 3])]) 100 39 (LL4 i) [] μ (⟨⟨rfl, B 1 (by decide) (by decide)⟩, ⟨⟨rfl, B 2 (by decide) (by decide)⟩, ⟨⟨rfl, B 3 (by decide) (by decide)⟩, ⟨rfl, ct_mono (o1 (d := 22 - 1) (by decide) scR scR scR hI) (rI_mono (fun z μ1 h1 => ⟨⟨rfl, B 1 (by decide) (by decide)⟩, ⟨⟨rfl, B 2 (by decide) (by decide)⟩, ⟨⟨rfl, B 3 (by decide) (by decide)⟩, ⟨rfl, ct_mono h1 (rI_mono (fun w μ2 h2 => ⟨fun _ => K μ2 h2.2, fun q => absurd (congrArg w32 h2.1) q⟩))⟩⟩⟩⟩))⟩⟩⟩⟩)
set_option maxRecDepth 100000 in
theorem cL_2 {E : En} {i : Int} {μ : Mm} (hE : EA E) (i0 : 0 ≤ i) (i5 : i + 5 < e_L E) (hI : Inv μ) (K : ∀ μ', Inv μ' → GL E 741 (LL4 i) [] μ') : GL E 76 (LL4 i) [] μ :=
  have B : ∀ c : Int, 0 ≤ c → c ≤ 5 → 0 ≤ i + c ∧ i + c < (e_sc E).1 := fun c c0 c5 => scB i0 i5 c0 c5
  wpL hE (cuts := [(741, [0, 1, 2, 3])]) 100 76 (LL4 i) [] μ (⟨⟨rfl, B 1 (by decide) (by decide)⟩, ⟨⟨rfl, B 2 (by decide) (by decide)⟩, ⟨rfl, ct_mono (o2 (d := 22 - 1) (by decide) scR scR hI) (rI_mono (fun z μ1 h1 => ⟨⟨rfl, B 1 (by decide) (by decide)⟩, ⟨⟨rfl, B 2 (by decide) (by decide)⟩, ⟨rfl, ct_mono h1 (rI_mono (fun w μ2 h2 => ⟨fun _ => K μ2 h2.2, fun q => absurd (congrArg w32 h2.1) q⟩))⟩⟩⟩))⟩⟩⟩)
set_option maxRecDepth 100000 in
theorem cL_3 {E : En} {i : Int} {μ : Mm} (hE : EA E) (i0 : 0 ≤ i) (i5 : i + 5 < e_L E) (hI : Inv μ) (K : ∀ μ', Inv μ' → GL E 741 (LL4 i) [] μ') : GL E 103 (LL4 i) [] μ :=
  have B : ∀ c : Int, 0 ≤ c → c ≤ 5 → 0 ≤ i + c ∧ i + c < (e_sc E).1 := fun c c0 c5 => scB i0 i5 c0 c5
  wpL hE (cuts := [(741, [0, 1, 2, 3])]) 100 103 (LL4 i) [] μ (⟨⟨rfl, B 1 (by decide) (by decide)⟩, ⟨rfl, ct_mono (o3 (d := 22 - 1) (by decide) scR hI) (rI_mono (fun z μ1 h1 => ⟨⟨rfl, B 1 (by decide) (by decide)⟩, ⟨rfl, ct_mono h1 (rI_mono (fun w μ2 h2 => ⟨fun _ => K μ2 h2.2, fun q => absurd (congrArg w32 h2.1) q⟩))⟩⟩))⟩⟩)
set_option maxRecDepth 100000 in
theorem cL_4 {E : En} {i : Int} {μ : Mm} (hE : EA E) (i0 : 0 ≤ i) (i5 : i + 5 < e_L E) (hI : Inv μ) (K : ∀ μ', Inv μ' → GL E 741 (LL4 i) [] μ') : GL E 120 (LL4 i) [] μ :=
  have B : ∀ c : Int, 0 ≤ c → c ≤ 5 → 0 ≤ i + c ∧ i + c < (e_sc E).1 := fun c c0 c5 => scB i0 i5 c0 c5
  wpL hE (cuts := [(741, [0, 1, 2, 3])]) 100 120 (LL4 i) [] μ (⟨⟨rfl, B 1 (by decide) (by decide)⟩, ⟨⟨rfl, B 2 (by decide) (by decide)⟩, ⟨⟨rfl, B 3 (by decide) (by decide)⟩, ⟨⟨rfl, B 4 (by decide) (by decide)⟩, ⟨⟨rfl, B 5 (by decide) (by decide)⟩, ⟨rfl, ct_mono (o4 (d := 22 - 1) (by decide) hI) (rI_mono (fun z μ1 h1 => ⟨⟨rfl, B 1 (by decide) (by decide)⟩, ⟨⟨rfl, B 2 (by decide) (by decide)⟩, ⟨⟨rfl, B 3 (by decide) (by decide)⟩, ⟨⟨rfl, B 4 (by decide) (by decide)⟩, ⟨⟨rfl, B 5 (by decide) (by decide)⟩, ⟨rfl, ct_mono h1 (rI_mono (fun w μ2 h2 => ⟨fun _ => K μ2 h2.2, fun q => absurd (congrArg w32 h2.1) q⟩))⟩⟩⟩⟩⟩⟩))⟩⟩⟩⟩⟩⟩)
set_option maxRecDepth 100000 in
theorem cL_5 {E : En} {i : Int} {μ : Mm} (hE : EA E) (i0 : 0 ≤ i) (i5 : i + 5 < e_L E) (hI : Inv μ) (K : ∀ μ', Inv μ' → GL E 741 (LL4 i) [] μ') : GL E 177 (LL4 i) [] μ :=
  have B : ∀ c : Int, 0 ≤ c → c ≤ 5 → 0 ≤ i + c ∧ i + c < (e_sc E).1 := fun c c0 c5 => scB i0 i5 c0 c5
  wpL hE (cuts := [(741, [0, 1, 2, 3])]) 100 177 (LL4 i) [] μ (⟨⟨rfl, B 1 (by decide) (by decide)⟩, ⟨rfl, ct_mono (o5 (d := 22 - 1) (by decide) scR hI) (rI_mono (fun z μ1 h1 => ⟨⟨rfl, B 1 (by decide) (by decide)⟩, ⟨rfl, ct_mono h1 (rI_mono (fun w μ2 h2 => ⟨fun _ => K μ2 h2.2, fun q => absurd (congrArg w32 h2.1) q⟩))⟩⟩))⟩⟩)
set_option maxRecDepth 100000 in
theorem cL_6 {E : En} {i : Int} {μ : Mm} (hE : EA E) (i0 : 0 ≤ i) (i5 : i + 5 < e_L E) (hI : Inv μ) (K : ∀ μ', Inv μ' → GL E 741 (LL4 i) [] μ') : GL E 194 (LL4 i) [] μ :=
  have B : ∀ c : Int, 0 ≤ c → c ≤ 5 → 0 ≤ i + c ∧ i + c < (e_sc E).1 := fun c c0 c5 => scB i0 i5 c0 c5
  wpL hE (cuts := [(741, [0, 1, 2, 3])]) 100 194 (LL4 i) [] μ (⟨⟨rfl, B 1 (by decide) (by decide)⟩, ⟨rfl, ct_mono (o6 (d := 22 - 1) (by decide) scR hI) (rI_mono (fun z μ1 h1 => ⟨⟨rfl, B 1 (by decide) (by decide)⟩, ⟨rfl, ct_mono h1 (rI_mono (fun w μ2 h2 => ⟨fun _ => K μ2 h2.2, fun q => absurd (congrArg w32 h2.1) q⟩))⟩⟩))⟩⟩)
set_option maxRecDepth 100000 in
theorem cL_7 {E : En} {i : Int} {μ : Mm} (hE : EA E) (i0 : 0 ≤ i) (i5 : i + 5 < e_L E) (hI : Inv μ) (K : ∀ μ', Inv μ' → GL E 741 (LL4 i) [] μ') : GL E 211 (LL4 i) [] μ :=
  have B : ∀ c : Int, 0 ≤ c → c ≤ 5 → 0 ≤ i + c ∧ i + c < (e_sc E).1 := fun c c0 c5 => scB i0 i5 c0 c5
  wpL hE (cuts := [(741, [0, 1, 2, 3])]) 100 211 (LL4 i) [] μ (⟨⟨rfl, B 1 (by decide) (by decide)⟩, ⟨rfl, ct_mono (o7 (d := 22 - 1) (by decide) scR hI) (rI_mono (fun z μ1 h1 => ⟨⟨rfl, B 1 (by decide) (by decide)⟩, ⟨rfl, ct_mono h1 (rI_mono (fun w μ2 h2 => ⟨fun _ => K μ2 h2.2, fun q => absurd (congrArg w32 h2.1) q⟩))⟩⟩))⟩⟩)
set_option maxRecDepth 100000 in
theorem cL_8 {E : En} {i : Int} {μ : Mm} (hE : EA E) (i0 : 0 ≤ i) (i5 : i + 5 < e_L E) (hI : Inv μ) (K : ∀ μ', Inv μ' → GL E 741 (LL4 i) [] μ') : GL E 228 (LL4 i) [] μ :=
  have B : ∀ c : Int, 0 ≤ c → c ≤ 5 → 0 ≤ i + c ∧ i + c < (e_sc E).1 := fun c c0 c5 => scB i0 i5 c0 c5
  wpL hE (cuts := [(741, [0, 1, 2, 3])]) 100 228 (LL4 i) [] μ (⟨⟨rfl, B 1 (by decide) (by decide)⟩, ⟨⟨rfl, B 2 (by decide) (by decide)⟩, ⟨rfl, ct_mono (o8 (d := 22 - 1) (by decide) scR scR hI) (rI_mono (fun z μ1 h1 => ⟨⟨rfl, B 1 (by decide) (by decide)⟩, ⟨⟨rfl, B 2 (by decide) (by decide)⟩, ⟨rfl, ct_mono h1 (rI_mono (fun w μ2 h2 => ⟨fun _ => K μ2 h2.2, fun q => absurd (congrArg w32 h2.1) q⟩))⟩⟩⟩))⟩⟩⟩)
set_option maxRecDepth 100000 in
theorem cL_9 {E : En} {i : Int} {μ : Mm} (hE : EA E) (i0 : 0 ≤ i) (i5 : i + 5 < e_L E) (hI : Inv μ) (K : ∀ μ', Inv μ' → GL E 741 (LL4 i) [] μ') : GL E 255 (LL4 i) [] μ :=
  have B : ∀ c : Int, 0 ≤ c → c ≤ 5 → 0 ≤ i + c ∧ i + c < (e_sc E).1 := fun c c0 c5 => scB i0 i5 c0 c5
  wpL hE (cuts := [(741, [0, 1, 2, 3])]) 100 255 (LL4 i) [] μ (⟨⟨rfl, B 1 (by decide) (by decide)⟩, ⟨⟨rfl, B 2 (by decide) (by decide)⟩, ⟨rfl, ct_mono (o9 (d := 22 - 1) (by decide) scR scR hI) (rI_mono (fun z μ1 h1 => ⟨⟨rfl, B 1 (by decide) (by decide)⟩, ⟨⟨rfl, B 2 (by decide) (by decide)⟩, ⟨rfl, ct_mono h1 (rI_mono (fun w μ2 h2 => ⟨fun _ => K μ2 h2.2, fun q => absurd (congrArg w32 h2.1) q⟩))⟩⟩⟩))⟩⟩⟩)
set_option maxRecDepth 100000 in
theorem cL_10 {E : En} {i : Int} {μ : Mm} (hE : EA E) (i0 : 0 ≤ i) (i5 : i + 5 < e_L E) (hI : Inv μ) (K : ∀ μ', Inv μ' → GL E 741 (LL4 i) [] μ') : GL E 282 (LL4 i) [] μ :=
  have B : ∀ c : Int, 0 ≤ c → c ≤ 5 → 0 ≤ i + c ∧ i + c < (e_sc E).1 := fun c c0 c5 => scB i0 i5 c0 c5
  wpL hE (cuts := [(741, [0, 1, 2, 3])]) 100 282 (LL4 i) [] μ (⟨⟨rfl, B 1 (by decide) (by decide)⟩, ⟨⟨rfl, B 2 (by decide) (by decide)⟩, ⟨rfl, ct_mono (o10 (d := 22 - 1) (by decide) scR scR hI) (rI_mono (fun z μ1 h1 => ⟨⟨rfl, B 1 (by decide) (by decide)⟩, ⟨⟨rfl, B 2 (by decide) (by decide)⟩, ⟨rfl, ct_mono h1 (rI_mono (fun w μ2 h2 => ⟨fun _ => K μ2 h2.2, fun q => absurd (congrArg w32 h2.1) q⟩))⟩⟩⟩))⟩⟩⟩)
set_option maxRecDepth 100000 in
theorem cL_11 {E : En} {i : Int} {μ : Mm} (hE : EA E) (i0 : 0 ≤ i) (i5 : i + 5 < e_L E) (hI : Inv μ) (K : ∀ μ', Inv μ' → GL E 741 (LL4 i) [] μ') : GL E 309 (LL4 i) [] μ :=
  have B : ∀ c : Int, 0 ≤ c → c ≤ 5 → 0 ≤ i + c ∧ i + c < (e_sc E).1 := fun c c0 c5 => scB i0 i5 c0 c5
  wpL hE (cuts := [(741, [0, 1, 2, 3])]) 100 309 (LL4 i) [] μ (⟨⟨rfl, B 1 (by decide) (by decide)⟩, ⟨⟨rfl, B 2 (by decide) (by decide)⟩, ⟨rfl, ct_mono (o11 (d := 22 - 1) (by decide) scR scR hI) (rI_mono (fun z μ1 h1 => ⟨⟨rfl, B 1 (by decide) (by decide)⟩, ⟨⟨rfl, B 2 (by decide) (by decide)⟩, ⟨rfl, ct_mono h1 (rI_mono (fun w μ2 h2 => ⟨fun _ => K μ2 h2.2, fun q => absurd (congrArg w32 h2.1) q⟩))⟩⟩⟩))⟩⟩⟩)
set_option maxRecDepth 100000 in
theorem cL_12 {E : En} {i : Int} {μ : Mm} (hE : EA E) (i0 : 0 ≤ i) (i5 : i + 5 < e_L E) (hI : Inv μ) (K : ∀ μ', Inv μ' → GL E 741 (LL4 i) [] μ') : GL E 336 (LL4 i) [] μ :=
  have B : ∀ c : Int, 0 ≤ c → c ≤ 5 → 0 ≤ i + c ∧ i + c < (e_sc E).1 := fun c c0 c5 => scB i0 i5 c0 c5
  wpL hE (cuts := [(741, [0, 1, 2, 3])]) 100 336 (LL4 i) [] μ (⟨⟨rfl, B 1 (by decide) (by decide)⟩, ⟨⟨rfl, B 2 (by decide) (by decide)⟩, ⟨rfl, ct_mono (o12 (d := 22 - 1) (by decide) scR scR hI) (rI_mono (fun z μ1 h1 => ⟨⟨rfl, B 1 (by decide) (by decide)⟩, ⟨⟨rfl, B 2 (by decide) (by decide)⟩, ⟨rfl, ct_mono h1 (rI_mono (fun w μ2 h2 => ⟨fun _ => K μ2 h2.2, fun q => absurd (congrArg w32 h2.1) q⟩))⟩⟩⟩))⟩⟩⟩)
set_option maxRecDepth 100000 in
theorem cL_13 {E : En} {i : Int} {μ : Mm} (hE : EA E) (i0 : 0 ≤ i) (i5 : i + 5 < e_L E) (hI : Inv μ) (K : ∀ μ', Inv μ' → GL E 741 (LL4 i) [] μ') : GL E 363 (LL4 i) [] μ :=
  have B : ∀ c : Int, 0 ≤ c → c ≤ 5 → 0 ≤ i + c ∧ i + c < (e_sc E).1 := fun c c0 c5 => scB i0 i5 c0 c5
  wpL hE (cuts := [(741, [0, 1, 2, 3])]) 100 363 (LL4 i) [] μ (⟨rfl, ct_mono (o13 (d := 22 - 1) (by decide) hI) (rI_mono (fun z μ1 h1 => ⟨rfl, ct_mono h1 (rI_mono (fun w μ2 h2 => ⟨fun _ => K μ2 h2.2, fun q => absurd (congrArg w32 h2.1) q⟩))⟩))⟩)
set_option maxRecDepth 100000 in
theorem cL_14 {E : En} {i : Int} {μ : Mm} (hE : EA E) (i0 : 0 ≤ i) (i5 : i + 5 < e_L E) (hI : Inv μ) (K : ∀ μ', Inv μ' → GL E 741 (LL4 i) [] μ') : GL E 370 (LL4 i) [] μ :=
  have B : ∀ c : Int, 0 ≤ c → c ≤ 5 → 0 ≤ i + c ∧ i + c < (e_sc E).1 := fun c c0 c5 => scB i0 i5 c0 c5
  wpL hE (cuts := [(741, [0, 1, 2, 3])]) 100 370 (LL4 i) [] μ (⟨⟨rfl, B 1 (by decide) (by decide)⟩, ⟨⟨rfl, B 2 (by decide) (by decide)⟩, ⟨⟨rfl, B 3 (by decide) (by decide)⟩, ⟨rfl, ct_mono (o14 (d := 22 - 1) (by decide) scR scR scR hI) (rI_mono (fun z μ1 h1 => ⟨⟨rfl, B 1 (by decide) (by decide)⟩, ⟨⟨rfl, B 2 (by decide) (by decide)⟩, ⟨⟨rfl, B 3 (by decide) (by decide)⟩, ⟨rfl, ct_mono h1 (rI_mono (fun w μ2 h2 => ⟨fun _ => K μ2 h2.2, fun q => absurd (congrArg w32 h2.1) q⟩))⟩⟩⟩⟩))⟩⟩⟩⟩)
set_option maxRecDepth 100000 in
theorem cL_15 {E : En} {i : Int} {μ : Mm} (hE : EA E) (i0 : 0 ≤ i) (i5 : i + 5 < e_L E) (hI : Inv μ) (K : ∀ μ', Inv μ' → GL E 741 (LL4 i) [] μ') : GL E 407 (LL4 i) [] μ :=
  have B : ∀ c : Int, 0 ≤ c → c ≤ 5 → 0 ≤ i + c ∧ i + c < (e_sc E).1 := fun c c0 c5 => scB i0 i5 c0 c5
  wpL hE (cuts := [(741, [0, 1, 2, 3])]) 100 407 (LL4 i) [] μ (⟨⟨rfl, B 1 (by decide) (by decide)⟩, ⟨rfl, ct_mono (o15 (d := 22 - 1) (by decide) scR hI) (rI_mono (fun z μ1 h1 => ⟨⟨rfl, B 1 (by decide) (by decide)⟩, ⟨rfl, ct_mono h1 (rI_mono (fun w μ2 h2 => ⟨fun _ => K μ2 h2.2, fun q => absurd (congrArg w32 h2.1) q⟩))⟩⟩))⟩⟩)
set_option maxRecDepth 100000 in
theorem cL_16 {E : En} {i : Int} {μ : Mm} (hE : EA E) (i0 : 0 ≤ i) (i5 : i + 5 < e_L E) (hI : Inv μ) (K : ∀ μ', Inv μ' → GL E 741 (LL4 i) [] μ') : GL E 424 (LL4 i) [] μ :=
  have B : ∀ c : Int, 0 ≤ c → c ≤ 5 → 0 ≤ i + c ∧ i + c < (e_sc E).1 := fun c c0 c5 => scB i0 i5 c0 c5
  wpL hE (cuts := [(741, [0, 1, 2, 3])]) 100 424 (LL4 i) [] μ (⟨rfl, ct_mono (o16 (d := 22 - 1) (by decide) hI) (rI_mono (fun z μ1 h1 => ⟨rfl, ct_mono h1 (rI_mono (fun w μ2 h2 => ⟨fun _ => K μ2 h2.2, fun q => absurd (congrArg w32 h2.1) q⟩))⟩))⟩)
set_option maxRecDepth 100000 in
theorem cL_17 {E : En} {i : Int} {μ : Mm} (hE : EA E) (i0 : 0 ≤ i) (i5 : i + 5 < e_L E) (hI : Inv μ) (K : ∀ μ', Inv μ' → GL E 741 (LL4 i) [] μ') : GL E 431 (LL4 i) [] μ :=
  have B : ∀ c : Int, 0 ≤ c → c ≤ 5 → 0 ≤ i + c ∧ i + c < (e_sc E).1 := fun c c0 c5 => scB i0 i5 c0 c5
  wpL hE (cuts := [(741, [0, 1, 2, 3])]) 100 431 (LL4 i) [] μ (⟨rfl, ct_mono (o17 (d := 22 - 1) (by decide) hI) (rI_mono (fun z μ1 h1 => ⟨rfl, ct_mono h1 (rI_mono (fun w μ2 h2 => ⟨fun _ => K μ2 h2.2, fun q => absurd (congrArg w32 h2.1) q⟩))⟩))⟩)
set_option maxRecDepth 100000 in
theorem cL_18 {E : En} {i : Int} {μ : Mm} (hE : EA E) (i0 : 0 ≤ i) (i5 : i + 5 < e_L E) (hI : Inv μ) (K : ∀ μ', Inv μ' → GL E 741 (LL4 i) [] μ') : GL E 438 (LL4 i) [] μ :=
  have B : ∀ c : Int, 0 ≤ c → c ≤ 5 → 0 ≤ i + c ∧ i + c < (e_sc E).1 := fun c c0 c5 => scB i0 i5 c0 c5
  wpL hE (cuts := [(741, [0, 1, 2, 3])]) 100 438 (LL4 i) [] μ (⟨⟨rfl, B 1 (by decide) (by decide)⟩, ⟨rfl, ct_mono (o18 (d := 22 - 1) (by decide) scR hI) (rI_mono (fun z μ1 h1 => ⟨⟨rfl, B 1 (by decide) (by decide)⟩, ⟨rfl, ct_mono h1 (rI_mono (fun w μ2 h2 => ⟨fun _ => K μ2 h2.2, fun q => absurd (congrArg w32 h2.1) q⟩))⟩⟩))⟩⟩)
set_option maxRecDepth 100000 in
theorem cL_19 {E : En} {i : Int} {μ : Mm} (hE : EA E) (i0 : 0 ≤ i) (i5 : i + 5 < e_L E) (hI : Inv μ) (K : ∀ μ', Inv μ' → GL E 741 (LL4 i) [] μ') : GL E 455 (LL4 i) [] μ :=
  have B : ∀ c : Int, 0 ≤ c → c ≤ 5 → 0 ≤ i + c ∧ i + c < (e_sc E).1 := fun c c0 c5 => scB i0 i5 c0 c5
  wpL hE (cuts := [(741, [0, 1, 2, 3])]) 100 455 (LL4 i) [] μ (⟨rfl, ct_mono (o19 (d := 22 - 1) (by decide) hI) (rI_mono (fun z μ1 h1 => ⟨rfl, ct_mono h1 (rI_mono (fun w μ2 h2 => ⟨fun _ => K μ2 h2.2, fun q => absurd (congrArg w32 h2.1) q⟩))⟩))⟩)
set_option maxRecDepth 100000 in
theorem cL_20 {E : En} {i : Int} {μ : Mm} (hE : EA E) (i0 : 0 ≤ i) (i5 : i + 5 < e_L E) (hI : Inv μ) (K : ∀ μ', Inv μ' → GL E 741 (LL4 i) [] μ') : GL E 462 (LL4 i) [] μ :=
  have B : ∀ c : Int, 0 ≤ c → c ≤ 5 → 0 ≤ i + c ∧ i + c < (e_sc E).1 := fun c c0 c5 => scB i0 i5 c0 c5
  wpL hE (cuts := [(741, [0, 1, 2, 3])]) 100 462 (LL4 i) [] μ (⟨⟨rfl, B 1 (by decide) (by decide)⟩, ⟨rfl, ct_mono (o20 (d := 22 - 1) (by decide) scR hI) (rI_mono (fun z μ1 h1 => ⟨⟨rfl, B 1 (by decide) (by decide)⟩, ⟨rfl, ct_mono h1 (rI_mono (fun w μ2 h2 => ⟨fun _ => K μ2 h2.2, fun q => absurd (congrArg w32 h2.1) q⟩))⟩⟩))⟩⟩)
set_option maxRecDepth 100000 in
theorem cL_21 {E : En} {i : Int} {μ : Mm} (hE : EA E) (i0 : 0 ≤ i) (i5 : i + 5 < e_L E) (hI : Inv μ) (K : ∀ μ', Inv μ' → GL E 741 (LL4 i) [] μ') : GL E 479 (LL4 i) [] μ :=
  have B : ∀ c : Int, 0 ≤ c → c ≤ 5 → 0 ≤ i + c ∧ i + c < (e_sc E).1 := fun c c0 c5 => scB i0 i5 c0 c5
  wpL hE (cuts := [(741, [0, 1, 2, 3])]) 100 479 (LL4 i) [] μ (⟨⟨rfl, B 1 (by decide) (by decide)⟩, ⟨rfl, ct_mono (o21 (d := 22 - 1) (by decide) scR hI) (rI_mono (fun z μ1 h1 => ⟨⟨rfl, B 1 (by decide) (by decide)⟩, ⟨rfl, ct_mono h1 (rI_mono (fun w μ2 h2 => ⟨fun _ => K μ2 h2.2, fun q => absurd (congrArg w32 h2.1) q⟩))⟩⟩))⟩⟩)
set_option maxRecDepth 100000 in
theorem cL_22 {E : En} {i : Int} {μ : Mm} (hE : EA E) (i0 : 0 ≤ i) (i5 : i + 5 < e_L E) (hI : Inv μ) (K : ∀ μ', Inv μ' → GL E 741 (LL4 i) [] μ') : GL E 496 (LL4 i) [] μ :=
  have B : ∀ c : Int, 0 ≤ c → c ≤ 5 → 0 ≤ i + c ∧ i + c < (e_sc E).1 := fun c c0 c5 => scB i0 i5 c0 c5
  wpL hE (cuts := [(741, [0, 1, 2, 3])]) 100 496 (LL4 i) [] μ (⟨⟨rfl, B 1 (by decide) (by decide)⟩, ⟨rfl, ct_mono (o22 (d := 22 - 1) (by decide) scR hI) (rI_mono (fun z μ1 h1 => ⟨⟨rfl, B 1 (by decide) (by decide)⟩, ⟨rfl, ct_mono h1 (rI_mono (fun w μ2 h2 => ⟨fun _ => K μ2 h2.2, fun q => absurd (congrArg w32 h2.1) q⟩))⟩⟩))⟩⟩)
set_option maxRecDepth 100000 in
theorem cL_23 {E : En} {i : Int} {μ : Mm} (hE : EA E) (i0 : 0 ≤ i) (i5 : i + 5 < e_L E) (hI : Inv μ) (K : ∀ μ', Inv μ' → GL E 741 (LL4 i) [] μ') : GL E 513 (LL4 i) [] μ :=
  have B : ∀ c : Int, 0 ≤ c → c ≤ 5 → 0 ≤ i + c ∧ i + c < (e_sc E).1 := fun c c0 c5 => scB i0 i5 c0 c5
  wpL hE (cuts := [(741, [0, 1, 2, 3])]) 100 513 (LL4 i) [] μ (⟨⟨rfl, B 1 (by decide) (by decide)⟩, ⟨⟨rfl, B 2 (by decide) (by decide)⟩, ⟨rfl, ct_mono (o23 (d := 22 - 1) (by decide) scR scR hI) (rI_mono (fun z μ1 h1 => ⟨⟨rfl, B 1 (by decide) (by decide)⟩, ⟨⟨rfl, B 2 (by decide) (by decide)⟩, ⟨rfl, ct_mono h1 (rI_mono (fun w μ2 h2 => ⟨fun _ => K μ2 h2.2, fun q => absurd (congrArg w32 h2.1) q⟩))⟩⟩⟩))⟩⟩⟩)
set_option maxRecDepth 100000 in
theorem cL_24 {E : En} {i : Int} {μ : Mm} (hE : EA E) (i0 : 0 ≤ i) (i5 : i + 5 < e_L E) (hI : Inv μ) (K : ∀ μ', Inv μ' → GL E 741 (LL4 i) [] μ') : GL E 540 (LL4 i) [] μ :=
  have B : ∀ c : Int, 0 ≤ c → c ≤ 5 → 0 ≤ i + c ∧ i + c < (e_sc E).1 := fun c c0 c5 => scB i0 i5 c0 c5
  wpL hE (cuts := [(741, [0, 1, 2, 3])]) 100 540 (LL4 i) [] μ (⟨⟨rfl, B 1 (by decide) (by decide)⟩, ⟨⟨rfl, B 2 (by decide) (by decide)⟩, ⟨rfl, ct_mono (o24 (d := 22 - 1) (by decide) scR scR hI) (rI_mono (fun z μ1 h1 => ⟨⟨rfl, B 1 (by decide) (by decide)⟩, ⟨⟨rfl, B 2 (by decide) (by decide)⟩, ⟨rfl, ct_mono h1 (rI_mono (fun w μ2 h2 => ⟨fun _ => K μ2 h2.2, fun q => absurd (congrArg w32 h2.1) q⟩))⟩⟩⟩))⟩⟩⟩)
set_option maxRecDepth 100000 in
theorem cL_25 {E : En} {i : Int} {μ : Mm} (hE : EA E) (i0 : 0 ≤ i) (i5 : i + 5 < e_L E) (hI : Inv μ) (K : ∀ μ', Inv μ' → GL E 741 (LL4 i) [] μ') : GL E 567 (LL4 i) [] μ :=
  have B : ∀ c : Int, 0 ≤ c → c ≤ 5 → 0 ≤ i + c ∧ i + c < (e_sc E).1 := fun c c0 c5 => scB i0 i5 c0 c5
  wpL hE (cuts := [(741, [0, 1, 2, 3])]) 100 567 (LL4 i) [] μ (⟨⟨rfl, B 1 (by decide) (by decide)⟩, ⟨⟨rfl, B 2 (by decide) (by decide)⟩, ⟨⟨rfl, B 3 (by decide) (by decide)⟩, ⟨rfl, ct_mono (o25 (d := 22 - 1) (by decide) scR scR scR hI) (rI_mono (fun z μ1 h1 => ⟨⟨rfl, B 1 (by decide) (by decide)⟩, ⟨⟨rfl, B 2 (by decide) (by decide)⟩, ⟨⟨rfl, B 3 (by decide) (by decide)⟩, ⟨rfl, ct_mono h1 (rI_mono (fun w μ2 h2 => ⟨fun _ => K μ2 h2.2, fun q => absurd (congrArg w32 h2.1) q⟩))⟩⟩⟩⟩))⟩⟩⟩⟩)
set_option maxRecDepth 100000 in
theorem cL_26 {E : En} {i : Int} {μ : Mm} (hE : EA E) (i0 : 0 ≤ i) (i5 : i + 5 < e_L E) (hI : Inv μ) (K : ∀ μ', Inv μ' → GL E 741 (LL4 i) [] μ') : GL E 604 (LL4 i) [] μ :=
  have B : ∀ c : Int, 0 ≤ c → c ≤ 5 → 0 ≤ i + c ∧ i + c < (e_sc E).1 := fun c c0 c5 => scB i0 i5 c0 c5
  wpL hE (cuts := [(741, [0, 1, 2, 3])]) 100 604 (LL4 i) [] μ (⟨⟨rfl, B 1 (by decide) (by decide)⟩, ⟨⟨rfl, B 2 (by decide) (by decide)⟩, ⟨rfl, ct_mono (o26 (d := 22 - 1) (by decide) scR scR hI) (rI_mono (fun z μ1 h1 => ⟨⟨rfl, B 1 (by decide) (by decide)⟩, ⟨⟨rfl, B 2 (by decide) (by decide)⟩, ⟨rfl, ct_mono h1 (rI_mono (fun w μ2 h2 => ⟨fun _ => K μ2 h2.2, fun q => absurd (congrArg w32 h2.1) q⟩))⟩⟩⟩))⟩⟩⟩)
set_option maxRecDepth 100000 in
theorem cL_27 {E : En} {i : Int} {μ : Mm} (hE : EA E) (i0 : 0 ≤ i) (i5 : i + 5 < e_L E) (hI : Inv μ) (K : ∀ μ', Inv μ' → GL E 741 (LL4 i) [] μ') : GL E 631 (LL4 i) [] μ :=
  have B : ∀ c : Int, 0 ≤ c → c ≤ 5 → 0 ≤ i + c ∧ i + c < (e_sc E).1 := fun c c0 c5 => scB i0 i5 c0 c5
  wpL hE (cuts := [(741, [0, 1, 2, 3])]) 100 631 (LL4 i) [] μ (⟨⟨rfl, B 1 (by decide) (by decide)⟩, ⟨⟨rfl, B 2 (by decide) (by decide)⟩, ⟨rfl, ct_mono (o27 (d := 22 - 1) (by decide) scR scR hI) (rI_mono (fun z μ1 h1 => ⟨⟨rfl, B 1 (by decide) (by decide)⟩, ⟨⟨rfl, B 2 (by decide) (by decide)⟩, ⟨rfl, ct_mono h1 (rI_mono (fun w μ2 h2 => ⟨fun _ => K μ2 h2.2, fun q => absurd (congrArg w32 h2.1) q⟩))⟩⟩⟩))⟩⟩⟩)
set_option maxRecDepth 100000 in
theorem cL_28 {E : En} {i : Int} {μ : Mm} (hE : EA E) (i0 : 0 ≤ i) (i5 : i + 5 < e_L E) (hI : Inv μ) (K : ∀ μ', Inv μ' → GL E 741 (LL4 i) [] μ') : GL E 658 (LL4 i) [] μ :=
  have B : ∀ c : Int, 0 ≤ c → c ≤ 5 → 0 ≤ i + c ∧ i + c < (e_sc E).1 := fun c c0 c5 => scB i0 i5 c0 c5
  wpL hE (cuts := [(741, [0, 1, 2, 3])]) 100 658 (LL4 i) [] μ (⟨⟨rfl, B 1 (by decide) (by decide)⟩, ⟨rfl, ct_mono (o28 (d := 22 - 1) (by decide) scR hI) (rI_mono (fun z μ1 h1 => ⟨⟨rfl, B 1 (by decide) (by decide)⟩, ⟨rfl, ct_mono h1 (rI_mono (fun w μ2 h2 => ⟨fun _ => K μ2 h2.2, fun q => absurd (congrArg w32 h2.1) q⟩))⟩⟩))⟩⟩)
set_option maxRecDepth 100000 in
theorem cL_29 {E : En} {i : Int} {μ : Mm} (hE : EA E) (i0 : 0 ≤ i) (i5 : i + 5 < e_L E) (hI : Inv μ) (K : ∀ μ', Inv μ' → GL E 741 (LL4 i) [] μ') : GL E 675 (LL4 i) [] μ :=
  have B : ∀ c : Int, 0 ≤ c → c ≤ 5 → 0 ≤ i + c ∧ i + c < (e_sc E).1 := fun c c0 c5 => scB i0 i5 c0 c5
  wpL hE (cuts := [(741, [0, 1, 2, 3])]) 100 675 (LL4 i) [] μ (⟨⟨rfl, B 1 (by decide) (by decide)⟩, ⟨rfl, ct_mono (o29 (d := 22 - 1) (by decide) scR hI) (rI_mono (fun z μ1 h1 => ⟨⟨rfl, B 1 (by decide) (by decide)⟩, ⟨rfl, ct_mono h1 (rI_mono (fun w μ2 h2 => ⟨fun _ => K μ2 h2.2, fun q => absurd (congrArg w32 h2.1) q⟩))⟩⟩))⟩⟩)
set_option maxRecDepth 100000 in
theorem cL_30 {E : En} {i : Int} {μ : Mm} (hE : EA E) (i0 : 0 ≤ i) (i5 : i + 5 < e_L E) (hI : Inv μ) (K : ∀ μ', Inv μ' → GL E 741 (LL4 i) [] μ') : GL E 692 (LL4 i) [] μ :=
  have B : ∀ c : Int, 0 ≤ c → c ≤ 5 → 0 ≤ i + c ∧ i + c < (e_sc E).1 := fun c c0 c5 => scB i0 i5 c0 c5
  wpL hE (cuts := [(741, [0, 1, 2, 3])]) 100 692 (LL4 i) [] μ (⟨rfl, ct_mono (o30 (d := 22 - 1) (by decide) hI) (rI_mono (fun z μ1 h1 => ⟨rfl, ct_mono h1 (rI_mono (fun w μ2 h2 => ⟨fun _ => K μ2 h2.2, fun q => absurd (congrArg w32 h2.1) q⟩))⟩))⟩)
set_option maxRecDepth 100000 in
theorem cL_31 {E : En} {i : Int} {μ : Mm} (hE : EA E) (i0 : 0 ≤ i) (i5 : i + 5 < e_L E) (hI : Inv μ) (K : ∀ μ', Inv μ' → GL E 741 (LL4 i) [] μ') : GL E 699 (LL4 i) [] μ :=
  have B : ∀ c : Int, 0 ≤ c → c ≤ 5 → 0 ≤ i + c ∧ i + c < (e_sc E).1 := fun c c0 c5 => scB i0 i5 c0 c5
  wpL hE (cuts := [(741, [0, 1, 2, 3])]) 100 699 (LL4 i) [] μ (⟨⟨rfl, B 1 (by decide) (by decide)⟩, fun q => ⟨rfl, ct_mono (o31 (tk := 0) (by decide) (Or.inl rfl) hI) (rI_mono (fun z μ1 h1 => ⟨⟨rfl, B 1 (by decide) (by decide)⟩, fun _ => ⟨rfl, ct_mono h1 (rI_mono (fun w μ2 h2 => ⟨fun _ => K μ2 h2.2, fun q => absurd (congrArg w32 h2.1) q⟩))⟩, fun q2 => absurd q q2⟩))⟩, fun q => ⟨rfl, ct_mono (o31 (tk := 1) (by decide) (Or.inr rfl) hI) (rI_mono (fun z μ1 h1 => ⟨⟨rfl, B 1 (by decide) (by decide)⟩, fun q2 => absurd q2 q, fun _ => ⟨rfl, ct_mono h1 (rI_mono (fun w μ2 h2 => ⟨fun _ => K μ2 h2.2, fun q => absurd (congrArg w32 h2.1) q⟩))⟩⟩))⟩⟩)
set_option maxRecDepth 100000 in
theorem cL_32 {E : En} {i : Int} {μ : Mm} (hE : EA E) (i0 : 0 ≤ i) (i5 : i + 5 < e_L E) (hI : Inv μ) (K : ∀ μ', Inv μ' → GL E 741 (LL4 i) [] μ') : GL E 724 (LL4 i) [] μ :=
  have B : ∀ c : Int, 0 ≤ c → c ≤ 5 → 0 ≤ i + c ∧ i + c < (e_sc E).1 := fun c c0 c5 => scB i0 i5 c0 c5
  wpL hE (cuts := [(741, [0, 1, 2, 3])]) 100 724 (LL4 i) [] μ (⟨⟨rfl, B 1 (by decide) (by decide)⟩, ⟨rfl, ct_mono (o32 (d := 22 - 1) (by decide) scR hI) (rI_mono (fun z μ1 h1 => ⟨⟨rfl, B 1 (by decide) (by decide)⟩, ⟨rfl, ct_mono h1 (rI_mono (fun w μ2 h2 => ⟨fun _ => K μ2 h2.2, fun q => absurd (congrArg w32 h2.1) q⟩))⟩⟩))⟩⟩)
set_option maxRecDepth 100000 in
theorem cL_743 {E : En} {i : Int} {μ : Mm} (hE : EA E) : GL E 743 (LL4 i) [] μ := wpL hE (cuts := []) 100 743 (LL4 i) [] μ ⟨Or.inr rfl, rfl⟩
set_option maxRecDepth 100000 in
theorem cL_741 {E : En} {i : Int} {μ : Mm} (hE : EA E) (h : GL E 10 (LL4 (i + 6)) [] μ) : GL E 741 (LL4 i) [] μ := wpL hE (cuts := [(10, [0, 1, 2, 3])]) 100 741 (LL4 i) [] μ h
set_option maxRecDepth 100000 in
theorem cL_h {E : En} {i : Int} {μ : Mm} (hE : EA E) (hL : e_L E ≤ 3072) (i0 : 0 ≤ i) (i1 : i ≤ 4000) (hI : Inv μ) (K : i + 5 < e_L E → ∀ μ', Inv μ' → GL E 741 (LL4 i) [] μ') : GL E 10 (LL4 i) [] μ := by
  refine wpL hE (cuts := [(10, [0, 1, 2, 3]), (741, [0, 1, 2, 3]), (743, [0, 1, 2, 3]), (22, [0, 1, 2, 3]), (39, [0, 1, 2, 3]), (76, [0, 1, 2, 3]), (103, [0, 1, 2, 3]), (120, [0, 1, 2, 3]), (177, [0, 1, 2, 3]), (194, [0, 1, 2, 3]), (211, [0, 1, 2, 3]), (228, [0, 1, 2, 3]), (255, [0, 1, 2, 3]), (282, [0, 1, 2, 3]), (309, [0, 1, 2, 3]), (336, [0, 1, 2, 3]), (363, [0, 1, 2, 3]), (370, [0, 1, 2, 3]), (407, [0, 1, 2, 3]), (424, [0, 1, 2, 3]), (431, [0, 1, 2, 3]), (438, [0, 1, 2, 3]), (455, [0, 1, 2, 3]), (462, [0, 1, 2, 3]), (479, [0, 1, 2, 3]), (496, [0, 1, 2, 3]), (513, [0, 1, 2, 3]), (540, [0, 1, 2, 3]), (567, [0, 1, 2, 3]), (604, [0, 1, 2, 3]), (631, [0, 1, 2, 3]), (658, [0, 1, 2, 3]), (675, [0, 1, 2, 3]), (692, [0, 1, 2, 3]), (699, [0, 1, 2, 3]), (724, [0, 1, 2, 3])]) 100 10 (LL4 i) [] μ ⟨rfl, ⟨inR_of (by omega) (by omega), inR_of (by show -2147483648 ≤ ((e_L E : Nat) : Int) - 6; omega) (by show ((e_L E : Nat) : Int) - 6 < 2147483648; omega)⟩, fun _ => cL_743 hE, fun q => ?_⟩
  have i5 : i + 5 < e_L E := by
    have q : ¬ (((e_L E : Nat) : Int) - 6 < i) := q
    omega
  replace K := K i5
  have K741 := K μ hI
  have b0 : 0 ≤ i ∧ i < (e_sc E).1 := ⟨i0, by show i < ((e_L E : Nat) : Int); omega⟩
  exact ⟨⟨rfl, b0⟩, iAnd_in _ _, ⟨fun _ => cL_0 hE i0 i5 hI K, fun _ => ⟨fun _ => cL_1 hE i0 i5 hI K, fun _ => ⟨fun _ => cL_2 hE i0 i5 hI K, fun _ => ⟨fun _ => cL_3 hE i0 i5 hI K, fun _ => ⟨fun _ => cL_4 hE i0 i5 hI K, fun _ => ⟨fun _ => cL_5 hE i0 i5 hI K, fun _ => ⟨fun _ => cL_6 hE i0 i5 hI K, fun _ => ⟨fun _ => cL_7 hE i0 i5 hI K, fun _ => ⟨fun _ => cL_8 hE i0 i5 hI K, fun _ => ⟨fun _ => cL_9 hE i0 i5 hI K, fun _ => ⟨fun _ => cL_10 hE i0 i5 hI K, fun _ => ⟨fun _ => cL_11 hE i0 i5 hI K, fun _ => ⟨fun _ => cL_12 hE i0 i5 hI K, fun _ => ⟨fun _ => cL_13 hE i0 i5 hI K, fun _ => ⟨fun _ => cL_14 hE i0 i5 hI K, fun _ => ⟨fun _ => cL_15 hE i0 i5 hI K, fun _ => ⟨fun _ => cL_16 hE i0 i5 hI K, fun _ => ⟨fun _ => cL_17 hE i0 i5 hI K, fun _ => ⟨fun _ => cL_18 hE i0 i5 hI K, fun _ => ⟨fun _ => cL_19 hE i0 i5 hI K, fun _ => ⟨fun _ => cL_20 hE i0 i5 hI K, fun _ => ⟨fun _ => cL_21 hE i0 i5 hI K, fun _ => ⟨fun _ => cL_22 hE i0 i5 hI K, fun _ => ⟨fun _ => cL_23 hE i0 i5 hI K, fun _ => ⟨fun _ => cL_24 hE i0 i5 hI K, fun _ => ⟨fun _ => cL_25 hE i0 i5 hI K, fun _ => ⟨fun _ => cL_26 hE i0 i5 hI K, fun _ => ⟨fun _ => cL_27 hE i0 i5 hI K, fun _ => ⟨fun _ => cL_28 hE i0 i5 hI K, fun _ => ⟨fun _ => cL_29 hE i0 i5 hI K, fun _ => ⟨fun _ => cL_30 hE i0 i5 hI K, fun _ => ⟨fun _ => cL_31 hE i0 i5 hI K, fun _ => ⟨fun _ => cL_32 hE i0 i5 hI K, fun _ => K741⟩⟩⟩⟩⟩⟩⟩⟩⟩⟩⟩⟩⟩⟩⟩⟩⟩⟩⟩⟩⟩⟩⟩⟩⟩⟩⟩⟩⟩⟩⟩⟩⟩⟩
theorem law_loop {E : En} (hE : EA E) (hL : e_L E ≤ 3072) : ∀ (m : Nat) (i : Int) (μ : Mm), (e_L E : Int) - i < m → 0 ≤ i → i ≤ 3073 → Inv μ → GL E 10 (LL4 i) [] μ := by
  intro m
  induction m with
  | zero =>
    intro i μ hm i0 i1 hI
    exact cL_h hE hL i0 (by omega) hI (fun i5 => by omega)
  | succ m ih =>
    intro i μ hm i0 i1 hI
    exact cL_h hE hL i0 (by omega) hI (fun i5 μ' hI' => cL_741 hE (ih (i + 6) μ' (by omega) (by omega) (by omega) hI'))
