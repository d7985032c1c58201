/-- the words that stay true in warmer tables -/
def lw_g : List Cond := lw_tbl.filter goodWord
theorem mem_g {c : Cond} (h : c ∈ lw_tbl) (hg : goodWord c = true) : c ∈ lw_g := List.mem_filter.mpr ⟨h, hg⟩
theorem tb_g {p : Nat} {c : Cond} (h : tbA p c = true) (hg : goodWord c = true) : c ∈ lw_g := mem_g (mem_tb h) hg
def rmd (d : Nat) : Room := { frames := d, cells := 0, slots := 0, locals := 64 * d }
def wsm (r : MR) : List Cond := Cond.code (r_y r) (r_b r) (r_n r) (r_t r) :: lw_g
def Pcm (E : En) (as : List AV) (μ : Mm) : Array Value → State → Prop := fun v U => v = (as.map (tv E)).toArray ∧ Bg E U ∧ va_P (e_D E) clsL (wsM E μ) U.heap
def Qcm (E : En) (Φ : Option AV → Mm → Prop) : Array Value → State → Outcome → State → Prop := fun _ st o t => (∃ (v : Option AV) (μ' : Mm), o = .returned (v.map (tv E)) ∧ Φ v μ' ∧ va_P (e_D E) clsL (wsM E μ') t.heap) ∧ va_F (Afn E) st t
/-- method j, at these values and this memory, comes back so that Φ -/
def Ct (E : En) (d j : Nat) (as : List AV) (μ : Mm) (Φ : Option AV → Mm → Prop) : Prop := (okQ (mget j) = true ∧ okC (mget j)) ∧ Met (e_l E) (r_y (mget j)) (wsm (mget j)) (rmd d) (Pcm E as μ) (Qcm E Φ) 0 0 (Afn E)
def lvl (E : En) : Nat → Ls → List (Nat × Value)
  | _, [] => []
  | n, none :: r => lvl E (n + 1) r
  | n, some v :: r => (n, tv E v) :: lvl E (n + 1) r
def pco (r : MR) (i : Nat) : Nat := match (r_c r)[i]? with
  | some it => it.1
  | none => 0
def Cx (E : En) (r : MR) (p : Program) (s : State) (m : MethodId) (args : Array Value) (meth : Method) (c : Code) : Prop :=
  p.tables.exec = Jvm.exec ∧ c.code = r_b r ∧ c.maxLocals = r_n r ∧ meth.sig.returnType = r_t r ∧ meth.locks = false ∧ s.vm.findClass (r_own r) = some m.cls ∧ (∀ w ∈ lw_g, w.before args s = true) ∧ Bg E s
/-- from this item of a method, with these locals, this stack and this memory, in room R, with c0 cells of s0 slots made, the run comes to QQ -/
def GW (E : En) (r : MR) (R : Room) (c0 s0 : Nat) (QQ : State → Array Value → List Frame → State → Prop) : Go := fun i ls st μ =>
  ∀ (p : Program) (e : Env) (s : State) (m : MethodId) (args : Array Value) (below : List Frame) (meth : Method) (c : Code), Cx E r p s m args meth c →
    ∀ (H : Heap) (locs : List Loc) (lsA : Array Slot), va_P (e_D E) clsL (wsM E μ) H → va_S (Afn E) s.heap H locs → lv_has lsA (r_n r) (lvl E 0 ls) →
      W p (e_l E) e R s m args below meth c H locs c0 s0 (QQ s args below) (F0 m (pco r i) lsA (st.map (tv E)))
def QM (E : En) (Φ : Option AV → Mm → Prop) : State → Array Value → List Frame → State → Prop := fun s args below => MQ below (Qcm E Φ) args s 0 0 (Afn E)
/-- from this item of method j the method comes back so that Φ -/
def G (E : En) (d j : Nat) (Φ : Option AV → Mm → Prop) : Go := GW E (mget j) (rmd d) 0 0 (QM E Φ)
theorem tv_cat {E : En} {s : State} (h : Bg E s) (v : AV) : (tv E v).category = 1 := by
  cases v with
  | inl z => rfl
  | inr k =>
    show (if k = 3000 then e_v E else .ref (e_r E k)).category = 1
    split
    · rcases h.2.2.2.2.2.2.1 with h | ⟨a, h⟩ <;> rw [h] <;> rfl
    · rfl
theorem tv_nr {E : En} {s : State} (h : Bg E s) (k : Nat) : tv E (.inr k) = .null ∨ ∃ a, tv E (.inr k) = .ref a := by
  show (if k = 3000 then e_v E else .ref (e_r E k)) = .null ∨ ∃ a, (if k = 3000 then e_v E else .ref (e_r E k)) = .ref a
  split
  · exact h.2.2.2.2.2.2.1
  · exact Or.inr ⟨_, rfl⟩
theorem lvl_mem {E : En} : ∀ (ls : Ls) (n : Nat) (q : Nat × Value), q ∈ lvl E n ls ↔ ∃ k v, ls[k]? = some (some v) ∧ q = (n + k, tv E v) := by
  intro ls
  induction ls with
  | nil => intro n q; simp [lvl]
  | cons x r ih =>
    intro n q
    cases x with
    | none =>
      rw [lvl, ih]
      constructor
      · rintro ⟨k, v, h1, rfl⟩
        exact ⟨k + 1, v, h1, by rw [show n + 1 + k = n + (k + 1) by omega]⟩
      · rintro ⟨k, v, h1, rfl⟩
        cases k with
        | zero => simp at h1
        | succ k => exact ⟨k, v, h1, by rw [show n + (k + 1) = n + 1 + k by omega]⟩
    | some w =>
      rw [lvl, List.mem_cons, ih]
      constructor
      · rintro (rfl | ⟨k, v, h1, rfl⟩)
        · exact ⟨0, w, rfl, rfl⟩
        · exact ⟨k + 1, v, h1, by rw [show n + 1 + k = n + (k + 1) by omega]⟩
      · rintro ⟨k, v, h1, rfl⟩
        cases k with
        | zero =>
          left
          have : w = v := by simpa using h1
          rw [this]; rfl
        | succ k => exact Or.inr ⟨k, v, h1, by rw [show n + (k + 1) = n + 1 + k by omega]⟩
theorem lvl_at {E : En} {ls : Ls} {A : Array Slot} {n k : Nat} {v : AV} (h : lv_has A n (lvl E 0 ls)) (hk : ls[k]? = some (some v)) : A[k]? = some (.val (tv E v)) :=
  h.2.2 (k, tv E v) ((lvl_mem ls 0 _).mpr ⟨k, v, hk, by rw [Nat.zero_add]⟩)
theorem lv_mono {A : Array Slot} {n : Nat} {l l' : List (Nat × Value)} (h : lv_has A n l) (hl : ∀ q ∈ l', q ∈ l) : lv_has A n l' := ⟨h.1, h.2.1, fun q hq => h.2.2 q (hl q hq)⟩
theorem lvl_set {E : En} {s : State} (hB : Bg E s) {ls : Ls} {A : Array Slot} {n k : Nat} {v : AV} (h : lv_has A n ((k, tv E v) :: (lvl E 0 ls).filter (fun q => !(q.1 == k) && !(q.1 + 1 == k && q.2.category == 2)))) : lv_has A n (lvl E 0 (ls.set k (some v))) := by
  refine lv_mono h fun q hq => ?_
  obtain ⟨i, w, h1, rfl⟩ := (lvl_mem _ 0 _).mp hq
  rw [Nat.zero_add]
  by_cases hi : i = k
  · subst hi
    have hl : i < (ls.set i (some v)).length := (List.getElem?_eq_some_iff.mp h1).1
    rw [List.length_set] at hl
    rw [List.getElem?_set_self hl] at h1
    have : v = w := by simpa using h1
    rw [this]
    exact List.mem_cons_self
  · rw [List.getElem?_set_ne (Ne.symm hi)] at h1
    refine List.mem_cons_of_mem _ (List.mem_filter.mpr ⟨(lvl_mem _ 0 _).mpr ⟨i, w, h1, by rw [Nat.zero_add]⟩, ?_⟩)
    have hc := tv_cat hB w
    simp [hi, hc]
theorem lvl_mask {E : En} {ls : Ls} {A : Array Slot} {n : Nat} (live : List Nat) (h : lv_has A n (lvl E 0 ls)) : lv_has A n (lvl E 0 (mask live ls)) := by
  refine lv_mono h fun q hq => ?_
  obtain ⟨i, w, h1, rfl⟩ := (lvl_mem _ 0 _).mp hq
  refine (lvl_mem _ 0 _).mpr ⟨i, w, ?_, rfl⟩
  unfold mask at h1
  rw [List.getElem?_map, List.getElem?_zipIdx] at h1
  cases hx : ls[i]? with
  | none => rw [hx] at h1; simp at h1
  | some x =>
    rw [hx] at h1
    simp only [Option.map_some, Nat.zero_add, Option.some.injEq] at h1
    cases hc : live.contains i <;> rw [hc] at h1
    · cases h1
    · rw [← h1]; rfl
theorem pco_eq {r : MR} {i : Nat} {it : It} (h : (r_c r)[i]? = some it) : pco r i = it.1 := by unfold pco; rw [h]
theorem okG_eq {r : MR} {i p : Nat} (h : okG (r_c r) i p = true) : pco r i = p := by
  unfold okG at h; unfold pco
  split at h <;> rename_i hx <;> rw [hx]
  · exact Nat.eq_of_beq_eq_true h
  · cases h
theorem okO_eq {r : MR} {i : Nat} {p : Int} (h : okO (r_c r) i p = true) : (pco r i : Int) = p := by
  unfold okO at h; unfold pco
  split at h <;> rename_i hx <;> rw [hx]
  · exact of_decide_eq_true h
  · cases h
theorem bip_eq {n : Int} (h1 : -128 ≤ n) (h2 : n < 128) : (Int8.ofInt n).toInt32 = Int32.ofInt n := by
  apply Int32.toInt_inj.mp
  rw [Int8.toInt_toInt32, ofI_toInt (by unfold inR; omega), Int8.toInt_ofInt]
  unfold Int.bmod
  show (if n % 256 < (256 + 1) / 2 then n % 256 else n % 256 - 256) = _
  omega
theorem sip_eq {n : Int} (h1 : -32768 ≤ n) (h2 : n < 32768) : (Int16.ofInt n).toInt32 = Int32.ofInt n := by
  apply Int32.toInt_inj.mp
  rw [Int16.toInt_toInt32, ofI_toInt (by unfold inR; omega), Int16.toInt_ofInt]
  unfold Int.bmod
  show (if n % 65536 < (65536 + 1) / 2 then n % 65536 else n % 65536 - 65536) = _
  omega
theorem lay_g {C : String} {T : u_T} {N : Nat} (h : ∀ w ∈ u_ws C T N, w ∈ lw_tbl) : ∀ w ∈ u_ws C T N, w ∈ lw_g := by
  intro w hw
  refine mem_g (h w hw) ?_
  obtain ⟨k, -, rfl⟩ := List.mem_map.mp hw
  unfold u_lay
  split <;> rfl
theorem cls_fields {ci : Nat} {C : String} {T : u_T} {N : Nat} (h : clsL[ci]? = some (C, T, N)) : (∀ w ∈ u_ws C T N, w ∈ lw_g) ∧ ∃ ty : Nat → FieldType, (∀ k, k < N → parseFieldDescriptor (T k).2.2.1 = some (ty k)) ∧ (∀ a, a < N → ∀ b, b < N → a ≠ b → (T a).2.1 ≠ (T b).2.1) := by
  match ci, h with
  | 0, h => cases h; exact ⟨lay_g inqX0, _, tyX0_ok, nmX0⟩
  | 1, h => cases h; exact ⟨lay_g inqX1, _, tyX1_ok, nmX1⟩
  | 2, h => cases h; exact ⟨lay_g inqX2, _, tyX2_ok, nmX2⟩
  | 3, h => cases h; exact ⟨lay_g inqX3, _, tyX3_ok, nmX3⟩
  | 4, h => cases h; exact ⟨lay_g inqX4, _, tyX4_ok, nmX4⟩
  | 5, h => cases h; exact ⟨lay_g inqX5, _, tyX5_ok, nmX5⟩
  | 6, h => cases h; exact ⟨lay_g inqX6, _, tyX6_ok, nmX6⟩
  | 7, h => cases h; exact ⟨lay_g inqX7, _, tyX7_ok, nmX7⟩
  | 8, h => cases h; exact ⟨lay_g inqX8, _, tyX8_ok, nmX8⟩
  | 9, h => cases h; exact ⟨lay_g inqX9, _, tyX9_ok, nmX9⟩
  | 10, h => cases h; exact ⟨lay_g inqX10, _, tyX10_ok, nmX10⟩
  | 11, h => cases h; exact ⟨lay_g inqX11, _, tyX11_ok, nmX11⟩
  | 12, h => cases h; exact ⟨lay_g inqX12, _, tyX12_ok, nmX12⟩
  | n + 13, h => simp [clsL] at h
theorem fk_all : ((List.range 13).all fun ci => match clsL[ci]? with
  | some (_, T, N) => (List.range N).all fun k => match fk ci k with
    | 0 => decide (parseFieldDescriptor (T k).2.2.1 = some .int)
    | 1 => decide (parseFieldDescriptor (T k).2.2.1 = some .boolean)
    | 2 => decide (parseFieldDescriptor (T k).2.2.1 = some (.object "DevilsFount$Standing"))
    | _ => true
  | none => false) = true := by decide +kernel
