theorem mem_tb {p : Nat} {c : Cond} (h : tbA p c = true) : c ∈ lw_tbl := by
  have k1 : ∀ {l : List Cond} {q : Nat}, chk q l c = true → c ∈ l := fun h => List.mem_of_getElem? (of_decide_eq_true h)
  have k2 : ∀ {l : List (MethodName × Nat)} {q : Nat}, chs q l c = true → c ∈ k2_sels l := by
    intro l q h
    have h2 := of_decide_eq_true h
    rw [Option.map_eq_some_iff] at h2
    obtain ⟨a, h3, h4⟩ := h2
    exact List.mem_map.mpr ⟨a, List.mem_of_getElem? h3, h4⟩
  have kk : ∀ a b : List (MethodName × Nat), k2_sels (a ++ b) = k2_sels a ++ k2_sels b := fun a b => List.map_append
  show c ∈ k2_sels lw_privs ++ tables_1
  unfold tables_1 lw_privs
  simp only [kk, List.mem_append]
  unfold tbA at h
  split at h <;> first | (have h9 := k1 h; simp only [h9, true_or, or_true]; done) | (have h9 := k2 h; simp only [h9, true_or, or_true]; done) | cases h
def sKL : List (String × Nat × String) := [("DevilsFount$Law", 48, "sets breaks dares when or and not length least rest daring said done waits blanks day "), ("DevilsFount$Reader", 77, ";+-*/()<=>"), ("DevilsFount$Words", 31, "from "), ("DevilsFount$Words", 33, "word "), ("DevilsFount$Changes", 34, "on cast melt dare calm ")]
def Afn (E : En) : Nat → Prop := fun q => ∃ o, o < NO ∧ q = e_r E o
def byL : List (List Int32) := strL.map fun l => l.map Int32.ofNat
def leL : List Nat := strL.map List.length
def tyL (E : En) : List (ClassId × FieldType) := [(e_I E, .int), (e_S E, .object "DevilsFount$Standing")]
def nfs (ci : Nat) : Nat := match clsL[ci]? with
  | some (_, _, n) => n
  | none => 0
def elm (E : En) (μ : Mm) (o : Nat) : va_E :=
  if cls o = 100 then .inl (e_I E, aln o, .inl (fun i => Int32.ofInt (μ o i)))
  else if cls o = 101 then .inl (e_S E, aln o, .inr (.inr (.inr (.inr (fun i => some (e_r E (o + 1 + 3 * i)))))))
  else .inr (cls o, (List.range (nfs (cls o))).map fun k => tv E (fv μ o (cls o) k))
def wsM (E : En) (μ : Mm) : va_W := (List.range NO).map fun o => (e_r E o, elm E μ o)
def Bg (E : En) (s : State) : Prop :=
  va_K (e_D E) clsL (tyL E) s ∧ va_D (Afn E) (wsM E (fun _ _ => 0)) ∧ vk_S 5 leL byL (fun i => e_r E (1000 + i)) (fun i => e_r E (1100 + i)) (Afn E) s s.heap ∧
  (∀ (i : Nat) (q : String × Nat × String), sKL[i]? = some q → vk_R q.1 q.2.1 q.2.2 (e_r E (1000 + i)) s) ∧
  va_Z "java/lang/String" "COMPACT_STRINGS" "Z" (.int 1) (Afn E) s s.heap ∧
  va_Z "jdk/internal/util/Preconditions" "SIOOBE_FORMATTER" "Ljava/util/function/BiFunction;" (e_v E) (Afn E) s s.heap ∧ (e_v E = .null ∨ ∃ a, e_v E = .ref a) ∧
  (∀ (o : String) (k : Nat) (y : MethodName), Cond.methodLinkNest o k y "DevilsFount" ∈ lw_tbl → va_Nw (.methodLinkNest o k y "DevilsFount") s) ∧
  va_X (e_r E 2000) (e_L E) (e_x E) s s.heap ∧ e_r E 2000 < s.heap.size ∧ ¬ Afn E (e_r E 2000) ∧ e_L E ≤ 3072
theorem Bg.moved {E : En} {s U : State} {H : Heap} {locs : List Loc} (h : Bg E s) (hW : s.WarmedH U.vm) (hS : va_S (Afn E) s.heap H locs) (hU : U.heap = H) : Bg E U := by
  obtain ⟨h1, h2, h3, h4, h5, h6, h7, h8, h9, h10, h11, h12⟩ := h
  have hk : ∀ a : Nat, a < s.heap.size → ¬ Afn E a → U.heap[a]? = s.heap[a]? := by rw [hU]; exact hS.2.1
  exact ⟨va_K.moved hW.alike h1, h2, (h3.moved hW.alike).kept hk, fun i q hq => vk_R.warm hW (h4 i q hq), (h5.moved hW.alike).kept hk, (h6.moved hW.alike).kept hk, h7, fun o k y hy => va_Nw.warmM hW (h8 o k y hy), (h9.moved hW.alike).kept (hk _ h10 h11), by rw [hU]; exact Nat.lt_of_lt_of_le h10 hS.1, h11, h12⟩
theorem Bg.blind {E : En} {U : State} (h : Bg E U) (g : JFrame) (mk : MethodId) (a : Array Value) : Bg E (U.calling g mk a) := by
  obtain ⟨h1, h2, h3, h4, h5, h6, h7, h8, h9, h10, h11, h12⟩ := h
  exact ⟨va_K.moved (u := U) (U := U.calling g mk a) (Vm.Alike.refl U.vm) h1, h2, vk_S.moved (u := U) (U := U.calling g mk a) (Vm.Alike.refl U.vm) h3, fun i q hq => vk_R.same (u := U) (U := U.calling g mk a) rfl (h4 i q hq), va_Z.moved (u := U) (U := U.calling g mk a) (Vm.Alike.refl U.vm) h5, va_Z.moved (u := U) (U := U.calling g mk a) (Vm.Alike.refl U.vm) h6, h7, fun o k y hy => va_Nw.same (u := U) (U := U.calling g mk a) rfl rfl (h8 o k y hy), va_X.moved (u := U) (U := U.calling g mk a) (Vm.Alike.refl U.vm) h9, h10, h11, h12⟩
theorem ws_get {E : En} {μ : Mm} {o : Nat} (h : o < NO) : (wsM E μ)[o]? = some (e_r E o, elm E μ o) := by
  unfold wsM
  rw [List.getElem?_map, List.getElem?_range h]
  rfl
theorem ws_inv {E : En} {μ : Mm} {o : Nat} {q : Nat × va_E} (h : (wsM E μ)[o]? = some q) : o < NO ∧ q = (e_r E o, elm E μ o) := by
  have h1 : o < NO := by
    have := (List.getElem?_eq_some_iff.mp h).1
    simpa [wsM] using this
  rw [ws_get h1] at h
  exact ⟨h1, (Option.some.inj h).symm⟩
/-- the addresses are apart whatever memory holds -/
theorem ws_D {E : En} {μ : Mm} {s : State} (h : Bg E s) : va_D (Afn E) (wsM E μ) := by
  have hD := h.2.1
  refine ⟨fun i j p q hi hj hpq => ?_, fun k q hk => ?_⟩
  · obtain ⟨a1, rfl⟩ := ws_inv hi
    obtain ⟨b1, rfl⟩ := ws_inv hj
    exact hD.1 i j _ _ (ws_get a1) (ws_get b1) hpq
  · obtain ⟨a1, rfl⟩ := ws_inv hk
    exact ⟨k, a1, rfl⟩
/-- one cell written: the memory with that place written -/
theorem ws_set {E : En} {μ μ' : Mm} {o : Nat} {e : va_E} (h : o < NO) (he : elm E μ' o = e) (hne : ∀ a, a ≠ o → elm E μ' a = elm E μ a) : (wsM E μ).set o (e_r E o, e) = wsM E μ' := by
  apply List.ext_getElem?
  intro k
  by_cases hk : k = o
  · subst hk
    rw [List.getElem?_set_self (by simpa [wsM] using h), ws_get h, he]
  · rw [List.getElem?_set_ne (Ne.symm hk)]
    by_cases hl : k < NO
    · rw [ws_get hl, ws_get hl, hne k hk]
    · rw [List.getElem?_eq_none (by simpa [wsM] using hl), List.getElem?_eq_none (by simpa [wsM] using hl)]
theorem fv_ne {μ : Mm} {o a ci k : Nat} {i v : Int} (h : a ≠ o) : fv (mu μ o i v) a ci k = fv μ a ci k := by
  unfold fv
  have e : ∀ x : Int, mu μ o i v a x = μ a x := fun x => by simp [mu, h]
  split <;> simp only [e]
theorem elm_ne {E : En} {μ : Mm} {o a : Nat} {i v : Int} (h : a ≠ o) : elm E (mu μ o i v) a = elm E μ a := by
  have e : ∀ x : Int, mu μ o i v a x = μ a x := fun x => by simp [mu, h]
  unfold elm
  split
  · simp only [e]
  · split
    · rfl
    · simp only [fv_ne h]
theorem elm_neC {E : En} {μ : Mm} {s t a : Nat} {p q n : Int} (h : a ≠ t) (ht : cls a = 100 ∨ cls a ≠ 100) : elm E (mcp μ s p t q n) a = elm E μ a := by
  have e : ∀ x : Int, mcp μ s p t q n a x = μ a x := fun x => by simp [mcp, h]
  have e2 : ∀ k ci, fv (mcp μ s p t q n) a ci k = fv μ a ci k := by
    intro k ci
    unfold fv
    split <;> simp only [e]
  unfold elm
  split
  · simp only [e]
  · split
    · rfl
    · simp only [e2]
theorem cls_lt {o ci : Nat} (h : cls o = ci) (hc : ci < 200) : o < NO := by
  rcases Nat.lt_or_ge o NO with h1 | h1
  · exact h1
  · exfalso
    have : cls o = 200 := by
      unfold cls
      rw [List.getD_eq_getElem?_getD, List.getElem?_eq_none (show shpL.length ≤ o from h1)]
      rfl
    omega
theorem tv_ref {E : En} {o : Nat} (h : o < 3000) : tv E (.inr o) = .ref (e_r E o) := by
  show (if o = 3000 then e_v E else .ref (e_r E o)) = _
  rw [if_neg (by omega)]
