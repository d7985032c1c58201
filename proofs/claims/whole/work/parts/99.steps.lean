/-! step by step, call by call -/
def CG (E : En) (r : MR) (R : Room) (b0 t0 : Nat) (QQ : State → Array Value → List Frame → State → Prop) (i : Nat) (ls : Ls) (st : List AV) (w : CW) : Prop :=
  ∀ (p : Program) (e : Env) (s : State) (m : MethodId) (args : Array Value) (below : List Frame) (meth : Method) (c : Code), Cx E r p s m args meth c → ((r_y r).name = "<init>" → meth.name = "<init>") → va_AO "DevilsFount$Standing" s → s.heap.size = e_r E 0 + b0 →
    ∀ (H : Heap) (locs : List Loc) (lsA : Array Slot) (cells slots : Nat), b0 + cells = w.length → t0 + slots = csl w → va_P (e_D E) clsL (cws E w) H → va_S (AN E) s.heap H locs → lv_has lsA (r_n r) (lvl E 0 ls) →
      W p (e_l E) e R s m args below meth c H locs cells slots (QQ s args below) (F0 m (pco r i) lsA (st.map (tv E)))
theorem cond_some {α : Type} {b : Bool} {x y : α} (h : cond b (some x) none = some y) : b = true ∧ x = y := by
  cases b
  · cases h
  · exact ⟨rfl, Option.some.inj h⟩
theorem tup {A B C D : Type} {a a' : A} {b b' : B} {c c' : C} {d d' : D} (h : (a, b, c, d) = (a', b', c', d')) : a = a' ∧ b = b' ∧ c = c' ∧ d = d' := by
  cases h
  exact ⟨rfl, rfl, rfl, rfl⟩
section S82
variable {E : En} {r : MR} {i i' : Nat} {it : It} {ls ls' : Ls} {st st' : List AV} {w w' : CW}
theorem blt_l {a b : Nat} (h : Nat.blt a b = true) : a < b := Nat.le_of_ble_eq_true h
theorem set_nop {o : Nat} {c c0 : CE} (h : w[o]? = some c0) (hz : csz c = csz c0) (hw : w.length ≤ NO) : w.length ≤ (w.set o c).length ∧ csl w ≤ csl (w.set o c) ∧ (w.set o c).length ≤ NO := by
  rw [List.length_set, csl_set w o h hz]
  exact ⟨Nat.le_refl _, Nat.le_refl _, hw⟩
theorem cs1_W (hE : EA E) (hit : (r_c r)[i]? = some it) (ok : okKI r i it = true) (h : cs1 it i ls st w = some (i', ls', st', w')) (hw : w.length ≤ NO) : (w.length ≤ w'.length ∧ csl w ≤ csl w' ∧ w'.length ≤ NO) ∧ ∀ {R : Room} {b0 t0 : Nat} {QQ : State → Array Value → List Frame → State → Prop}, w'.length ≤ b0 + R.cells → csl w' ≤ t0 + R.slots → CG E r R b0 t0 QQ i' ls' st' w' → CG E r R b0 t0 QQ i ls st w := by
  obtain ⟨pc, ins, len, a, b, c1, e1, sw⟩ := it
  unfold okKI at ok
  rw [Bool.and_eq_true] at ok
  obtain ⟨hdg, ok⟩ := ok
  replace hdg : decode (r_b r) pc = .ok (ins, len) := of_decide_eq_true hdg
  replace ok : cond (isSp ins) (okSp r i (pc, ins, len, a, b, c1, e1, sw)) (okG (r_c r) (i + 1) (pc + len) && Nat.beq len (lenO (r_n r) ins) && Nat.blt len 99) = true := ok
  have nop : w.length ≤ w.length ∧ csl w ≤ csl w ∧ w.length ≤ NO := ⟨Nat.le_refl _, Nat.le_refl _, hw⟩
  have hNO : NO = 158 := rfl
  unfold cs1 at h
  dsimp only at h
  split at h
  · -- goto
    rename_i o
    obtain ⟨rfl, rfl, rfl, rfl⟩ := tup (Option.some.inj h)
    replace ok : (okO (r_c r) a (pc + o) && Nat.beq len 3) = true := ok
    rw [Bool.and_eq_true] at ok
    have e3 := Nat.eq_of_beq_eq_true ok.2
    subst e3
    refine ⟨nop, fun _ _ K => ?_⟩
    intro p e s m args below meth c C hnm hO hs H locs lsA cells slots hc hsl hP hS hl
    rw [pco_eq hit]
    exact lv_goto C.1 C.2.1 hdg (okO_eq ok.1).symm (K p e s m args below meth c C hnm hO hs H locs lsA cells slots hc hsl hP hS hl)
  · -- if_icmp
    rename_i cn o y x st1
    obtain ⟨rfl, rfl, rfl, rfl⟩ := tup (Option.some.inj h)
    replace ok : (okO (r_c r) a (pc + o) && okG (r_c r) (i + 1) (pc + 3) && Nat.beq len 3) = true := ok
    rw [Bool.and_eq_true, Bool.and_eq_true] at ok
    have e3 := Nat.eq_of_beq_eq_true ok.2
    subst e3
    refine ⟨nop, fun _ _ K => ?_⟩
    intro p e s m args below meth c C hnm hO hs H locs lsA cells slots hc hsl hP hS hl
    rw [pco_eq hit]
    refine W_icmp C hdg (okO_eq ok.1.1) (fun q => ?_) (fun q => ?_)
    · have := K p e s m args below meth c C hnm hO hs H locs lsA cells slots hc hsl hP hS hl
      rw [cmpB_i.mpr q] at this
      exact this
    · have := K p e s m args below meth c C hnm hO hs H locs lsA cells slots hc hsl hP hS hl
      have e4 : cmpB cn (w32 x) (w32 y) = false := by
        cases hb : cmpB cn (w32 x) (w32 y) with
        | true => exact absurd (cmpB_i.mp hb) q
        | false => rfl
      rw [e4] at this
      have e5 := okG_eq ok.1.2
      rw [show (cond false a (i + 1)) = i + 1 from rfl, e5] at this
      exact this
  · -- new
    rename_i k
    obtain ⟨hb, he⟩ := cond_some h
    obtain ⟨rfl, rfl, rfl, rfl⟩ := tup he
    replace hb := blt_l hb
    replace ok : (okG (r_c r) (i + 1) (pc + 3) && Nat.beq len 3 && (match clsL[a]? with
      | some (C, _, N) => tbA b (.classLink (r_own r) k C) && tbA c1 (.instantiable C N) && tbA e1 (.initialized C)
      | none => false)) = true := ok
    rw [Bool.and_eq_true, Bool.and_eq_true] at ok
    have e3 := Nat.eq_of_beq_eq_true ok.1.2
    subst e3
    have ez : csz (bornO a) = nfs a := rfl
    refine ⟨⟨by simp, by rw [csl_app]; omega, by simp; omega⟩, fun h1 h2 K => ?_⟩
    rw [List.length_append] at h1
    rw [csl_app, ez] at h2
    replace h1 : w.length + 1 ≤ _ := h1
    intro p e s m args below meth c C hnm hO hs H locs lsA cells slots hc hsl hP hS hl
    rw [pco_eq hit]
    refine C_new C hE hP hS hb ok.2 hs hc (by omega) (by omega) hdg (fun H1 g1 g2 => ?_)
    rw [← okG_eq ok.1.1]
    exact K p e s m args below meth c C hnm hO hs H1 locs lsA _ _ (by rw [List.length_append]; show _ = w.length + 1; omega) (by rw [csl_app, ez]; omega) g1 g2 hl
  · -- newarray
    rename_i t z st1
    obtain ⟨hb, he⟩ := cond_some h
    obtain ⟨rfl, rfl, rfl, rfl⟩ := tup he
    rw [Bool.and_eq_true, Bool.and_eq_true, decide_eq_true_iff, decide_eq_true_iff] at hb
    obtain ⟨⟨hb, z0⟩, z1⟩ := hb
    replace hb := blt_l hb
    replace ok : (okG (r_c r) (i + 1) (pc + 2) && Nat.beq len 2 && decide (newarray.typeOf t = .int) && tbA a (.arrayClass .int)) = true := ok
    rw [Bool.and_eq_true, Bool.and_eq_true, Bool.and_eq_true, decide_eq_true_iff] at ok
    have e3 := Nat.eq_of_beq_eq_true ok.1.1.2
    subst e3
    have ez : csz (.inl (z.toNat, [])) = z.toNat := rfl
    refine ⟨⟨by simp, by rw [csl_app]; omega, by simp; omega⟩, fun h1 h2 K => ?_⟩
    rw [List.length_append] at h1
    rw [csl_app, ez] at h2
    replace h1 : w.length + 1 ≤ _ := h1
    intro p e s m args below meth c C hnm hO hs H locs lsA cells slots hc hsl hP hS hl
    rw [pco_eq hit]
    refine C_newa C hE hP hS hb ok.1.2 ok.2 z0 z1 hs hc (by omega) (by omega) hdg (fun H1 g1 g2 => ?_)
    rw [← okG_eq ok.1.1.1]
    exact K p e s m args below meth c C hnm hO hs H1 locs lsA _ _ (by rw [List.length_append]; show _ = w.length + 1; omega) (by rw [csl_app, ez]; omega) g1 g2 hl
  · -- anewarray
    rename_i k z st1
    obtain ⟨hb, he⟩ := cond_some h
    obtain ⟨rfl, rfl, rfl, rfl⟩ := tup he
    rw [Bool.and_eq_true, Bool.and_eq_true, decide_eq_true_iff, decide_eq_true_iff] at hb
    obtain ⟨⟨hb, z0⟩, z1⟩ := hb
    replace hb := blt_l hb
    replace ok : (okG (r_c r) (i + 1) (pc + 3) && Nat.beq len 3 && tbA a (.classLink (r_own r) k "DevilsFount$Standing")) = true := ok
    rw [Bool.and_eq_true, Bool.and_eq_true] at ok
    have e3 := Nat.eq_of_beq_eq_true ok.1.2
    subst e3
    have ez : csz (.inr (.inl (z.toNat, []))) = z.toNat := rfl
    refine ⟨⟨by simp, by rw [csl_app]; omega, by simp; omega⟩, fun h1 h2 K => ?_⟩
    rw [List.length_append] at h1
    rw [csl_app, ez] at h2
    replace h1 : w.length + 1 ≤ _ := h1
    intro p e s m args below meth c C hnm hO hs H locs lsA cells slots hc hsl hP hS hl
    rw [pco_eq hit]
    refine C_newq C hO hE hP hS hb ok.2 z0 z1 hs hc (by omega) (by omega) hdg (fun H1 g1 g2 => ?_)
    rw [← okG_eq ok.1.1]
    exact K p e s m args below meth c C hnm hO hs H1 locs lsA _ _ (by rw [List.length_append]; show _ = w.length + 1; omega) (by rw [csl_app, ez]; omega) g1 g2 hl
  · -- iastore
    rename_i v x o st1
    split at h
    · rename_i n l1 ho
      obtain ⟨hb, he⟩ := cond_some h
      obtain ⟨rfl, rfl, rfl, rfl⟩ := tup he
      rw [Bool.and_eq_true, Bool.and_eq_true, Bool.and_eq_true, decide_eq_true_iff, decide_eq_true_iff] at hb
      obtain ⟨⟨⟨x0, x1⟩, n1⟩, o1⟩ := hb
      replace ok : (okG (r_c r) (i + 1) (pc + 1) && Nat.beq len 1) = true := ok
      rw [Bool.and_eq_true] at ok
      have e3 := Nat.eq_of_beq_eq_true ok.2
      subst e3
      refine ⟨set_nop ho rfl hw, fun h1 h2 K => ?_⟩
      intro p e s m args below meth c C hnm hO hs H locs lsA cells slots hc hsl hP hS hl
      rw [pco_eq hit]
      refine C_ist C hE hP hS hw ho x0 x1 (blt_l n1) (blt_l o1) hdg (fun H1 locs1 g1 g2 => ?_)
      rw [← okG_eq ok.1]
      exact K p e s m args below meth c C hnm hO hs H1 locs1 lsA _ _ (by rw [List.length_set]; exact hc) (by rw [csl_set w o ho (by rfl)]; exact hsl) g1 g2 hl
    · cases h
  · -- aastore
    rename_i v x o st1
    split at h
    · rename_i n l1 ci fs ho hv
      obtain ⟨hb, he⟩ := cond_some h
      obtain ⟨rfl, rfl, rfl, rfl⟩ := tup he
      rw [Bool.and_eq_true, Bool.and_eq_true, Bool.and_eq_true, Bool.and_eq_true, Bool.and_eq_true, decide_eq_true_iff, decide_eq_true_iff] at hb
      obtain ⟨⟨⟨⟨⟨x0, x1⟩, n1⟩, c9⟩, o1⟩, v1⟩ := hb
      replace c9 := Nat.eq_of_beq_eq_true c9
      subst c9
      replace ok : (okG (r_c r) (i + 1) (pc + 1) && Nat.beq len 1) = true := ok
      rw [Bool.and_eq_true] at ok
      have e3 := Nat.eq_of_beq_eq_true ok.2
      subst e3
      refine ⟨set_nop ho rfl hw, fun h1 h2 K => ?_⟩
      intro p e s m args below meth c C hnm hO hs H locs lsA cells slots hc hsl hP hS hl
      rw [pco_eq hit]
      refine C_ast C hE hP hS hw ho hv x0 x1 (blt_l n1) (blt_l o1) (blt_l v1) hdg (fun H1 locs1 g1 g2 => ?_)
      rw [← okG_eq ok.1]
      exact K p e s m args below meth c C hnm hO hs H1 locs1 lsA _ _ (by rw [List.length_set]; exact hc) (by rw [csl_set w o ho (by rfl)]; exact hsl) g1 g2 hl
    · cases h
  · -- putfield
    rename_i k v o st1
    split at h
    · rename_i ci fs ho
      obtain ⟨hb, he⟩ := cond_some h
      obtain ⟨rfl, rfl, rfl, rfl⟩ := tup he
      rw [Bool.and_eq_true, Bool.and_eq_true, Bool.and_eq_true] at hb
      obtain ⟨⟨⟨ca, bl⟩, ft⟩, o1⟩ := hb
      replace ca := Nat.eq_of_beq_eq_true ca
      subst ca
      replace ok : (okG (r_c r) (i + 1) (pc + 3) && Nat.beq len 3 && fldO (r_own r) k ci b c1 && (match clsL[ci]? with
        | some (_, T, _) => !(T b).2.2.2 || (decide ((T b).1 = r_own r) && decide ((r_y r).name = "<init>"))
        | none => false)) = true := ok
      rw [Bool.and_eq_true, Bool.and_eq_true, Bool.and_eq_true] at ok
      have e3 := Nat.eq_of_beq_eq_true ok.1.1.2
      subst e3
      refine ⟨set_nop ho rfl hw, fun h1 h2 K => ?_⟩
      intro p e s m args below meth c C hnm hO hs H locs lsA cells slots hc hsl hP hS hl
      rw [pco_eq hit]
      refine C_put C hnm hE hP hS hw ho (blt_l bl) ft (blt_l o1) ok.1.2 ok.2 hdg (fun H1 locs1 g1 g2 => ?_)
      rw [← okG_eq ok.1.1.1]
      exact K p e s m args below meth c C hnm hO hs H1 locs1 lsA _ _ (by rw [List.length_set]; exact hc) (by rw [csl_set w o ho (by rfl)]; exact hsl) g1 g2 hl
    · cases h
  · -- getfield
    rename_i k o st1
    split at h
    · rename_i ci fs ho
      split at h
      · rename_i v hv
        obtain ⟨hb, he⟩ := cond_some h
        obtain ⟨rfl, rfl, rfl, rfl⟩ := tup he
        rw [Bool.and_eq_true] at hb
        have ca := Nat.eq_of_beq_eq_true hb.1
        subst ca
        replace ok : (okG (r_c r) (i + 1) (pc + 3) && Nat.beq len 3 && fldO (r_own r) k ci b c1) = true := ok
        rw [Bool.and_eq_true, Bool.and_eq_true] at ok
        have e3 := Nat.eq_of_beq_eq_true ok.1.2
        subst e3
        refine ⟨nop, fun h1 h2 K => ?_⟩
        intro p e s m args below meth c C hnm hO hs H locs lsA cells slots hc hsl hP hS hl
        rw [pco_eq hit]
        refine C_get C hP ho hv (blt_l hb.2) ok.2 hdg ?_
        rw [← okG_eq ok.1.1]
        exact K p e s m args below meth c C hnm hO hs H locs lsA _ _ hc hsl hP hS hl
      · cases h
    · cases h
  · -- the rest
    cases hsp : isSp ins with
    | true => rw [hsp] at h; cases h
    | false =>
      rw [hsp] at h
      rw [hsp] at ok
      replace ok : (okG (r_c r) (i + 1) (pc + len) && Nat.beq len (lenO (r_n r) ins) && Nat.blt len 99) = true := ok
      rw [Bool.and_eq_true, Bool.and_eq_true] at ok
      have hlen := Nat.eq_of_beq_eq_true ok.1.2
      have h99 := blt_l ok.2
      rw [cond_false] at h
      split at h
      · rename_i st2 hp
        obtain ⟨rfl, rfl, rfl, rfl⟩ := tup (Option.some.inj h)
        refine ⟨nop, fun h1 h2 K => ?_⟩
        intro p e s m args below meth c C hnm hO hs H locs lsA cells slots hc hsl hP hS hl
        rw [pco_eq hit]
        refine pur_W C hdg hlen h99 hp ?_
        rw [← okG_eq ok.1.1]
        exact K p e s m args below meth c C hnm hO hs H locs lsA _ _ hc hsl hP hS hl
      · split at h
        · rename_i ls2 st2 hp
          obtain ⟨rfl, rfl, rfl, rfl⟩ := tup (Option.some.inj h)
          refine ⟨nop, fun h1 h2 K => ?_⟩
          intro p e s m args below meth c C hnm hO hs H locs lsA cells slots hc hsl hP hS hl
          rw [pco_eq hit]
          refine loc_W C hdg hlen h99 hl hp (fun lsB hlB => ?_)
          rw [← okG_eq ok.1.1]
          exact K p e s m args below meth c C hnm hO hs H locs lsB _ _ hc hsl hP hS hlB
        · cases h
end S82
