/-! a day as a function: how things stand, boxes, tray, what breaks -/
abbrev Dy : Type := (Int → Int) × (Int → Int) × (Int → Int) × (Int → Int)
/-- what is told: law; jobs; book; changes -/
abbrev Kt : Type := (Int × (Int → Int → Int) × Cd) × (Int × (Int → Int) × (Int → Int → Int) × (Int → Int)) × (Int × (Int → Int) × (Int → Int → Int)) × (Int × (Int → Int → Int))
def kn (K : Kt) : Int := K.1.1
def kD (K : Kt) : Int → Int → Int := K.1.2.1
def kl (K : Kt) : Cd := K.1.2.2
def jc (K : Kt) : Int := K.2.1.1
def jL (K : Kt) : Int → Int := K.2.1.2.1
def jX (K : Kt) : Int → Int → Int := K.2.1.2.2.1
def jd (K : Kt) : Int → Int := K.2.1.2.2.2
def bc (K : Kt) : Int := K.2.2.1.1
def bL (K : Kt) : Int → Int := K.2.2.1.2.1
def bX (K : Kt) : Int → Int → Int := K.2.2.1.2.2
def cc (K : Kt) : Int := K.2.2.2.1
def cC (K : Kt) : Int → Int → Int := K.2.2.2.2
def wok (c : Int) (L : Int → Int) (X : Int → Int → Int) : Prop := 0 ≤ c ∧ c ≤ 16 ∧ (∀ i, 0 ≤ i → i < c → 1 ≤ L i ∧ L i ≤ 8) ∧ ∀ i k, 0 ≤ i → i < c → 0 ≤ k → k < L i → 0 ≤ X i k ∧ X i k ≤ 9
def KOK (K : Kt) : Prop := LOK (kn K) (kD K) (kl K) ∧ wok (jc K) (jL K) (jX K) ∧ (∀ i, 0 ≤ i → i < jc K → 0 ≤ jd K i ∧ jd K i ≤ 999) ∧ wok (bc K) (bL K) (bX K) ∧ 0 ≤ cc K ∧ cc K ≤ 16 ∧ ∀ i, 0 ≤ i → i < cc K → (0 ≤ cC K 0 i ∧ cC K 0 i ≤ 999) ∧ (0 ≤ cC K 1 i ∧ cC K 1 i ≤ 3) ∧ (0 ≤ cC K 2 i ∧ cC K 2 i ≤ 9) ∧ (0 ≤ cC K 3 i ∧ cC K 3 i ≤ 50) ∧ (2 ≤ cC K 1 i → cC K 3 i ≤ 9)
def KW (μ : Mm) (K : Kt) : Prop := LW μ 28 (kn K) (kD K) (kl K) ∧ WW μ 36 (jc K) (jL K) (jX K) ∧ (∀ i, 0 ≤ i → i < jc K → μ 37 i = jd K i) ∧ WW μ 40 (bc K) (bL K) (bX K) ∧ μ 44 0 = cc K ∧ ∀ i, 0 ≤ i → i < cc K → μ 45 i = cC K 0 i ∧ μ 46 i = cC K 1 i + 1 ∧ μ 47 i = cC K 2 i ∧ μ 48 i = cC K 3 i
def KM (μ : Mm) (K : Kt) : Prop := LM μ (kn K) (kD K) (kl K) ∧ WM μ 31 0 (jc K) (jL K) (jX K) ∧ (∀ i, 0 ≤ i → i < jc K → μ 140 i = jd K i) ∧ WM μ 32 16 (bc K) (bL K) (bX K) ∧ μ 123 36 = cc K ∧ ∀ i, 0 ≤ i → i < cc K → μ 141 (4 * i) = cC K 0 i ∧ μ 141 (4 * i + 1) = cC K 1 i ∧ μ 141 (4 * i + 2) = cC K 2 i ∧ μ 141 (4 * i + 3) = cC K 3 i
/-- a line of the tray -/
def ntS (th : Int) (s : Int → Int) : Int → Int := if th ≠ 0 ∨ 150 ≤ s 2 then s else ud s 2 (s 2 + 1)
def ntT (th a b c : Int) (s t : Int → Int) : Int → Int := if th ≠ 0 ∨ 150 ≤ s 2 then t else ud (ud (ud (ud t (4 * s 2) (s 0)) (4 * s 2 + 1) a) (4 * s 2 + 2) b) (4 * s 2 + 3) c
def nt (th a b c : Int) (x : Dy) : Dy := (ntS th x.1, x.2.1, ntT th a b c x.1 x.2.2.1, x.2.2.2)
/-- whether it happens -/
def drw (s : Int → Int) : Int := iRem (iUsh (1664525 * s 1 + 1013904223) 8) 1000
def hpS (th a : Int) (s : Int → Int) : Int → Int := if th = 0 ∧ 0 < a then ud s 1 (1664525 * s 1 + 1013904223) else s
def hpZ (th a : Int) (s : Int → Int) : Int := if th = 0 then (if 0 < a ∧ drw s < a then 1 else 0) else if 500 ≤ a then 1 else 0
def hp (th a : Int) (x : Dy) : Dy := (hpS th a x.1, x.2)
noncomputable def tk (X : Int → Int → Int) (i : Int) (m : Nat) (x : Dy) : Dy := (x.1, fun z => x.2.1 z - oc X z i m, x.2.2)
noncomputable def fJ (K : Kt) (w i : Int) (x : Dy) : Int := lwt (kn K) (kD K) (kl K) (fcZ x.1 x.2.1 (jc K) (jL K i) (mnZ (jX K) i x.2.1 99 (jL K i).toNat)) w
noncomputable def fB (K : Kt) (i : Int) (x : Dy) : Int := lwt (kn K) (kD K) (kl K) (fcZ x.1 x.2.1 (jc K) (bL K i) (mnZ (bX K) i x.2.1 99 (bL K i).toNat)) 2
def pr (i : Int) (x : Dy) : Dy := (ud (ud x.1 7 (iOr (x.1 7) (iShl 1 i))) 5 (x.1 5 + 1), x.2)
noncomputable def sjY (K : Kt) (i : Int) (x : Dy) : Dy := pr i (tk (jX K) i (jL K i).toNat x)
noncomputable def sjB (K : Kt) (i : Int) (x : Dy) : Int := fJ K 1 i (sjY K i x)
def br1 (i b : Int) (y : Dy) : Dy := (y.1, y.2.1, y.2.2.1, ud y.2.2.2 i b)
noncomputable def stM (K : Kt) (th i : Int) (x : Dy) : Dy := nt th 0 i (sjB K i x) (sjY K i x)
noncomputable def stj (K : Kt) (th i : Int) (x : Dy) : Dy := br1 i (sjB K i x) (stM K th i x)
noncomputable def jst (K : Kt) (th i : Int) (q : Dy × Int) : Dy × Int :=
  if q.1.1 0 < jd K i ∨ iAnd (iShr (q.1.1 7) i) 1 = 1 then q
  else if 0 < lk (jX K) i (jL K i).toNat q.1.2.1 then (nt th 1 i (lk (jX K) i (jL K i).toNat q.1.2.1) q.1, q.2)
  else if hpZ th (fJ K 0 i q.1) q.1.1 = 0 then (hp th (fJ K 0 i q.1) q.1, q.2)
  else (stj K th i (hp th (fJ K 0 i q.1) q.1), iOr q.2 (iShl 1 i))
noncomputable def jsR (K : Kt) (th : Int) (q : Dy × Int) : Nat → Dy × Int
  | 0 => q
  | m + 1 => jst K th m (jsR K th q m)
def sd1 (x : Dy) : Dy := (ud x.1 4 (x.1 4 + 1), x.2)
noncomputable def dst (K : Kt) (th w : Int) (q : Dy × Int) : Dy × Int :=
  if 0 < lk (bX K) w (bL K w).toNat q.1.2.1 then q
  else if hpZ th (fB K w q.1) q.1.1 = 0 then (hp th (fB K w q.1) q.1, q.2)
  else (nt th 2 w (bL K w) (sd1 (tk (bX K) w (bL K w).toNat (hp th (fB K w q.1) q.1))), 1)
noncomputable def dsR (K : Kt) (th : Int) (q : Dy × Int) : Nat → Dy × Int
  | 0 => q
  | m + 1 => dst K th m (dsR K th q m)
def dfn (K : Kt) (th : Int) (q : Dy × Int) : Dy := if q.2 ≠ 0 ∨ bc K = 0 then q.1 else nt th 3 (-1) (q.1.1 6 + 1) (ud q.1.1 6 (q.1.1 6 + 1), q.1.2)
def bk1 (z b : Int) (s : Int → Int) : Int → Int := ud (ud s (8 + z) (s (8 + z) - min b (s (8 + z)))) (18 + z) (s (18 + z) + min b (s (8 + z)))
def bkW (X : Int → Int → Int) (i b : Int) (s : Int → Int) : Nat → Int → Int
  | 0 => s
  | m + 1 => bk1 (X i m) b (bkW X i b s m)
def bst (K : Kt) (S i : Int) (x : Dy) : Dy := if iAnd (iShr S i) 1 = 1 then (bkW (jX K) i (x.2.2.2 i) x.1 (jL K i).toNat, x.2) else x
def bsR (K : Kt) (S : Int) (x : Dy) : Nat → Dy
  | 0 => x
  | m + 1 => bst K S m (bsR K S x m)
def cg1 (k z a : Int) (s : Int → Int) : Int → Int := if k = 0 then ud s (8 + z) (min 99 (s (8 + z) + a)) else if k = 1 then ud s (8 + z) (max 0 (s (8 + z) - a)) else ud s 3 (a - 5)
def cst (K : Kt) (i : Int) (s : Int → Int) : Int → Int := if cC K 0 i = s 0 then cg1 (cC K 1 i) (cC K 2 i) (cC K 3 i) s else s
def csR (K : Kt) (s : Int → Int) : Nat → Int → Int
  | 0 => s
  | m + 1 => cst K m (csR K s m)
/-- the morning: changes, boxes; the jobs; the devil; the evening -/
def dy0 (K : Kt) (s t : Int → Int) : Dy := (csR K s (cc K).toNat, fun z => csR K s (cc K).toNat (8 + z), t, fun _ => 0)
noncomputable def dy1 (K : Kt) (th : Int) (s t : Int → Int) : Dy × Int := jsR K th (dy0 K s t, 0) (jc K).toNat
noncomputable def dy2 (K : Kt) (th : Int) (s t : Int → Int) : Dy := dfn K th (dsR K th ((dy1 K th s t).1, 0) (bc K).toNat)
noncomputable def dy3 (K : Kt) (th : Int) (s t : Int → Int) : Dy := bsR K (dy1 K th s t).2 (dy2 K th s t) (jc K).toNat
noncomputable def dyZ (K : Kt) (th : Int) (s t : Int → Int) : (Int → Int) × (Int → Int) := (ud (dy3 K th s t).1 0 ((dy3 K th s t).1 0 + 1), (dy3 K th s t).2.2.1)
/-! bounds -/
def DB (x : Dy) : Prop := StB x.1 ∧ (∀ z, 0 ≤ z → z < 10 → 0 ≤ x.2.1 z ∧ x.2.1 z ≤ 99) ∧ ∀ i, 0 ≤ i → i < 16 → 0 ≤ x.2.2.2 i ∧ x.2.2.2 i ≤ 1000
theorem ud_s (q : Int → Int) (i v : Int) : ud q i v i = v := if_pos rfl
theorem ud_n {q : Int → Int} {i v j : Int} (h : j ≠ i) : ud q i v j = q j := if_neg h
theorem stb_ud {s : Int → Int} {i v : Int} (h : StB s) (h0 : i = 0 → 0 ≤ v ∧ v ≤ 20000) (h2 : i = 2 → 0 ≤ v ∧ v ≤ 150) (h3 : i = 3 → -5 ≤ v ∧ v ≤ 4) (h7 : i = 7 → 0 ≤ v ∧ v < 65536) (h8 : 8 ≤ i → i < 18 → 0 ≤ v ∧ v ≤ 99) : StB (ud s i v) := by
  obtain ⟨a0, a2, a3, a7, a8⟩ := h
  refine ⟨?_, ?_, ?_, ?_, fun j j0 j1 => ?_⟩
  · unfold ud; split
    · exact h0 (by omega)
    · exact a0
  · unfold ud; split
    · exact h2 (by omega)
    · exact a2
  · unfold ud; split
    · exact h3 (by omega)
    · exact a3
  · unfold ud; split
    · exact h7 (by omega)
    · exact a7
  · unfold ud; split
    · exact h8 (by omega) (by omega)
    · exact a8 j j0 j1
theorem ntS_b {th : Int} {s : Int → Int} (h : StB s) : StB (ntS th s) := by
  unfold ntS
  split
  · exact h
  · rename_i k
    have := h.2.1
    exact stb_ud h (fun e => by omega) (fun _ => by omega) (fun e => by omega) (fun e => by omega) (fun e _ => by omega)
theorem hpS_b {th a : Int} {s : Int → Int} (h : StB s) : StB (hpS th a s) := by
  unfold hpS
  split
  · exact stb_ud h (fun e => by omega) (fun e => by omega) (fun e => by omega) (fun e => by omega) (fun e _ => by omega)
  · exact h
theorem nt_b {th a b c : Int} {x : Dy} (h : DB x) : DB (nt th a b c x) := ⟨ntS_b h.1, h.2⟩
theorem hp_b {th a : Int} {x : Dy} (h : DB x) : DB (hp th a x) := ⟨hpS_b h.1, h.2⟩
theorem su_0 {g : Nat → Int} : ∀ m : Nat, (∀ i, i < m → 0 ≤ g i) → su g m ≤ 0 → ∀ i, i < m → g i ≤ 0
  | 0, _, _, i, h => absurd h (Nat.not_lt_zero _)
  | m + 1, h, hs, i, hi => by
    have e : su g (m + 1) = su g m + g m := rfl
    have h0 : ∀ k : Nat, (∀ i, i < k → 0 ≤ g i) → 0 ≤ su g k := by
      intro k
      induction k with
      | zero => intro _; exact Int.le_refl _
      | succ k ih =>
        intro hk
        have h1 := ih (fun i hi => hk i (by omega))
        have h2 := hk k (by omega)
        have e2 : su g (k + 1) = su g k + g k := rfl
        omega
    have h1 := h0 m (fun i hi => h i (by omega))
    have h2 := h m (by omega)
    rcases Nat.lt_or_ge i m with g1 | g1
    · exact su_0 m (fun i hi => h i (by omega)) (by omega) i g1
    · rw [show i = m by omega]; omega
theorem lk0 {X : Int → Int → Int} {i : Int} {m : Nat} {g : Int → Int} (h : lk X i m g ≤ 0) : ∀ z, 0 ≤ z → z < 10 → oc X z i m ≤ g z := by
  intro z z0 z1
  have := su_0 (g := fun z : Nat => max 0 (oc X z i m - g z)) 10 (fun i _ => by omega) h z.toNat (by omega)
  simp only [show ((z.toNat : Nat) : Int) = z by omega] at this
  omega
theorem lk_b {X : Int → Int → Int} {i : Int} {m : Nat} {g : Int → Int} (hm : m ≤ 8) (hg : ∀ z, 0 ≤ z → z < 10 → 0 ≤ g z) : 0 ≤ lk X i m g ∧ lk X i m g ≤ 80 := by
  have := su_b (g := fun z : Nat => max 0 (oc X z i m - g z)) (B := 8) 10 (fun z hz => by
    have h1 := hg z (by omega) (by omega)
    have h2 := oc_b (X := X) z i m
    omega)
  unfold lk
  omega
theorem tk_b {X : Int → Int → Int} {i : Int} {m : Nat} {x : Dy} (h : DB x) (hl : lk X i m x.2.1 ≤ 0) : DB (tk X i m x) := by
  refine ⟨h.1, fun z z0 z1 => ?_, h.2.2⟩
  have h1 := lk0 hl z z0 z1
  have h2 := (oc_b (X := X) z i m).1
  have h3 := h.2.1 z z0 z1
  show 0 ≤ x.2.1 z - oc X z i m ∧ x.2.1 z - oc X z i m ≤ 99
  omega
theorem bit_b : ∀ i : Nat, i < 16 → ∃ k : Nat, k < 65536 ∧ iShl 1 (i : Int) = (k : Int) := fun i hi => by
  have h1 : 2 ^ i ≤ 2 ^ 15 := Nat.pow_le_pow_right (by omega) (by omega)
  refine ⟨2 ^ i, by omega, ?_⟩
  have := nShl (a := 1) (k := i) (by omega) (by omega)
  rw [Nat.one_mul] at this
  exact this
theorem or_b {a : Int} {i : Nat} (hi : i < 16) (h0 : 0 ≤ a) (h1 : a < 65536) : 0 ≤ iOr a (iShl 1 (i : Int)) ∧ iOr a (iShl 1 (i : Int)) < 65536 := by
  obtain ⟨k, k1, k2⟩ := bit_b i hi
  obtain ⟨n, rfl⟩ := Int.eq_ofNat_of_zero_le h0
  rw [k2]
  have e : iOr (n : Int) (k : Int) = ((n ||| k : Nat) : Int) := nOr (by omega) (by omega)
  have := Nat.or_lt_two_pow (n := 16) (x := n) (y := k) (by omega) (by omega)
  rw [e]; omega
theorem pr_b {i : Nat} {x : Dy} (hi : i < 16) (h : DB x) : DB (pr i x) := by
  have h7 := h.1.2.2.2.1
  have ob := or_b (a := x.1 7) hi h7.1 h7.2
  exact ⟨stb_ud (stb_ud h.1 (fun e => by omega) (fun e => by omega) (fun e => by omega) (fun _ => ob) (fun e _ => by omega)) (fun e => by omega) (fun e => by omega) (fun e => by omega) (fun e => by omega) (fun e _ => by omega), h.2⟩
theorem lwt_b {n : Int} {D : Int → Int → Int} {l : Cd} {F : Int → Int} {w : Int} (hF : 0 ≤ F 3 ∧ F 3 ≤ 9) : 0 ≤ lwt n D l F w ∧ lwt n D l F w ≤ 1000 := tlz_b hF
theorem fc3 {s g : Int → Int} {a b c : Int} (h : StB s) : 0 ≤ fcZ s g a b c 3 ∧ fcZ s g a b c 3 ≤ 9 := by
  have := h.2.2.1
  show 0 ≤ s 3 + 5 ∧ s 3 + 5 ≤ 9
  omega
theorem fJ_b {K : Kt} {w i : Int} {x : Dy} (h : DB x) : 0 ≤ fJ K w i x ∧ fJ K w i x ≤ 1000 := lwt_b (fc3 h.1)
theorem fB_b {K : Kt} {i : Int} {x : Dy} (h : DB x) : 0 ≤ fB K i x ∧ fB K i x ≤ 1000 := lwt_b (fc3 h.1)
theorem sjY_b {K : Kt} {i : Nat} {x : Dy} (hi : i < 16) (h : DB x) (hl : lk (jX K) i (jL K i).toNat x.2.1 ≤ 0) : DB (sjY K i x) := pr_b hi (tk_b h hl)
theorem br1_b {i b : Int} {x : Dy} (h : DB x) (hb : 0 ≤ b ∧ b ≤ 1000) : DB (br1 i b x) := ⟨h.1, h.2.1, fun j j0 j1 => by
  show 0 ≤ ud x.2.2.2 i b j ∧ ud x.2.2.2 i b j ≤ 1000
  unfold ud; split
  · exact hb
  · exact h.2.2 j j0 j1⟩
theorem stj_b {K : Kt} {th : Int} {i : Nat} {x : Dy} (hi : i < 16) (h : DB x) (hl : lk (jX K) i (jL K i).toNat x.2.1 ≤ 0) : DB (stj K th i x) := br1_b (nt_b (sjY_b hi h hl)) (fJ_b (sjY_b hi h hl))
theorem jst_b {K : Kt} {th : Int} {i : Nat} {q : Dy × Int} (hi : i < 16) (h : DB q.1) : DB (jst K th i q).1 := by
  unfold jst
  split
  · exact h
  · split
    · exact nt_b h
    · split
      · exact hp_b h
      · exact stj_b hi (hp_b h) (by show lk _ _ _ q.1.2.1 ≤ 0; omega)
theorem jsR_b {K : Kt} {th : Int} {q : Dy × Int} (h : DB q.1) : ∀ m : Nat, m ≤ 16 → DB (jsR K th q m).1
  | 0, _ => h
  | m + 1, hm => jst_b (by omega) (jsR_b h m (by omega))
theorem sd1_b {x : Dy} (h : DB x) : DB (sd1 x) := ⟨stb_ud h.1 (fun e => by omega) (fun e => by omega) (fun e => by omega) (fun e => by omega) (fun e _ => by omega), h.2⟩
theorem dst_b {K : Kt} {th w : Int} {q : Dy × Int} (h : DB q.1) : DB (dst K th w q).1 := by
  unfold dst
  split
  · exact h
  · split
    · exact hp_b h
    · exact nt_b (sd1_b (tk_b (hp_b h) (by show lk _ _ _ q.1.2.1 ≤ 0; omega)))
theorem dsR_b {K : Kt} {th : Int} {q : Dy × Int} (h : DB q.1) : ∀ m : Nat, DB (dsR K th q m).1
  | 0 => h
  | m + 1 => dst_b (dsR_b h m)
theorem dfn_b {K : Kt} {th : Int} {q : Dy × Int} (h : DB q.1) : DB (dfn K th q) := by
  unfold dfn
  split
  · exact h
  · exact nt_b ⟨stb_ud h.1 (fun e => by omega) (fun e => by omega) (fun e => by omega) (fun e => by omega) (fun e _ => by omega), h.2⟩
theorem bk1_b {z b : Int} {s : Int → Int} (z0 : 0 ≤ z) (z1 : z < 10) (hb : 0 ≤ b) (h : StB s) : StB (bk1 z b s) := by
  have := h.2.2.2.2 z z0 z1
  unfold bk1
  exact stb_ud (stb_ud h (fun e => by omega) (fun e => by omega) (fun e => by omega) (fun e => by omega) (fun e _ => by omega)) (fun e => by omega) (fun e => by omega) (fun e => by omega) (fun e => by omega) (fun e _ => by omega)
theorem bkW_b {X : Int → Int → Int} {i b : Int} {s : Int → Int} (hb : 0 ≤ b) (h : StB s) : ∀ m : Nat, (∀ k : Int, 0 ≤ k → k < m → 0 ≤ X i k ∧ X i k ≤ 9) → StB (bkW X i b s m)
  | 0, _ => h
  | m + 1, hX => by
    have := hX m (by omega) (by omega)
    exact bk1_b (by omega) (by omega) hb (bkW_b hb h m (fun k k0 k1 => hX k k0 (by omega)))
theorem bst_b {K : Kt} {S : Int} {i : Nat} {x : Dy} (hK : KOK K) (hi : (i : Int) < jc K) (h : DB x) : DB (bst K S i x) := by
  have c16 := hK.2.1.2.1
  have hl := hK.2.1.2.2.1 i (by omega) hi
  unfold bst
  split
  · exact ⟨bkW_b (h.2.2 i (by omega) (by omega)).1 h.1 _ (fun k k0 k1 => hK.2.1.2.2.2 i k (by omega) hi k0 (by omega)), h.2⟩
  · exact h
theorem bsR_b {K : Kt} {S : Int} {x : Dy} (hK : KOK K) (h : DB x) : ∀ m : Nat, (m : Int) ≤ jc K → DB (bsR K S x m)
  | 0, _ => h
  | m + 1, hm => bst_b hK (by omega) (bsR_b hK h m (by omega))
theorem cst_b {K : Kt} {i : Int} {s : Int → Int} (hK : KOK K) (i0 : 0 ≤ i) (hi : i < cc K) (h : StB s) : StB (cst K i s) := by
  obtain ⟨-, -, -, -, -, -, hc⟩ := hK
  have hc := hc i i0 hi
  have := h.2.2.2.2 (cC K 2 i) hc.2.2.1.1 (by omega)
  unfold cst cg1
  split
  · split
    · exact stb_ud h (fun e => by omega) (fun e => by omega) (fun e => by omega) (fun e => by omega) (fun e _ => by omega)
    · split
      · exact stb_ud h (fun e => by omega) (fun e => by omega) (fun e => by omega) (fun e => by omega) (fun e _ => by omega)
      · exact stb_ud h (fun e => by omega) (fun e => by omega) (fun e => by omega) (fun e => by omega) (fun e _ => by omega)
  · exact h
theorem csR_b {K : Kt} {s : Int → Int} (hK : KOK K) (h : StB s) : ∀ m : Nat, (m : Int) ≤ cc K → StB (csR K s m)
  | 0, _ => h
  | m + 1, hm => cst_b hK (by omega) (by omega) (csR_b hK h m (by omega))
