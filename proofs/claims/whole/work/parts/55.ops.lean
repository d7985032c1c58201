/-! call by call: both answer alike, and all that counts stays alike -/
abbrev OP (E : En) (d jc jm : Nat) (as : List AV) (μ : Mm) : Prop := Ct E d jc (.inr 0 :: as) μ (rI fun z μ1 => Ct E d jm (.inr 123 :: as) μ1 (rI fun w μ2 => z = w ∧ Inv μ2))
/-- what a cell counts for: 0 nothing, 1 the shop, 2 what can be undone, 3 the ring, 4 the tape, 5 the fault, 6 the image, 7 the rest -/
def cnt0 (i a : Int) (k : Nat) : Nat := if 0 ≤ i ∧ i < a then k else 0
def cntM (i : Int) : Nat := if i = 31 ∨ i = 32 ∨ i = 36 ∨ i = 42 ∨ i = 46 then 1 else if i = 3 then 2 else if i = 8 then 4 else if i = 29 ∨ i = 30 then 5 else if i = 56 then 6 else if i = 5 then 7 else 0
def cnt (o : Nat) (i : Int) : Nat :=
  if o < 25 then (if o = 0 then (if i = 7 then 6 else 0) else if o = 1 then (if i = 1 then 4 else if i = 12 ∨ i = 13 then 5 else 0) else if o = 2 then 4 else 0)
  else if o < 65 then (if o < 59 then (if o = 35 then 0 else if o = 49 then (if i = 3 then 1 else 0) else if o = 50 then (if i = 1 then 1 else 0) else if o = 52 then 0 else if o = 53 then 0 else if o = 54 then 0 else 1) else 0)
  else if o < 100 then 6
  else if o < 123 then (if o = 100 then (if i = 1 ∨ i = 2 then 2 else 0) else if o = 101 then 0 else if o < 120 then 2 else 3)
  else if o < 130 then (if o = 123 then cntM i else if o = 124 then cnt0 i 28 1 else if o = 125 then 2 else if o = 126 then 0 else if o = 127 then cnt0 i 600 1 else if o = 128 then 4 else 7)
  else if o < 142 then (if o = 130 then (if i = 0 then 1 else 0) else if o < 135 then cnt0 i 16 1 else if o < 137 then cnt0 i 400 1 else if o = 137 then 0 else if o = 138 then cnt0 i 32 1 else if o = 139 then cnt0 i 256 1 else if o = 140 then cnt0 i 16 1 else cnt0 i 64 1)
  else if o < 146 then 0
  else if o = 146 then cnt0 i 12 1 else if o = 147 then cnt0 i 25 1 else if o = 149 then cnt0 i 8 1 else if o = 155 then cnt0 i 10 1 else if o = 157 then 6 else 0
theorem supW_c {o : Nat} {i : Int} (h : supW o i) : cnt o i = 1 := by
  unfold supW at h
  unfold cnt
  rw [if_neg (by omega), if_pos (by omega), if_pos (by omega), if_neg (by omega)]
  rcases h with h | h | ⟨rfl, rfl⟩ | ⟨rfl, rfl⟩ | rfl | h
  · rw [if_neg (by omega), if_neg (by omega), if_neg (by omega), if_neg (by omega), if_neg (by omega)]
  · rw [if_neg (by omega), if_neg (by omega), if_neg (by omega), if_neg (by omega), if_neg (by omega)]
  · rfl
  · rfl
  · rfl
  · rw [if_neg (by omega), if_neg (by omega), if_neg (by omega), if_neg (by omega), if_neg (by omega)]
theorem cnt0_p {i a : Int} {k : Nat} (h0 : 0 ≤ i) (h1 : i < a) : cnt0 i a k = k := if_pos ⟨h0, h1⟩
theorem supM_c {o : Nat} {i : Int} (h : supM o i) : cnt o i = 1 := by
  rcases h with (⟨rfl, h⟩ | ⟨rfl, rfl⟩ | ⟨h1, h2, h3, h4⟩ | ⟨h1, h2, h3, h4⟩ | ⟨rfl, h1, h2⟩ | ⟨rfl, h1, h2⟩ | ⟨rfl, h1, h2⟩ | ⟨rfl, h1, h2⟩) | ⟨rfl, h⟩ | ⟨rfl, h1, h2⟩ | ⟨rfl, h1, h2⟩ | ⟨rfl, h1, h2⟩ | ⟨rfl, h1, h2⟩ | ⟨rfl, h1, h2⟩ | ⟨rfl, h1, h2⟩
  · exact (if_pos (by omega) : (if i = 31 ∨ i = 32 ∨ i = 36 ∨ i = 42 ∨ i = 46 then 1 else if i = 3 then 2 else if i = 8 then 4 else if i = 29 ∨ i = 30 then 5 else if i = 56 then 6 else if i = 5 then 7 else 0) = 1)
  · rfl
  · rcases (by omega : o = 131 ∨ o = 132 ∨ o = 133 ∨ o = 134) with rfl | rfl | rfl | rfl <;> exact cnt0_p h3 h4
  · rcases (by omega : o = 135 ∨ o = 136) with rfl | rfl <;> exact cnt0_p h3 h4
  · exact cnt0_p h1 h2
  · exact cnt0_p h1 h2
  · exact cnt0_p h1 h2
  · exact cnt0_p h1 h2
  · exact (if_pos (by omega) : (if i = 31 ∨ i = 32 ∨ i = 36 ∨ i = 42 ∨ i = 46 then 1 else if i = 3 then 2 else if i = 8 then 4 else if i = 29 ∨ i = 30 then 5 else if i = 56 then 6 else if i = 5 then 7 else 0) = 1)
  · exact cnt0_p h1 h2
  · exact cnt0_p h1 h2
  · exact cnt0_p h1 h2
  · exact cnt0_p h1 h2
  · exact cnt0_p h1 h2
  · exact cnt0_p h1 h2
theorem c2_c {o : Nat} {i : Int} (h : (o = 100 ∧ (i = 1 ∨ i = 2)) ∨ (102 ≤ o ∧ o < 120) ∨ (o = 123 ∧ i = 3) ∨ o = 125) : cnt o i = 2 := by
  rcases h with ⟨rfl, h⟩ | h | ⟨rfl, rfl⟩ | rfl
  · exact if_pos h
  · unfold cnt
    rw [if_neg (by omega), if_neg (by omega), if_neg (by omega), if_pos (by omega), if_neg (by omega), if_neg (by omega), if_pos (by omega)]
  · rfl
  · rfl
theorem c3_c {o : Nat} {i : Int} (h0 : 120 ≤ o) (h1 : o < 123) : cnt o i = 3 := by
  rcases (by omega : o = 120 ∨ o = 121 ∨ o = 122) with rfl | rfl | rfl <;> rfl
theorem c4_c {o : Nat} {i : Int} (h : (o = 1 ∧ i = 1) ∨ o = 2 ∨ (o = 123 ∧ i = 8) ∨ o = 128) : cnt o i = 4 := by
  rcases h with ⟨rfl, rfl⟩ | rfl | ⟨rfl, rfl⟩ | rfl <;> rfl
theorem c5_c {o : Nat} {i : Int} (h : (o = 1 ∧ (i = 12 ∨ i = 13)) ∨ (o = 123 ∧ (i = 29 ∨ i = 30))) : cnt o i = 5 := by
  rcases h with ⟨rfl, rfl | rfl⟩ | ⟨rfl, rfl | rfl⟩ <;> rfl
theorem c6_c {o : Nat} {i : Int} (h : (o = 0 ∧ i = 7) ∨ (o = 123 ∧ i = 56) ∨ (66 ≤ o ∧ o < 100) ∨ o = 157) : cnt o i = 6 := by
  rcases h with ⟨rfl, rfl⟩ | ⟨rfl, rfl⟩ | h | rfl
  · rfl
  · rfl
  · unfold cnt
    rw [if_neg (by omega), if_neg (by omega), if_pos (by omega)]
  · rfl
theorem c7_c {o : Nat} {i : Int} (h : (o = 123 ∧ i = 5) ∨ o = 129) : cnt o i = 7 := by
  rcases h with ⟨rfl, rfl⟩ | rfl <;> rfl
/-- only these change -/
def Cg (l : List Nat) (μ μ' : Mm) : Prop := ∀ o i, cnt o i ∉ l → μ' o i = μ o i
section S39
variable {E : En} {d : Nat} {μ μ' μ'' : Mm} {f : Int → Mm → Prop} {l l' : List Nat}
theorem Cg.rf : Cg l μ μ := fun _ _ _ => rfl
theorem Cg.tr (h : Cg l μ μ') (k : Cg l μ' μ'') : Cg l μ μ'' := fun o i hn => by rw [k o i hn]; exact h o i hn
theorem Cg.mono (h : Cg l μ μ') (hl : ∀ k, k ∈ l → k ∈ l') : Cg l' μ μ' := fun o i hn => h o i (fun k => hn (hl _ k))
theorem Cg.mu {o : Nat} {i v : Int} (h : Cg l μ μ') (k : cnt o i ∈ l) : Cg l μ (mu μ' o i v) := fun a j hn => by
  by_cases e : a = o ∧ j = i
  · exact absurd (by rw [e.1, e.2]; exact k) hn
  · unfold CDevilsFountLaw_law_r6396_65c65a.mu
    rw [if_neg e]; exact h a j hn
theorem Ep.cg {S : Nat → Int → Prop} (h : Ep S μ μ') (k : ∀ o i, S o i → cnt o i ∈ l) : Cg l μ μ' := fun o i hn => h o i (fun q => hn (k o i q))
theorem Eo.cg {o : Nat} (h : Eo o μ μ') (k : ∀ i, cnt o i ∈ l) : Cg l μ μ' := fun a i hn => h a i (fun q => hn (by rw [q]; exact k i))
theorem Sh.cs (h : Sh μ μ) (e : Cg l μ μ') (h1 : 1 ∉ l) : Sh μ' μ' := h.cg (fun o i k => e o i (by rw [supW_c k]; exact h1)) (fun o i k => e o i (by rw [supM_c k]; exact h1))
theorem Pt.cs (h : Pt μ) (e : Cg l μ μ') (h1 : 2 ∉ l) (e36 : μ' 36 0 = μ 36 0) : Pt μ' := h.cg (fun o i k => e o i (by rw [c2_c k]; exact h1)) e36
theorem RI.cs (h : RI μ) (e : Cg l μ μ') (h1 : 3 ∉ l) : RI μ' := h.cg (fun o i k0 k1 => e o i (by rw [c3_c k0 k1]; exact h1))
theorem Tp.cs (h : Tp μ) (e : Cg l μ μ') (h1 : 4 ∉ l) : Tp μ' := h.cg (fun o i k => e o i (by rw [c4_c k]; exact h1))
theorem Fl.cs (h : Fl μ) (e : Cg l μ μ') (h1 : 5 ∉ l) : Fl μ' := h.cg (fun o i k => e o i (by rw [c5_c k]; exact h1))
theorem Im.cs (h : Im μ) (e : Cg l μ μ') (h1 : 6 ∉ l) : Im μ' := h.cg (fun o i k => e o i (by rw [c6_c k]; exact h1))
theorem Ms.cs (h : Ms μ) (e : Cg l μ μ') (h1 : 7 ∉ l) : Ms μ' := h.cg (fun o i k => e o i (by rw [c7_c k]; exact h1))
theorem Inv.sc (h : Inv μ) (e : Cg [0] μ μ') : Inv μ' := ⟨h.1.cs e (by decide), h.2.1.cs e (by decide) (e 36 0 (by decide)), h.2.2.1.cs e (by decide), h.2.2.2.1.cs e (by decide), h.2.2.2.2.1.cs e (by decide), h.2.2.2.2.2.1.cs e (by decide), h.2.2.2.2.2.2.cs e (by decide)⟩
theorem sc0 {v : Int} : Cg [0] μ (mu μ 123 0 v) := Cg.rf.mu (by decide)
theorem z0 {o : Nat} {i : Int} (h : cnt o i = 0) : cnt o i ∈ [0] := by rw [h]; decide
theorem sc0o {o : Nat} {v : Int} (h : Eo o (CDevilsFountLaw_law_r6396_65c65a.mu μ 123 0 v) μ') (ho : ∀ i, cnt o i = 0) : Cg [0] μ μ' := sc0.tr (h.cg (fun i => z0 (ho i)))
theorem ovA_u {a b z w : Int} (h1 : ovA a b z) (h2 : ovA a b w) : z = w := by
  unfold ovA at h1 h2
  split at h1
  · rename_i k
    rw [if_pos k] at h2
    obtain ⟨i, i1, i2, i3⟩ := h1
    obtain ⟨j, j1, j2, j3⟩ := h2
    have e : i = j := by
      rcases Nat.lt_trichotomy i j with g | g | g
      · have := Nat.pow_le_pow_right (n := 2) (by omega) (show i + 1 ≤ j by omega); omega
      · exact g
      · have := Nat.pow_le_pow_right (n := 2) (by omega) (show j + 1 ≤ i by omega); omega
    subst e
    rw [i3, j3]
  · rename_i k
    rw [if_neg k] at h2
    rw [h1, h2]
theorem o16 (hd : 20 ≤ d) (hI : Inv μ) : OP E d 129 245 [] μ := by
  obtain ⟨n, f, r1, r2⟩ := hI.1.2.2.2.1
  obtain ⟨q, q1, q2⟩ := hI.1.2.2.2.2.1
  exact s129 (by omega) r1 q1 (s245 (by omega) r2 q2 ⟨rfl, hI.sc sc0⟩)
theorem o17 (hd : 20 ≤ d) (hI : Inv μ) : OP E d 130 246 [] μ := by
  obtain ⟨n, f, r1, r2⟩ := hI.1.2.2.2.1
  exact s130 (by omega) r1 (s246 (by omega) r2 fun μ' h => ⟨rfl, hI.sc (sc0o h (fun _ => rfl))⟩)
theorem o19 (hd : 20 ≤ d) (hI : Inv μ) : OP E d 132 249 [] μ := by
  obtain ⟨n, f, r1, r2⟩ := hI.1.2.2.2.1
  obtain ⟨c, g, q1, q2⟩ := hI.1.2.2.2.2.2.1
  exact s132 (by omega) r1 q1 (s249 (by omega) r2 q2 fun μ' h => ⟨rfl, hI.sc (sc0o h (fun _ => rfl))⟩)
theorem RM.sc {n : Int} {f : Int → Int} (h : RM μ n f) (e : Cg [0] μ μ') : RM μ' n f := h.cg (fun i i0 i1 => e _ _ (by rw [show cnt 146 i = 1 from cnt0_p i0 i1]; decide)) (e _ _ (by decide))
theorem o20 {a : Int} (hd : 20 ≤ d) (ha : inR a) (hI : Inv μ) : OP E d 133 252 [.inl a] μ := by
  obtain ⟨n, f, r1, r2⟩ := hI.1.2.2.2.1
  refine s133 (by omega) ha r1 fun z {μ1} h1 h2 => ?_
  have e : Cg [0] μ μ1 := h2.cg (fun _ => z0 rfl)
  exact s252 (by omega) ha (r2.sc e) fun w h3 => ⟨tuZ_u h1 h3, (hI.sc e).sc sc0⟩
theorem o21 {a : Int} (hd : 20 ≤ d) (ha : inR a) (hI : Inv μ) : OP E d 134 253 [.inl a] μ := by
  obtain ⟨n, f, r1, r2⟩ := hI.1.2.2.2.1
  refine s134 (by omega) ha r1 fun μ1 h2 => ?_
  have e : Cg [0] μ μ1 := h2.cg (fun _ => z0 rfl)
  exact s253 (by omega) ha (r2.sc e) fun μ2 h3 => ⟨rfl, (hI.sc e).sc (sc0o h3 (fun _ => rfl))⟩
theorem o22 {a : Int} (hd : 20 ≤ d) (ha : inR a) (hI : Inv μ) : OP E d 135 262 [.inl a] μ := by
  obtain ⟨n, f, r1, r2⟩ := hI.1.2.2.2.1
  obtain ⟨W, hW⟩ := isW_ex f n.toNat
  rw [show ((n.toNat : Nat) : Int) = n by have := r1.2.1; omega] at hW
  refine s135 (by omega) ha r1 hW fun μ1 h2 => ?_
  have e : Cg [0] μ μ1 := h2.cg (fun _ => z0 rfl)
  exact s262 (by omega) ha (r2.sc e) hW fun μ2 h3 => ⟨rfl, (hI.sc e).sc (sc0o h3 (fun _ => rfl))⟩
theorem o23 {a b : Int} (hd : 20 ≤ d) (ha : inR a) (hb : inR b) (hI : Inv μ) : OP E d 136 267 [.inl a, .inl b] μ :=
  s136 (by omega) ha hb (s267 (by omega) ha hb ⟨rfl, hI.sc sc0⟩)
theorem o24 {a b : Int} (hd : 20 ≤ d) (ha : inR a) (hb : inR b) (hI : Inv μ) : OP E d 141 269 [.inl a, .inl b] μ :=
  s141 (by omega) ha hb fun z h1 => s269 (by omega) ha hb fun w h2 => ⟨ovA_u h1 h2, hI.sc sc0⟩
theorem o25 {a b c : Int} (hd : 20 ≤ d) (ha : inR a) (hb : inR b) (hc : inR c) (hI : Inv μ) : OP E d 143 271 [.inl a, .inl b, .inl c] μ := by
  refine s143 (by omega) ha hb hc hI.2.2.1 fun z μ1 h1 h2 h3 => s271 (by omega) ha hb hc fun w μ2 h4 h5 => ⟨rgZ_u h1 h4, ?_⟩
  have e1 : Cg [3] μ μ1 := fun o i hn => h2 o i (fun e => hn (by rw [e]; exact List.mem_singleton.mpr rfl)) (fun e => hn (by rw [e]; exact List.mem_singleton.mpr rfl)) (fun e => hn (by rw [e]; exact List.mem_singleton.mpr rfl))
  have hI1 : Inv μ1 := ⟨hI.1.cs e1 (by decide), hI.2.1.cs e1 (by decide) (e1 36 0 (by decide)), h3, hI.2.2.2.1.cs e1 (by decide), hI.2.2.2.2.1.cs e1 (by decide), hI.2.2.2.2.2.1.cs e1 (by decide), hI.2.2.2.2.2.2.cs e1 (by decide)⟩
  exact hI1.sc (sc0.tr (fun o i hn => h5 o i (fun e => hn (by rw [e]; exact z0 rfl)) (fun e => hn (by rw [e]; exact z0 rfl))))
theorem o26 {a b : Int} (hd : 20 ≤ d) (ha : inR a) (hb : inR b) (hI : Inv μ) : OP E d 144 273 [.inl a, .inl b] μ := by
  obtain ⟨n, f, r1, r2⟩ := hI.1.2.2.2.1
  exact s144 (by omega) ha hb r1 fun z h1 => s273 (by omega) ha hb r2 fun w μ2 h2 h3 => ⟨coZ_u h1 h2, hI.sc (sc0o h3 (fun _ => rfl))⟩
theorem o28 {a : Int} (hd : 20 ≤ d) (ha : inR a) (hI : Inv μ) : OP E d 147 276 [.inl a] μ := by
  obtain ⟨n, f, r1, r2⟩ := hI.1.2.2.2.1
  obtain ⟨v, v1, v2⟩ := hI.1.2.2.2.2.2.2
  exact s147 (by omega) ha r1 v1 (s276 (by omega) ha r2 v2 ⟨rfl, hI.sc sc0⟩)
theorem o29 {a : Int} (hd : 20 ≤ d) (ha : inR a) (hI : Inv μ) : OP E d 148 279 [.inl a] μ := by
  obtain ⟨K, k1, k2, k3⟩ := hI.1.1
  exact s148 (by omega) ha k2.2.2.2.1 fun z h1 => s279 (by omega) ha k3.2.2.2.1 fun w μ2 h2 h3 => ⟨gaZ_u h1 h2, hI.sc (sc0o h3 (fun _ => rfl))⟩
theorem ofA_c {so so' br br' : Int → Int} {s cj cb a b : Int} {Lj Lb : Int → Int} {Xj Xb : Int → Int → Int} (h1 : ∀ z, 0 ≤ z → z < 10 → so z = so' z) (h2 : ∀ z, 0 ≤ z → z < 10 → br z = br' z) : ofA so br s cj Lj Xj cb Lb Xb a b = ofA so' br' s cj Lj Xj cb Lb Xb a b := by
  unfold ofA
  by_cases e : 0 ≤ a ∧ a < 10
  · rw [if_pos e, if_pos e, h1 a e.1 e.2, h2 a e.1 e.2]
  · rw [if_neg e, if_neg e]
theorem o8 {a b : Int} (hd : 20 ≤ d) (ha : inR a) (hb : inR b) (hI : Inv μ) : OP E d 120 234 [.inl a, .inl b] μ := by
  obtain ⟨K, k1, k2, k3⟩ := hI.1.1
  obtain ⟨s, t1, t2, t3, t4⟩ := hI.1.2.1
  have b1 := t1.2.2.2.2
  have e26 : ∀ z, 0 ≤ z → z < 10 → μ 26 z = s (8 + z) := t3.2.2.2.2.2.2.2.2.1
  have e27 : ∀ z, 0 ≤ z → z < 10 → μ 27 z = s (18 + z) := t3.2.2.2.2.2.2.2.2.2
  have e25 : μ 25 2 = s 7 := t3.2.2.2.2.2.2.2.1
  have e124 : ∀ i, 0 ≤ i → i < 28 → μ 124 i = s i := fun i i0 i1 => t4.at i0 i1
  refine s120 (by omega) ha hb k2.2.1 k2.2.2.2.1 (fun z z0 z1 => by rw [e26 z z0 z1]; have := b1 z z0 z1; omega) ?_
  refine s234 (by omega) ha hb k3.2.1 k3.2.2.2.1 (fun z z0 z1 => by rw [e124 _ (by omega) (by omega)]; have := b1 z z0 z1; omega) ⟨?_, hI.sc sc0⟩
  rw [e25, e124 7 (by omega) (by omega)]
  exact ofA_c (fun z z0 z1 => by rw [e26 z z0 z1, e124 _ (by omega) (by omega)]) (fun z z0 z1 => by rw [e27 z z0 z1, e124 _ (by omega) (by omega)])
theorem o11 {a b : Int} (hd : 20 ≤ d) (ha : inR a) (hb : inR b) (hI : Inv μ) : OP E d 124 238 [.inl a, .inl b] μ := by
  obtain ⟨s, t1, t2, t3, t4⟩ := hI.1.2.1
  have b1 := t1.2.1
  refine s124 (by omega) ha hb t3.2.2.1 b1.1 b1.2 ?_
  refine s238 (by omega) ha hb (t4.at (by omega) (by omega)) b1.1 b1.2 ⟨?_, hI.sc sc0⟩
  by_cases e : 0 ≤ a ∧ a < s 2 ∧ 0 ≤ b ∧ b < 4
  · rw [if_pos e, if_pos e]
    exact hI.1.2.2.1 _ (by omega) (by omega)
  · rw [if_neg e, if_neg e]
end S39
