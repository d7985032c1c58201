/-! keywords -/
def kwL : List (List Nat) := [[115, 101, 116, 115], [98, 114, 101, 97, 107, 115], [100, 97, 114, 101, 115], [119, 104, 101, 110], [111, 114], [97, 110, 100], [110, 111, 116], [108, 101, 110, 103, 116, 104], [108, 101, 97, 115, 116], [114, 101, 115, 116], [100, 97, 114, 105, 110, 103], [115, 97, 105, 100], [100, 111, 110, 101], [119, 97, 105, 116, 115], [98, 108, 97, 110, 107, 115], [100, 97, 121], [102, 114, 111, 109], [119, 111, 114, 100], [111, 110], [99, 97, 115, 116], [109, 101, 108, 116], [100, 97, 114, 101], [99, 97, 108, 109]]
def wln (w : Nat) : Nat := (kwL.getD w []).length
def wd (w j : Nat) : Nat := (kwL.getD w []).getD j 0
/-- the keywords of a text: from which on, how many, in which string -/
def kb (k : Nat) : Nat := if k = 0 then 0 else if k = 1 then 16 else if k = 2 then 17 else 18
def kc (k : Nat) : Nat := if k = 0 then 16 else if k = 1 then 1 else if k = 2 then 1 else 5
def sk (k : Nat) : Nat := if k = 0 then 0 else k + 1
def bo (k : Nat) : Nat → Nat
  | 0 => 0
  | w + 1 => bo k w + wln (kb k + w) + 1
def mo : Nat → Nat
  | 0 => 0
  | w + 1 => mo w + wln w + 1
theorem bo_ok : ∀ k, k < 4 → (sln (sk k) = bo k (kc k) ∧ bo k (kc k) ≤ 100 ∧ sk k < 5) ∧ ∀ w, w < kc k → (1 ≤ wln (kb k + w) ∧ kb k + w < 23 ∧ bo k w + wln (kb k + w) < bo k (kc k)) ∧ sch (sk k) ((bo k w + wln (kb k + w) : Nat) : Int) = 32 ∧ ∀ j, j < wln (kb k + w) → sch (sk k) ((bo k w + j : Nat) : Int) = (wd (kb k + w) j : Nat) := by decide +kernel
theorem mo_ok : mo 23 = 119 ∧ wdL.getD 119 0 = 32 ∧ ∀ w, w < 23 → (1 ≤ wln w ∧ wln w ≤ 6 ∧ mo w + wln w + 1 ≤ 119) ∧ wdL.getD (mo w) 0 = 32 ∧ wdL.getD (mo w + 1 + wln w) 0 = 32 ∧ ∀ j, j < wln w → wdL.getD (mo w + 1 + j) 0 = wd w j ∧ 97 ≤ wd w j ∧ wd w j ≤ 122 := by decide +kernel
theorem kw_ne : ∀ w, w < 23 → ∀ v, v < 23 → kwL.getD w [] = kwL.getD v [] → w = v := by decide +kernel
/-- a keyword is spelt there -/
def spl (T : Int → Int) (a b : Int) (w : Nat) : Prop := b - a = (wln w : Nat) ∧ ∀ j : Nat, j < wln w → T (a + j) = (wd w j : Nat)
theorem gD_e {A : List Nat} {i : Nat} (h : i < A.length) : A.getD i 0 = A[i] := by
  simp [List.getD_eq_getElem?_getD, h]
theorem spl_u {T : Int → Int} {a b : Int} {w v : Nat} (hw : w < 23) (hv : v < 23) (h1 : spl T a b w) (h2 : spl T a b v) : w = v := by
  refine kw_ne w hw v hv ?_
  have hl : wln w = wln v := by have := h1.1; have := h2.1; omega
  refine List.ext_getElem hl (fun i i1 i2 => ?_)
  have e1 := h1.2 i i1
  have e2 := h2.2 i i2
  have e3 : (wd w i : Int) = (wd v i : Int) := e1.symm.trans e2
  have e4 : wd w i = wd v i := by omega
  unfold wd at e4
  rw [gD_e i1, gD_e i2] at e4
  exact e4
noncomputable def kwC (k : Nat) (T : Int → Int) (a b : Int) : Int := fst (fun w => spl T a b (kb k + w.toNat)) (kc k) 0
noncomputable def kwM (T : Int → Int) (a b : Int) : Int := fst (fun w => spl T a b w.toNat) 23 0
theorem fst_p {p : Int → Prop} : ∀ (m : Nat) (x : Int), 0 ≤ x → fst p m x ≠ -1 → p (fst p m x) ∧ x ≤ fst p m x ∧ fst p m x < x + m
  | 0, x, _, h => absurd rfl h
  | m + 1, x, h0, h => by
    by_cases e : p x
    · rw [fst_t e]; exact ⟨e, by omega, by omega⟩
    · rw [fst_f e] at h ⊢
      have := fst_p m (x + 1) (by omega) h
      exact ⟨this.1, by omega, by omega⟩
theorem fst_q {p : Int → Prop} : ∀ (m : Nat) (x : Int), 0 ≤ x → fst p m x = -1 → ∀ i, x ≤ i → i < x + m → ¬ p i
  | 0, x, _, _, i, i0, i1 => by omega
  | m + 1, x, h0, h, i, i0, i1 => by
    by_cases e : p x
    · rw [fst_t e] at h; omega
    · rw [fst_f e] at h
      by_cases g : i = x
      · rw [g]; exact e
      · exact fst_q m (x + 1) (by omega) h i (by omega) (by omega)
/-- what class and reference find is one keyword -/
theorem kw_eq {k : Nat} {T : Int → Int} {a b : Int} (hk : k < 4) : (kwC k T a b ≠ -1 → kwM T a b = (kb k : Nat) + kwC k T a b ∧ 0 ≤ kwC k T a b ∧ kwC k T a b < (kc k : Nat)) ∧ (kwC k T a b = -1 → ¬ ((kb k : Nat) ≤ kwM T a b ∧ kwM T a b < (kb k : Nat) + (kc k : Nat))) := by
  have hb := (bo_ok k hk).2
  refine ⟨fun h => ?_, fun h hc => ?_⟩
  · have h1 := fst_p _ _ (by decide) h
    have h2 : kwM T a b ≠ -1 := fun g => by
      refine fst_q _ _ (by decide) g ((kb k : Nat) + kwC k T a b) (by unfold kwC; omega) ?_ ?_
      · have := (hb (kwC k T a b).toNat (by unfold kwC; omega)).1.2.1
        unfold kwC at this ⊢
        omega
      · show spl T a b ((kb k : Nat) + kwC k T a b).toNat
        have e : (((kb k : Nat) : Int) + kwC k T a b).toNat = kb k + (kwC k T a b).toNat := by unfold kwC; omega
        rw [e]
        exact h1.1
    have h3 := fst_p _ _ (by decide) h2
    have := (hb (kwC k T a b).toNat (by unfold kwC; omega)).1.2.1
    have e := spl_u (by omega) this h3.1 h1.1
    unfold kwC kwM at *
    omega
  · have h2 : kwM T a b ≠ -1 := by omega
    have h3 := fst_p _ _ (by decide) h2
    refine fst_q _ _ (by decide) h (kwM T a b - (kb k : Nat)) (by omega) (by omega) ?_
    show spl T a b (kb k + (kwM T a b - (kb k : Nat)).toNat)
    rw [show kb k + (kwM T a b - (kb k : Nat)).toNat = (kwM T a b).toNat by omega]
    exact h3.1
section S53
variable {E : En} {d : Nat} {Φ : Option AV → Mm → Prop} {μ : Mm} {n : Int} {T : Int → Int} {k : Nat} {a b : Int}
theorem s46 {w : Nat} (hd : 5 ≤ d) (hk : k < 4) (hw : w < kc k) (hT : TaW μ n T) (hn : n ≤ 400) (a0 : 0 ≤ a) (hb : a + (wln (kb k + w) : Nat) ≤ n) (hR : ∀ i, 0 ≤ i → i < n → 0 ≤ T i ∧ T i ≤ 255) (h : Φ (some (.inl (b2 (∀ j : Nat, j < wln (kb k + w) → T (a + j) = (wd (kb k + w) j : Nat))))) μ) : Ct E d 46 [.inr 1, .inl a, .inr (1000 + sk k), .inl ((bo k w : Nat) : Int), .inl ((bo k w + wln (kb k + w) : Nat) : Int)] μ Φ := by
  obtain ⟨⟨k1, k2, k3⟩, k4⟩ := bo_ok k hk
  obtain ⟨⟨w1, w2, w3⟩, w4, w5⟩ := k4 w hw
  have sc := sch_c (sk k) k3
  have key : ∀ (m j : Nat), j + m = wln (kb k + w) → (∀ i : Nat, i < j → T (a + i) = (wd (kb k + w) i : Nat)) → G E d 46 Φ 2 [some (.inr 1), some (.inl a), some (.inr (1000 + sk k)), some (.inl ((bo k w : Nat) : Int)), some (.inl ((bo k w + wln (kb k + w) : Nat) : Int)), some (.inl ((bo k w + j : Nat) : Int)), none] [] μ := by
    intro m
    induction m with
    | zero =>
      intro j hj hall
      exact v46_2 (by omega) ⟨inR_of (by omega) (by omega), inR_of (by omega) (by omega), fun _ => ft h (fun i hi => hall i (by omega)), fun e => by omega⟩
    | succ m ih =>
      intro j hj hall
      refine v46_2 (by omega) ⟨inR_of (by omega) (by omega), inR_of (by omega) (by omega), fun e => by omega, fun _ => ⟨by omega, s286 (by omega) k3 ⟨inR_of (by omega) (by omega), inR_of (by omega) (by omega), fun e => by omega, fun _ => ?_⟩⟩⟩
      rw [hT.1, show a + ((bo k w + j : Nat) : Int) - ((bo k w : Nat) : Int) = a + (j : Int) by omega, hT.2 (a + j) (by omega) (by omega)]
      have tb := hR (a + j) (by omega) (by omega)
      have wj := w5 j (by omega)
      have scj := sc (bo k w + j) (by omega)
      refine ⟨inR_of (by omega) (by omega), inR_of (by omega) (by omega), fun e => by omega, fun _ => ⟨⟨by omega, by omega⟩, by omega, s287 (by omega) k3 (by omega) (by omega) ?_⟩⟩
      simp only [rI]
      rw [wj]
      rw [wj] at scj
      refine ⟨inR_of (by omega) (by omega), inR_of (by omega) (by omega), fun e => ?_, fun e => ff h (fun q => e (q j (by omega)))⟩
      have := ih (j + 1) (by omega) (fun i hi => by
        rcases Nat.lt_or_ge i j with g | g
        · exact hall i g
        · rw [show i = j by omega]; exact e)
      rwa [show ((bo k w + (j + 1) : Nat) : Int) = ((bo k w + j : Nat) : Int) + 1 by omega] at this
  exact v46 (by omega) (key (wln (kb k + w)) 0 (by omega) (fun i hi => absurd hi (Nat.not_lt_zero _)))
theorem s45 (hd : 6 ≤ d) (hk : k < 4) (hT : TaW μ n T) (hn : n ≤ 400) (a0 : 0 ≤ a) (ab : a < b) (hb : b ≤ n) (hR : ∀ i, 0 ≤ i → i < n → 0 ≤ T i ∧ T i ≤ 255) (h : Φ (some (.inl (kwC k T a b))) μ) : Ct E d 45 [.inr 1, .inl a, .inl b, .inr (1000 + sk k)] μ Φ := by
  obtain ⟨⟨k1, k2, k3⟩, k4⟩ := bo_ok k hk
  have key : ∀ (m w : Nat), w + m = kc k → kwC k T a b = fst (fun w => spl T a b (kb k + w.toNat)) m w → G E d 45 Φ 6 [some (.inr 1), some (.inl a), some (.inl b), some (.inr (1000 + sk k)), some (.inl (w : Int)), some (.inl ((bo k w : Nat) : Int)), some (.inl ((bo k w : Nat) : Int))] [] μ := by
    intro m
    induction m with
    | zero =>
      intro w hw he
      have hw' : w = kc k := by omega
      subst hw'
      refine v45_6 (by omega) ⟨by omega, s286 (by omega) k3 ⟨inR_of (by omega) (by omega), inR_of (by omega) (by omega), fun _ => fe h he, fun e => by omega⟩⟩
    | succ m ih =>
      intro w hw he
      obtain ⟨⟨w1, w2, w3⟩, w4, w5⟩ := k4 w (by omega)
      have inner : ∀ (r j : Nat), j + r = wln (kb k + w) → G E d 45 Φ 6 [some (.inr 1), some (.inl a), some (.inl b), some (.inr (1000 + sk k)), some (.inl (w : Int)), some (.inl ((bo k w : Nat) : Int)), some (.inl ((bo k w + j : Nat) : Int))] [] μ := by
        intro r
        induction r with
        | zero =>
          intro j hj
          have hj' : j = wln (kb k + w) := by omega
          subst hj'
          refine v45_6 (by omega) ⟨by omega, s286 (by omega) k3 ⟨inR_of (by omega) (by omega), inR_of (by omega) (by omega), fun e => by omega, fun _ => ⟨by omega, s287 (by omega) k3 (by omega) (by omega) ?_⟩⟩⟩
          simp only [rI]
          rw [w4]
          have nx : ¬ spl T a b (kb k + w) → G E d 45 Φ 6 [some (.inr 1), some (.inl a), some (.inl b), some (.inr (1000 + sk k)), some (.inl ((w : Int) + 1)), some (.inl (((bo k w + wln (kb k + w) : Nat) : Int) + 1)), some (.inl (((bo k w + wln (kb k + w) : Nat) : Int) + 1))] [] μ := fun hn => by
            have := ih (w + 1) (by omega) (by rw [he]; exact fst_f (by rw [Int.toNat_natCast]; exact hn))
            rwa [show ((bo k (w + 1) : Nat) : Int) = ((bo k w + wln (kb k + w) : Nat) : Int) + 1 by show ((bo k w + wln (kb k + w) + 1 : Nat) : Int) = _; omega] at this
          refine ⟨inR_of (by decide) (by decide), fun e => absurd rfl e, fun _ => ⟨inR_of (by omega) (by omega), inR_of (by omega) (by omega), fun e => nx (fun q => e (by have := q.1; omega)), fun e => ?_⟩⟩
          refine s46 (by omega) hk (by omega) hT hn a0 (by omega) hR ⟨b2_in _, fun g => nx (fun q => b2_0.mp g q.2), fun g => ?_⟩
          have hs : spl T a b (kb k + w) := ⟨by omega, b2_ne0.mp g⟩
          refine fe h ?_
          rw [he]
          exact fst_t (by rw [Int.toNat_natCast]; exact hs)
        | succ r ihr =>
          intro j hj
          have wj := w5 j (by omega)
          have wb := (mo_ok.2.2 (kb k + w) w2).2.2.2 j (by omega)
          refine v45_6 (by omega) ⟨by omega, s286 (by omega) k3 ⟨inR_of (by omega) (by omega), inR_of (by omega) (by omega), fun e => by omega, fun _ => ⟨by omega, s287 (by omega) k3 (by omega) (by omega) ?_⟩⟩⟩
          simp only [rI]
          rw [wj]
          refine ⟨inR_of (by omega) (by omega), fun _ => ?_, fun e => by omega⟩
          have := ihr (j + 1) (by omega)
          rwa [show ((bo k w + (j + 1) : Nat) : Int) = ((bo k w + j : Nat) : Int) + 1 by omega] at this
      exact inner (wln (kb k + w)) 0 (by omega)
  exact v45 (by omega) (key (kc k) 0 (by omega) rfl)
theorem s175 (hd : 2 ≤ d) (hT : TaM μ n T) (hW : ∀ i : Nat, i < 120 → μ 129 i = (wdL.getD i 0 : Nat)) (hn : n ≤ 400) (a0 : 0 ≤ a) (ab : a < b) (hb : b ≤ n) (hA : ∀ i, a ≤ i → i < b → alp (T i)) (h : Φ (some (.inl (kwM T a b))) μ) : Ct E d 175 [.inr 123, .inl a, .inl b] μ Φ := by
  obtain ⟨m1, m2, m3⟩ := mo_ok
  have key : ∀ (m w : Nat), w + m = 23 → kwM T a b = fst (fun w => spl T a b w.toNat) m w → G E d 175 Φ 4 [some (.inr 123), some (.inl a), some (.inl b), some (.inl ((w : Int) - 1)), some (.inl ((mo w : Nat) : Int)), none] [] μ := by
    intro m
    induction m with
    | zero =>
      intro w hw he
      have hw' : w = 23 := by omega
      subst hw'
      refine v175_4 (by omega) ⟨inR_of (by omega) (by omega), fun _ => fe h he, fun e => by omega⟩
    | succ m ih =>
      intro w hw he
      obtain ⟨⟨w1, w2, w3⟩, w4, w5, w6⟩ := m3 w (by omega)
      -- on to the next word
      have skip : ¬ spl T a b w → ∀ (r j : Nat), j + r = wln w → G E d 175 Φ 59 [some (.inr 123), some (.inl a), some (.inl b), some (.inl (w : Int)), some (.inl ((mo w + 1 + j : Nat) : Int)), none] [] μ := by
        intro hns r
        induction r with
        | zero =>
          intro j hj
          have hj' : j = wln w := by omega
          subst hj'
          refine v175_59 (by omega) ?_
          rw [hW _ (by omega), w5]
          refine ⟨⟨by omega, by omega⟩, inR_of (by decide) (by decide), fun _ => ?_, fun e => absurd rfl e⟩
          have := ih (w + 1) (by omega) (by rw [he]; exact fst_f (by rw [Int.toNat_natCast]; exact hns))
          rwa [show ((w + 1 : Nat) : Int) - 1 = (w : Int) by omega, show mo (w + 1) = mo w + 1 + wln w by show mo w + wln w + 1 = _; omega] at this
        | succ r ihr =>
          intro j hj
          have wj := w6 j (by omega)
          refine v175_59 (by omega) ?_
          rw [hW _ (by omega), wj.1]
          refine ⟨⟨by omega, by omega⟩, inR_of (by omega) (by omega), fun e => by omega, fun _ => ?_⟩
          have := ihr (j + 1) (by omega)
          rwa [show ((mo w + 1 + (j + 1) : Nat) : Int) = ((mo w + 1 + j : Nat) : Int) + 1 by omega] at this
      have skip0 : ¬ spl T a b w → G E d 175 Φ 59 [some (.inr 123), some (.inl a), some (.inl b), some (.inl (w : Int)), some (.inl (((mo w : Nat) : Int) + 1)), none] [] μ := fun hns => by
        have := skip hns (wln w) 0 (by omega)
        rwa [show ((mo w + 1 + 0 : Nat) : Int) = ((mo w : Nat) : Int) + 1 by omega] at this
      -- at the j-th letter
      have inner : ∀ (r j : Nat), j + r = wln w → a + j ≤ b → (∀ i : Nat, i < j → T (a + i) = (wd w i : Nat)) → G E d 175 Φ 13 [some (.inr 123), some (.inl a), some (.inl b), some (.inl (w : Int)), some (.inl ((mo w : Nat) : Int)), some (.inl (j : Int))] [] μ := by
        intro r
        induction r with
        | zero =>
          intro j hj jb hall
          have hj' : j = wln w := by omega
          subst hj'
          have c32 : μ 129 (((mo w : Nat) : Int) + 1 + (wln w : Nat)) = 32 := by
            rw [show ((mo w : Nat) : Int) + 1 + (wln w : Nat) = ((mo w + 1 + wln w : Nat) : Int) by omega, hW _ (by omega), w5]; rfl
          refine v175_13 (by omega) ?_
          rw [c32]
          refine ⟨inR_of (by omega) (by omega), inR_of (by omega) (by omega), fun e => ⟨inR_of (by omega) (by omega), inR_of (by omega) (by omega), fun e2 => by omega, fun e2 => ⟨⟨by omega, by omega⟩, inR_of (by decide) (by decide), fun e3 => absurd rfl e3, fun _ => fe h ?_⟩⟩, fun e => ?_⟩
          · rw [he]
            exact fst_t (by rw [Int.toNat_natCast]; exact ⟨by omega, hall⟩)
          · have ha := hA (a + (wln w : Nat)) (by omega) (by omega)
            rw [hT.2 _ (by omega) (by omega)]
            have hai : inR (T (a + (wln w : Nat))) := by unfold alp at ha; exact inR_of (by omega) (by omega)
            refine ⟨⟨by omega, by omega⟩, ⟨by omega, by omega⟩, inR_of (by decide) (by decide), hai, fun e2 => ⟨inR_of (by omega) (by omega), inR_of (by omega) (by omega), fun e3 => skip0 (fun q => by have := q.1; omega), fun e3 => by omega⟩, fun e2 => ?_⟩
            exfalso
            rw [← e2] at ha
            unfold alp at ha
            omega
        | succ r ihr =>
          intro j hj jb hall
          have wj := w6 j (by omega)
          have cj : μ 129 (((mo w : Nat) : Int) + 1 + (j : Int)) = (wd w j : Nat) := by
            rw [show ((mo w : Nat) : Int) + 1 + (j : Int) = ((mo w + 1 + j : Nat) : Int) by omega, hW _ (by omega), wj.1]
          refine v175_13 (by omega) ?_
          rw [cj]
          refine ⟨inR_of (by omega) (by omega), inR_of (by omega) (by omega), fun e => ⟨inR_of (by omega) (by omega), inR_of (by omega) (by omega), fun e2 => by omega, fun e2 => ⟨⟨by omega, by omega⟩, inR_of (by omega) (by omega), fun _ => skip0 (fun q => by have := q.1; omega), fun e3 => by omega⟩⟩, fun e => ?_⟩
          have ha := hA (a + j) (by omega) (by omega)
          rw [hT.2 _ (by omega) (by omega)]
          have hai : inR (T (a + j)) := by unfold alp at ha; exact inR_of (by omega) (by omega)
          refine ⟨⟨by omega, by omega⟩, ⟨by omega, by omega⟩, inR_of (by omega) (by omega), hai, fun e2 => ⟨inR_of (by omega) (by omega), inR_of (by omega) (by omega), fun e3 => skip0 (fun q => e2 (q.2 j (by omega)).symm), fun e3 => by omega⟩, fun e2 => ?_⟩
          exact ihr (j + 1) (by omega) (by omega) (fun i hi => by
            rcases Nat.lt_or_ge i j with g | g
            · exact hall i g
            · rw [show i = j by omega]; exact e2.symm)
      refine v175_4 (by omega) ⟨inR_of (by omega) (by omega), fun e => by omega, fun _ => ?_⟩
      rw [show (w : Int) - 1 + 1 = (w : Int) by omega]
      exact inner (wln w) 0 (by omega) (by omega) (fun i hi => absurd hi (Nat.not_lt_zero _))
  exact v175 (by omega) (key 23 0 (by omega) rfl)
end S53
