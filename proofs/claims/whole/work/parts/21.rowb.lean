/-- the longest one that is so, from s down -/
noncomputable def tdn (p : Int → Prop) : Nat → Int → Int
  | 0, t => t
  | m + 1, t => @ite Int (p t) (Classical.propDecidable _) t (tdn p m (t - 1))
theorem tdn_t {p : Int → Prop} {m : Nat} {t : Int} (h : p t) : tdn p m t = t := by
  cases m with
  | zero => rfl
  | succ m => unfold tdn; rw [if_pos h]
theorem tdn_f {p : Int → Prop} {m : Nat} {t : Int} (h : ¬ p t) : tdn p (m + 1) t = tdn p m (t - 1) := by
  rw [tdn, if_neg h]
theorem tdn_ge (p : Int → Prop) : ∀ (m : Nat) (t : Int), t - m ≤ tdn p m t ∧ tdn p m t ≤ t := by
  intro m
  induction m with
  | zero => intro t; unfold tdn; omega
  | succ m ih =>
    intro t
    by_cases h : p t
    · rw [tdn_t h]; omega
    · rw [tdn_f h]; have := ih (t - 1); omega
/-- the border -/
noncomputable def brd (f : Int → Int) (n : Int) (m : Nat) : Int := tdn (fun s => s ≤ 0 ∨ alk f 0 (n - s) s) m (m : Int)
section S2
variable {E : En} {d : Nat} {Φ : Option AV → Mm → Prop} {μ : Mm} {n : Int} {f : Int → Int}
theorem l86 (hd : 2 ≤ d) (hR : RW μ n f) : ∀ (m : Nat) (s : Int), s = m → s < n → Φ (some (.inl (brd f n m))) μ →
    G E d 86 Φ 5 [some (.inr 50), some (.inl s)] [] μ := by
  have r1 := hR.1
  have r3 := hR.2.2.1
  intro m
  induction m with
  | zero =>
    intro s hs hn h
    refine v86_5 (by omega) ⟨inR_of (by omega) (by omega), fun h1 => fe h ?_, fun h1 => by omega⟩
    unfold brd tdn; omega
  | succ m ih =>
    intro s hs hn h
    refine v86_5 (by omega) ⟨inR_of (by omega) (by omega), fun h1 => by omega, fun h1 => ?_⟩
    rw [r1]
    refine s85 (by omega) hR (by omega) (by omega) (by omega) (by omega) (by omega) ?_
    refine ⟨b2_in _, fun h2 => ih (s + (-1)) (by omega) (by omega) (fe h ?_), fun h2 => fe h ?_⟩
    · have h3 := b2_0.mp h2
      unfold brd
      rw [tdn_f (by rintro (h4 | h4); · omega
                    · exact h3 (by rw [hs]; exact h4))]
      congr 1
      omega
    · have h3 := b2_ne0.mp h2
      unfold brd
      rw [tdn_t (Or.inr (by rw [← hs]; exact h3)), hs]
theorem s86 (hd : 2 ≤ d) (hR : RW μ n f) (h : n = 0 → Φ (some (.inl 0)) μ) (h' : 0 < n → Φ (some (.inl (brd f n (n - 1).toNat))) μ) : Ct E d 86 [.inr 50] μ Φ := by
  have r1 := hR.1
  have r2 := hR.2.1
  refine v86 (by omega) ?_
  rw [r1]
  rcases Int.lt_or_le 0 n with h0 | h0
  · exact l86 hd hR (n - 1).toNat (n - 1) (by omega) (by omega) (h' h0)
  · refine v86_5 (by omega) ⟨inR_of (by omega) (by omega), fun h1 => h (by omega), fun h1 => by omega⟩

theorem l256 (hd : 2 ≤ d) (hR : RM μ n f) : ∀ (m : Nat) (s : Int), s = m → s < n → Φ (some (.inl (brd f n m))) μ →
    G E d 256 Φ 5 [some (.inr 123), some (.inl s)] [] μ := by
  have r1 := hR.1
  have r3 := hR.2.2.1
  intro m
  induction m with
  | zero =>
    intro s hs hn h
    refine v256_5 (by omega) ⟨inR_of (by omega) (by omega), fun h1 => fe h ?_, fun h1 => by omega⟩
    unfold brd tdn; omega
  | succ m ih =>
    intro s hs hn h
    refine v256_5 (by omega) ⟨inR_of (by omega) (by omega), fun h1 => by omega, fun h1 => ?_⟩
    rw [r1]
    refine s254 (by omega) hR (by omega) (by omega) (by omega) (by omega) (by omega) ?_
    refine ⟨b2_in _, fun h2 => ih (s + (-1)) (by omega) (by omega) (fe h ?_), fun h2 => fe h ?_⟩
    · have h3 := b2_0.mp h2
      unfold brd
      rw [tdn_f (by rintro (h4 | h4); · omega
                    · exact h3 (by rw [hs]; exact h4))]
      congr 1
      omega
    · have h3 := b2_ne0.mp h2
      unfold brd
      rw [tdn_t (Or.inr (by rw [← hs]; exact h3)), hs]
theorem s256 (hd : 2 ≤ d) (hR : RM μ n f) (h : n = 0 → Φ (some (.inl 0)) μ) (h' : 0 < n → Φ (some (.inl (brd f n (n - 1).toNat))) μ) : Ct E d 256 [.inr 123] μ Φ := by
  have r1 := hR.1
  have r2 := hR.2.1
  refine v256 (by omega) ?_
  rw [r1]
  rcases Int.lt_or_le 0 n with h0 | h0
  · exact l256 hd hR (n - 1).toNat (n - 1) (by omega) (by omega) (h' h0)
  · refine v256_5 (by omega) ⟨inR_of (by omega) (by omega), fun h1 => h (by omega), fun h1 => by omega⟩
/-- where a head that begins at a ends -/
noncomputable def hdT (f : Int → Int) (n a : Int) : Int := tdn (fun t => t ≤ a + 1 ∨ hdp f a t) (n - a - 1).toNat n
theorem hdT_in {f : Int → Int} {n a : Int} (h : a < n) : a + 1 ≤ hdT f n a ∧ hdT f n a ≤ n := by
  have := tdn_ge (fun t => t ≤ a + 1 ∨ hdp f a t) (n - a - 1).toNat n
  unfold hdT
  omega
/-- how many heads from a on -/
noncomputable def hdc (f : Int → Int) (n : Int) : Nat → Int → Int
  | 0, _ => 0
  | m + 1, a => if a < n then 1 + hdc f n m (hdT f n a) else 0
theorem l90 {a : Int} (hd : 3 ≤ d) (hR : RW μ n f) (ha : 0 ≤ a) : ∀ (m : Nat) (s : Int), s = m + 1 → a + s ≤ n → Φ (some (.inl (tdn (fun t => t ≤ a + 1 ∨ hdp f a t) m (a + s) - a))) μ →
    G E d 90 Φ 5 [some (.inr 50), some (.inl a), some (.inl s)] [] μ := by
  have r3 := hR.2.2.1
  intro m
  induction m with
  | zero =>
    intro s hs hn h
    refine v90_5 (by omega) ⟨inR_of (by omega) (by omega), fun h1 => fe h (by unfold tdn; omega), fun h1 => by omega⟩
  | succ m ih =>
    intro s hs hn h
    refine v90_5 (by omega) ⟨inR_of (by omega) (by omega), fun h1 => by omega, fun h1 => ?_⟩
    refine s91 (by omega) hR ha hn (by omega) ⟨b2_in _, fun h2 => fe h ?_, fun h2 => ih (s + (-1)) (by omega) (by omega) (fe h ?_)⟩
    · rw [tdn_t (Or.inr (b2_ne0.mp h2))]; omega
    · have h3 := b2_0.mp h2
      rw [tdn_f (by rintro (h4 | h4); · omega
                    · exact h3 h4)]
      congr 2
      omega
theorem s90 {a : Int} (hd : 3 ≤ d) (hR : RW μ n f) (ha : 0 ≤ a) (han : a < n) (h : Φ (some (.inl (hdT f n a - a))) μ) : Ct E d 90 [.inr 50, .inl a] μ Φ := by
  have r1 := hR.1
  refine v90 (by omega) ?_
  rw [r1]
  refine l90 hd hR ha (n - a - 1).toNat (n - a) (by omega) (by omega) ?_
  rw [show a + (n - a) = n by omega]
  exact h
theorem l89 (hd : 4 ≤ d) (hR : RW μ n f) : ∀ (m : Nat) (c a : Int), 0 ≤ a → n - a < m → a ≤ n → Φ (some (.inl (c + hdc f n m a))) μ →
    G E d 89 Φ 4 [some (.inr 50), some (.inl c), some (.inl a)] [] μ := by
  have r1 := hR.1
  have r3 := hR.2.2.1
  intro m
  induction m with
  | zero => intro c a _ hm han; omega
  | succ m ih =>
    intro c a ha hm han h
    refine v89_4 (by omega) ?_
    rw [r1]
    refine ⟨inR_of (by omega) (by omega), inR_of (by omega) (by omega), fun h1 => fe h ?_, fun h1 => ?_⟩
    · unfold hdc; rw [if_neg (by omega)]; omega
    · have hT := hdT_in (f := f) h1
      refine s90 (by omega) hR ha h1 ?_
      show G E d 89 Φ 4 _ _ _
      rw [iMax_eq (inR_of (by omega) (by omega)) (inR_of (by omega) (by omega))]
      have e1 : a + max 1 (hdT f n a - a) = hdT f n a := by omega
      rw [e1]
      refine ih (c + 1) (hdT f n a) (by omega) (by omega) (by omega) (fe h ?_)
      rw [hdc, if_pos h1]; omega
theorem s89 (hd : 4 ≤ d) (hR : RW μ n f) (h : Φ (some (.inl (hdc f n 13 0))) μ) : Ct E d 89 [.inr 50] μ Φ := by
  have r2 := hR.2.1
  have r3 := hR.2.2.1
  exact v89 (by omega) (l89 hd hR 13 0 0 (by omega) (by omega) (by omega) (fe h (by omega)))
theorem l261b {a c : Int} (hd : 3 ≤ d) (hR : RM μ n f) (ha : 0 ≤ a) : ∀ (m : Nat) (t : Int), t = a + 1 + m → t ≤ n → G E d 261 Φ 4 [some (.inr 123), some (.inl (c + 1)), some (.inl (tdn (fun t => t ≤ a + 1 ∨ hdp f a t) m t)), none] [] μ →
    G E d 261 Φ 11 [some (.inr 123), some (.inl c), some (.inl a), some (.inl t)] [] μ := by
  have r3 := hR.2.2.1
  intro m
  induction m with
  | zero =>
    intro t hs hn h
    refine v261_11 (by omega) (s260 (by omega) hR ha hn (by omega) (by omega) ⟨b2_in _, fun h2 => h, fun h2 => ?_⟩)
    exact absurd (fun e g1 g2 => by omega) (b2_0.mp h2)
  | succ m ih =>
    intro t hs hn h
    refine v261_11 (by omega) (s260 (by omega) hR ha hn (by omega) (by omega) ⟨b2_in _, fun h2 => ?_, fun h2 => ih (t - 1) (by omega) (by omega) ?_⟩)
    · rwa [tdn_t (Or.inr (b2_ne0.mp h2))] at h
    · have h3 := b2_0.mp h2
      rwa [tdn_f (by rintro (h4 | h4); · omega
                     · exact h3 h4)] at h
theorem l261 (hd : 3 ≤ d) (hR : RM μ n f) : ∀ (m : Nat) (c a : Int), 0 ≤ a → n - a < m → a ≤ n → Φ (some (.inl (c + hdc f n m a))) μ →
    G E d 261 Φ 4 [some (.inr 123), some (.inl c), some (.inl a), none] [] μ := by
  have r1 := hR.1
  have r3 := hR.2.2.1
  intro m
  induction m with
  | zero => intro c a _ hm han; omega
  | succ m ih =>
    intro c a ha hm han h
    refine v261_4 (by omega) ?_
    rw [r1]
    refine ⟨inR_of (by omega) (by omega), inR_of (by omega) (by omega), fun h1 => fe h ?_, fun h1 => ?_⟩
    · unfold hdc; rw [if_neg (by omega)]; omega
    · have hT := hdT_in (f := f) h1
      refine l261b hd hR ha (n - a - 1).toNat n (by omega) (by omega) ?_
      refine ih (c + 1) (hdT f n a) (by omega) (by omega) (by omega) (fe h ?_)
      rw [hdc, if_pos h1]; omega
theorem s261 (hd : 3 ≤ d) (hR : RM μ n f) (h : Φ (some (.inl (hdc f n 13 0))) μ) : Ct E d 261 [.inr 123] μ Φ := by
  have r2 := hR.2.1
  have r3 := hR.2.2.1
  exact v261 (by omega) (l261 hd hR 13 0 0 (by omega) (by omega) (by omega) (fe h (by omega)))
end S2
