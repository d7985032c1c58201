/-! tokens, on a tape -/
/-- where a run of such ends -/
noncomputable def rn (P : Int → Prop) (T : Int → Int) : Nat → Int → Int
  | 0, p => p
  | m + 1, p => @ite Int (P (T p)) (Classical.propDecidable _) (rn P T m (p + 1)) p
noncomputable def rnE (P : Int → Prop) (T : Int → Int) (n p : Int) : Int := rn P T (n - p).toNat p
section S54
variable {P : Int → Prop} {T : Int → Int} {n p : Int}
theorem rn_n (h : n ≤ p) : rnE P T n p = p := by
  unfold rnE
  rw [show (n - p).toNat = 0 by omega]; rfl
theorem rn_t (h : p < n) (hp : P (T p)) : rnE P T n p = rnE P T n (p + 1) := by
  unfold rnE
  rw [show (n - p).toNat = (n - (p + 1)).toNat + 1 by omega, rn, if_pos hp]
theorem rn_f (h : p < n) (hp : ¬ P (T p)) : rnE P T n p = p := by
  unfold rnE
  rw [show (n - p).toNat = (n - (p + 1)).toNat + 1 by omega, rn, if_neg hp]
theorem rn_b : ∀ (m : Nat) (p : Int), (n - p).toNat = m → p ≤ n → (p ≤ rnE P T n p ∧ rnE P T n p ≤ n) ∧ (∀ i, p ≤ i → i < rnE P T n p → P (T i)) ∧ (rnE P T n p < n → ¬ P (T (rnE P T n p))) := by
  intro m
  induction m with
  | zero =>
    intro p hm hp
    rw [rn_n (by omega)]
    exact ⟨by omega, fun i i0 i1 => by omega, fun h => by omega⟩
  | succ m ih =>
    intro p hm hp
    by_cases e : P (T p)
    · rw [rn_t (by omega) e]
      obtain ⟨h1, h2, h3⟩ := ih (p + 1) (by omega) (by omega)
      refine ⟨by omega, fun i i0 i1 => ?_, h3⟩
      by_cases g : i = p
      · rw [g]; exact e
      · exact h2 i (by omega) i1
    · rw [rn_f (by omega) e]
      exact ⟨by omega, fun i i0 i1 => by omega, fun _ => e⟩
end S54
/-- the token that comes next: where it begins, where it ends, its kind, its number -/
noncomputable def toF (n : Int) (T : Int → Int) (p : Int) : Int := rnE blk T n p
noncomputable def tEq (n : Int) (T : Int → Int) (q : Int) : Int := if n ≤ q then q else @ite Int (alp (T q)) (Classical.propDecidable _) (rnE alp T n q) (@ite Int (dig (T q)) (Classical.propDecidable _) (rnE dig T n q) (q + 1))
noncomputable def tKq (k : Nat) (n : Int) (T : Int → Int) (q : Int) : Int := if n ≤ q then 0 else @ite Int (alp (T q)) (Classical.propDecidable _) (if kwC k T q (tEq n T q) = -1 then 2 else 128 + kwC k T q (tEq n T q)) (@ite Int (dig (T q)) (Classical.propDecidable _) (if tEq n T q - q ≤ 4 then 3 else 1) (@ite Int (sgn (T q)) (Classical.propDecidable _) (T q) 1))
noncomputable def toE (n : Int) (T : Int → Int) (p : Int) : Int := tEq n T (toF n T p)
noncomputable def toK (k : Nat) (n : Int) (T : Int → Int) (p : Int) : Int := tKq k n T (toF n T p)
def nv (T : Int → Int) (a : Int) : Nat → Int
  | 0 => 0
  | m + 1 => nv T a m * 10 + T (a + m) - 48
noncomputable def toN (n : Int) (T : Int → Int) (p : Int) : Int := nv T (toF n T p) (toE n T p - toF n T p).toNat
/-- the places at which one begins to look -/
noncomputable def pp (n : Int) (T : Int → Int) : Nat → Int
  | 0 => 0
  | j + 1 => toE n T (pp n T j)
section S55
variable {k : Nat} {n p q : Int} {T : Int → Int}
theorem toF_b (h : p ≤ n) : p ≤ toF n T p ∧ toF n T p ≤ n ∧ (∀ i, p ≤ i → i < toF n T p → blk (T i)) ∧ (toF n T p < n → ¬ blk (T (toF n T p))) := by
  obtain ⟨h1, h2, h3⟩ := rn_b (P := blk) (T := T) (n := n) _ p rfl h
  exact ⟨h1.1, h1.2, h2, h3⟩
theorem alp_dig {c : Int} (h : alp c) : ¬ dig c ∧ ¬ sgn c ∧ ¬ blk c := by unfold alp at h; unfold dig sgn blk; omega
theorem dig_sgn {c : Int} (h : dig c) : ¬ sgn c ∧ ¬ blk c := by unfold dig at h; unfold sgn blk; omega
theorem tEq_n (h : n ≤ q) : tEq n T q = q := if_pos h
theorem tEq_a (h : q < n) (ha : alp (T q)) : tEq n T q = rnE alp T n q := by unfold tEq; rw [if_neg (by omega), if_pos ha]
theorem tEq_d (h : q < n) (hd : dig (T q)) : tEq n T q = rnE dig T n q := by unfold tEq; rw [if_neg (by omega), if_neg (fun g => (alp_dig g).1 hd), if_pos hd]
theorem tEq_o (h : q < n) (ha : ¬ alp (T q)) (hd : ¬ dig (T q)) : tEq n T q = q + 1 := by unfold tEq; rw [if_neg (by omega), if_neg ha, if_neg hd]
theorem tEq_b (h : q < n) : q + 1 ≤ tEq n T q ∧ tEq n T q ≤ n := by
  by_cases ha : alp (T q)
  · rw [tEq_a h ha, rn_t h ha]
    have := (rn_b (P := alp) (T := T) (n := n) _ (q + 1) rfl (by omega)).1
    exact this
  · by_cases hd : dig (T q)
    · rw [tEq_d h hd, rn_t h hd]
      have := (rn_b (P := dig) (T := T) (n := n) _ (q + 1) rfl (by omega)).1
      exact this
    · rw [tEq_o h ha hd]; omega
theorem toE_b (h : p ≤ n) : toF n T p ≤ toE n T p ∧ toE n T p ≤ n ∧ (toF n T p < n → toF n T p + 1 ≤ toE n T p) := by
  have hf := toF_b (T := T) h
  unfold toE
  by_cases e : toF n T p < n
  · have := tEq_b (T := T) e
    omega
  · rw [tEq_n (by omega)]; omega
theorem toK_0 (h : p ≤ n) : toK k n T p = 0 ↔ toF n T p = n := by
  have hf := toF_b (T := T) h
  unfold toK tKq
  by_cases e : n ≤ toF n T p
  · rw [if_pos e]
    exact ⟨fun _ => by omega, fun _ => rfl⟩
  · rw [if_neg e]
    refine ⟨fun g => ?_, fun g => by omega⟩
    exfalso
    split at g
    · split at g
      · omega
      · rename_i h1 h2
        have := fst_p _ _ (by decide) h2
        unfold kwC at g
        omega
    · split at g
      · split at g <;> omega
      · split at g
        · rename_i hs
          unfold sgn at hs
          omega
        · omega
theorem pp_b (h : 0 ≤ n) : ∀ j, 0 ≤ pp n T j ∧ pp n T j ≤ n
  | 0 => ⟨Int.le_refl _, h⟩
  | j + 1 => by
    have ih := pp_b h j
    have := toE_b (T := T) ih.2
    have := toF_b (T := T) ih.2
    show 0 ≤ toE n T (pp n T j) ∧ toE n T (pp n T j) ≤ n
    omega
end S55
