/-! how many ones: both sides below 2^16 -/
def bcN (v : Nat) : Nat :=
  let a := v - (Nat.land (v / 2) 1431655765)
  let b := Nat.land a 858993459 + Nat.land (a / 4) 858993459
  let c := Nat.land (b + b / 16) 252645135
  let e := c + c / 256
  Nat.land (e + e / 65536) 63
def onO : Nat → Nat → Option Nat
  | 0, _ => none
  | m + 1, x => cond (Nat.beq x 0) (some 0) (match onO m (Nat.land x (x - 1)) with
    | some r => some (r + 1)
    | none => none)
def ck1 (x : Nat) : Bool := match onO 17 x with
  | some r => Nat.beq r (bcN x)
  | none => false
def ckO (s : Nat) : Nat → Bool
  | 0 => true
  | n + 1 => ck1 (s + n) && ckO s n
theorem ckO_all {s : Nat} : ∀ m, ckO s m = true → ∀ i, i < m → ck1 (s + i) = true
  | 0, _, i, h => absurd h (Nat.not_lt_zero i)
  | m + 1, h, i, hi => by
    have h : (ck1 (s + m) && ckO s m) = true := h
    rw [Bool.and_eq_true] at h
    rcases Nat.lt_or_ge i m with g | g
    · exact ckO_all m h.2 i g
    · rw [show i = m by omega]; exact h.1
theorem ck_0 : ckO 0 2048 = true := by decide +kernel
theorem ck_1 : ckO 2048 2048 = true := by decide +kernel
theorem ck_2 : ckO 4096 2048 = true := by decide +kernel
theorem ck_3 : ckO 6144 2048 = true := by decide +kernel
theorem ck_4 : ckO 8192 2048 = true := by decide +kernel
theorem ck_5 : ckO 10240 2048 = true := by decide +kernel
theorem ck_6 : ckO 12288 2048 = true := by decide +kernel
theorem ck_7 : ckO 14336 2048 = true := by decide +kernel
theorem ck_8 : ckO 16384 2048 = true := by decide +kernel
theorem ck_9 : ckO 18432 2048 = true := by decide +kernel
theorem ck_10 : ckO 20480 2048 = true := by decide +kernel
theorem ck_11 : ckO 22528 2048 = true := by decide +kernel
theorem ck_12 : ckO 24576 2048 = true := by decide +kernel
theorem ck_13 : ckO 26624 2048 = true := by decide +kernel
theorem ck_14 : ckO 28672 2048 = true := by decide +kernel
theorem ck_15 : ckO 30720 2048 = true := by decide +kernel
theorem ck_16 : ckO 32768 2048 = true := by decide +kernel
theorem ck_17 : ckO 34816 2048 = true := by decide +kernel
theorem ck_18 : ckO 36864 2048 = true := by decide +kernel
theorem ck_19 : ckO 38912 2048 = true := by decide +kernel
theorem ck_20 : ckO 40960 2048 = true := by decide +kernel
theorem ck_21 : ckO 43008 2048 = true := by decide +kernel
theorem ck_22 : ckO 45056 2048 = true := by decide +kernel
theorem ck_23 : ckO 47104 2048 = true := by decide +kernel
theorem ck_24 : ckO 49152 2048 = true := by decide +kernel
theorem ck_25 : ckO 51200 2048 = true := by decide +kernel
theorem ck_26 : ckO 53248 2048 = true := by decide +kernel
theorem ck_27 : ckO 55296 2048 = true := by decide +kernel
theorem ck_28 : ckO 57344 2048 = true := by decide +kernel
theorem ck_29 : ckO 59392 2048 = true := by decide +kernel
theorem ck_30 : ckO 61440 2048 = true := by decide +kernel
theorem ck_31 : ckO 63488 2048 = true := by decide +kernel
theorem ck_any {x : Nat} (h : x < 65536) : ck1 x = true := by
  have key : ∀ s, ckO s 2048 = true → s ≤ x → x < s + 2048 → ck1 x = true := fun s hs h1 h2 => by
    have := ckO_all 2048 hs (x - s) (by omega)
    rwa [show s + (x - s) = x by omega] at this
  rcases Nat.lt_or_ge x 2048 with g0 | g0
  · exact key _ ck_0 (by omega) (by omega)
  rcases Nat.lt_or_ge x 4096 with g1 | g1
  · exact key _ ck_1 (by omega) (by omega)
  rcases Nat.lt_or_ge x 6144 with g2 | g2
  · exact key _ ck_2 (by omega) (by omega)
  rcases Nat.lt_or_ge x 8192 with g3 | g3
  · exact key _ ck_3 (by omega) (by omega)
  rcases Nat.lt_or_ge x 10240 with g4 | g4
  · exact key _ ck_4 (by omega) (by omega)
  rcases Nat.lt_or_ge x 12288 with g5 | g5
  · exact key _ ck_5 (by omega) (by omega)
  rcases Nat.lt_or_ge x 14336 with g6 | g6
  · exact key _ ck_6 (by omega) (by omega)
  rcases Nat.lt_or_ge x 16384 with g7 | g7
  · exact key _ ck_7 (by omega) (by omega)
  rcases Nat.lt_or_ge x 18432 with g8 | g8
  · exact key _ ck_8 (by omega) (by omega)
  rcases Nat.lt_or_ge x 20480 with g9 | g9
  · exact key _ ck_9 (by omega) (by omega)
  rcases Nat.lt_or_ge x 22528 with g10 | g10
  · exact key _ ck_10 (by omega) (by omega)
  rcases Nat.lt_or_ge x 24576 with g11 | g11
  · exact key _ ck_11 (by omega) (by omega)
  rcases Nat.lt_or_ge x 26624 with g12 | g12
  · exact key _ ck_12 (by omega) (by omega)
  rcases Nat.lt_or_ge x 28672 with g13 | g13
  · exact key _ ck_13 (by omega) (by omega)
  rcases Nat.lt_or_ge x 30720 with g14 | g14
  · exact key _ ck_14 (by omega) (by omega)
  rcases Nat.lt_or_ge x 32768 with g15 | g15
  · exact key _ ck_15 (by omega) (by omega)
  rcases Nat.lt_or_ge x 34816 with g16 | g16
  · exact key _ ck_16 (by omega) (by omega)
  rcases Nat.lt_or_ge x 36864 with g17 | g17
  · exact key _ ck_17 (by omega) (by omega)
  rcases Nat.lt_or_ge x 38912 with g18 | g18
  · exact key _ ck_18 (by omega) (by omega)
  rcases Nat.lt_or_ge x 40960 with g19 | g19
  · exact key _ ck_19 (by omega) (by omega)
  rcases Nat.lt_or_ge x 43008 with g20 | g20
  · exact key _ ck_20 (by omega) (by omega)
  rcases Nat.lt_or_ge x 45056 with g21 | g21
  · exact key _ ck_21 (by omega) (by omega)
  rcases Nat.lt_or_ge x 47104 with g22 | g22
  · exact key _ ck_22 (by omega) (by omega)
  rcases Nat.lt_or_ge x 49152 with g23 | g23
  · exact key _ ck_23 (by omega) (by omega)
  rcases Nat.lt_or_ge x 51200 with g24 | g24
  · exact key _ ck_24 (by omega) (by omega)
  rcases Nat.lt_or_ge x 53248 with g25 | g25
  · exact key _ ck_25 (by omega) (by omega)
  rcases Nat.lt_or_ge x 55296 with g26 | g26
  · exact key _ ck_26 (by omega) (by omega)
  rcases Nat.lt_or_ge x 57344 with g27 | g27
  · exact key _ ck_27 (by omega) (by omega)
  rcases Nat.lt_or_ge x 59392 with g28 | g28
  · exact key _ ck_28 (by omega) (by omega)
  rcases Nat.lt_or_ge x 61440 with g29 | g29
  · exact key _ ck_29 (by omega) (by omega)
  rcases Nat.lt_or_ge x 63488 with g30 | g30
  · exact key _ ck_30 (by omega) (by omega)
  rcases Nat.lt_or_ge x 65536 with g31 | g31
  · exact key _ ck_31 (by omega) (by omega)
  omega
def ck2 (x : Nat) : Bool := Nat.beq x 0 || Nat.beq (bcN x) (bcN (x - 2 ^ Nat.log2 x) + 1)
def ckP (s : Nat) : Nat → Bool
  | 0 => true
  | n + 1 => ck2 (s + n) && ckP s n
theorem ckP_all {s : Nat} : ∀ m, ckP s m = true → ∀ i, i < m → ck2 (s + i) = true
  | 0, _, i, h => absurd h (Nat.not_lt_zero i)
  | m + 1, h, i, hi => by
    have h : (ck2 (s + m) && ckP s m) = true := h
    rw [Bool.and_eq_true] at h
    rcases Nat.lt_or_ge i m with g | g
    · exact ckP_all m h.2 i g
    · rw [show i = m by omega]; exact h.1
theorem cj_0 : ckP 0 2048 = true := by decide +kernel
theorem cj_1 : ckP 2048 2048 = true := by decide +kernel
theorem cj_2 : ckP 4096 2048 = true := by decide +kernel
theorem cj_3 : ckP 6144 2048 = true := by decide +kernel
theorem cj_4 : ckP 8192 2048 = true := by decide +kernel
theorem cj_5 : ckP 10240 2048 = true := by decide +kernel
theorem cj_6 : ckP 12288 2048 = true := by decide +kernel
theorem cj_7 : ckP 14336 2048 = true := by decide +kernel
theorem cj_8 : ckP 16384 2048 = true := by decide +kernel
theorem cj_9 : ckP 18432 2048 = true := by decide +kernel
theorem cj_10 : ckP 20480 2048 = true := by decide +kernel
theorem cj_11 : ckP 22528 2048 = true := by decide +kernel
theorem cj_12 : ckP 24576 2048 = true := by decide +kernel
theorem cj_13 : ckP 26624 2048 = true := by decide +kernel
theorem cj_14 : ckP 28672 2048 = true := by decide +kernel
theorem cj_15 : ckP 30720 2048 = true := by decide +kernel
theorem cj_16 : ckP 32768 2048 = true := by decide +kernel
theorem cj_17 : ckP 34816 2048 = true := by decide +kernel
theorem cj_18 : ckP 36864 2048 = true := by decide +kernel
theorem cj_19 : ckP 38912 2048 = true := by decide +kernel
theorem cj_20 : ckP 40960 2048 = true := by decide +kernel
theorem cj_21 : ckP 43008 2048 = true := by decide +kernel
theorem cj_22 : ckP 45056 2048 = true := by decide +kernel
theorem cj_23 : ckP 47104 2048 = true := by decide +kernel
theorem cj_24 : ckP 49152 2048 = true := by decide +kernel
theorem cj_25 : ckP 51200 2048 = true := by decide +kernel
theorem cj_26 : ckP 53248 2048 = true := by decide +kernel
theorem cj_27 : ckP 55296 2048 = true := by decide +kernel
theorem cj_28 : ckP 57344 2048 = true := by decide +kernel
theorem cj_29 : ckP 59392 2048 = true := by decide +kernel
theorem cj_30 : ckP 61440 2048 = true := by decide +kernel
theorem cj_31 : ckP 63488 2048 = true := by decide +kernel
theorem cj_any {x : Nat} (h : x < 65536) : ck2 x = true := by
  have key : ∀ s, ckP s 2048 = true → s ≤ x → x < s + 2048 → ck2 x = true := fun s hs h1 h2 => by
    have := ckP_all 2048 hs (x - s) (by omega)
    rwa [show s + (x - s) = x by omega] at this
  rcases Nat.lt_or_ge x 2048 with g0 | g0
  · exact key _ cj_0 (by omega) (by omega)
  rcases Nat.lt_or_ge x 4096 with g1 | g1
  · exact key _ cj_1 (by omega) (by omega)
  rcases Nat.lt_or_ge x 6144 with g2 | g2
  · exact key _ cj_2 (by omega) (by omega)
  rcases Nat.lt_or_ge x 8192 with g3 | g3
  · exact key _ cj_3 (by omega) (by omega)
  rcases Nat.lt_or_ge x 10240 with g4 | g4
  · exact key _ cj_4 (by omega) (by omega)
  rcases Nat.lt_or_ge x 12288 with g5 | g5
  · exact key _ cj_5 (by omega) (by omega)
  rcases Nat.lt_or_ge x 14336 with g6 | g6
  · exact key _ cj_6 (by omega) (by omega)
  rcases Nat.lt_or_ge x 16384 with g7 | g7
  · exact key _ cj_7 (by omega) (by omega)
  rcases Nat.lt_or_ge x 18432 with g8 | g8
  · exact key _ cj_8 (by omega) (by omega)
  rcases Nat.lt_or_ge x 20480 with g9 | g9
  · exact key _ cj_9 (by omega) (by omega)
  rcases Nat.lt_or_ge x 22528 with g10 | g10
  · exact key _ cj_10 (by omega) (by omega)
  rcases Nat.lt_or_ge x 24576 with g11 | g11
  · exact key _ cj_11 (by omega) (by omega)
  rcases Nat.lt_or_ge x 26624 with g12 | g12
  · exact key _ cj_12 (by omega) (by omega)
  rcases Nat.lt_or_ge x 28672 with g13 | g13
  · exact key _ cj_13 (by omega) (by omega)
  rcases Nat.lt_or_ge x 30720 with g14 | g14
  · exact key _ cj_14 (by omega) (by omega)
  rcases Nat.lt_or_ge x 32768 with g15 | g15
  · exact key _ cj_15 (by omega) (by omega)
  rcases Nat.lt_or_ge x 34816 with g16 | g16
  · exact key _ cj_16 (by omega) (by omega)
  rcases Nat.lt_or_ge x 36864 with g17 | g17
  · exact key _ cj_17 (by omega) (by omega)
  rcases Nat.lt_or_ge x 38912 with g18 | g18
  · exact key _ cj_18 (by omega) (by omega)
  rcases Nat.lt_or_ge x 40960 with g19 | g19
  · exact key _ cj_19 (by omega) (by omega)
  rcases Nat.lt_or_ge x 43008 with g20 | g20
  · exact key _ cj_20 (by omega) (by omega)
  rcases Nat.lt_or_ge x 45056 with g21 | g21
  · exact key _ cj_21 (by omega) (by omega)
  rcases Nat.lt_or_ge x 47104 with g22 | g22
  · exact key _ cj_22 (by omega) (by omega)
  rcases Nat.lt_or_ge x 49152 with g23 | g23
  · exact key _ cj_23 (by omega) (by omega)
  rcases Nat.lt_or_ge x 51200 with g24 | g24
  · exact key _ cj_24 (by omega) (by omega)
  rcases Nat.lt_or_ge x 53248 with g25 | g25
  · exact key _ cj_25 (by omega) (by omega)
  rcases Nat.lt_or_ge x 55296 with g26 | g26
  · exact key _ cj_26 (by omega) (by omega)
  rcases Nat.lt_or_ge x 57344 with g27 | g27
  · exact key _ cj_27 (by omega) (by omega)
  rcases Nat.lt_or_ge x 59392 with g28 | g28
  · exact key _ cj_28 (by omega) (by omega)
  rcases Nat.lt_or_ge x 61440 with g29 | g29
  · exact key _ cj_29 (by omega) (by omega)
  rcases Nat.lt_or_ge x 63488 with g30 | g30
  · exact key _ cj_30 (by omega) (by omega)
  rcases Nat.lt_or_ge x 65536 with g31 | g31
  · exact key _ cj_31 (by omega) (by omega)
  omega
