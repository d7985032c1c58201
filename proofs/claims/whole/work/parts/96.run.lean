/-! the constructors' records hold; what they make -/
theorem okk_0 : okKM k0 = true ∧ okKs k0 0 (r_c k0) = true := by decide +kernel
theorem okk_1 : okKM k1 = true ∧ okKs k1 0 (r_c k1) = true := by decide +kernel
theorem okk_2 : okKM k2 = true ∧ okKs k2 0 (r_c k2) = true := by decide +kernel
theorem okk_3 : okKM k3 = true ∧ okKs k3 0 (r_c k3) = true := by decide +kernel
theorem okk_4 : okKM k4 = true ∧ okKs k4 0 (r_c k4) = true := by decide +kernel
theorem okk_5 : okKM k5 = true ∧ okKs k5 0 (r_c k5) = true := by decide +kernel
theorem okk_6 : okKM k6 = true ∧ okKs k6 0 (r_c k6) = true := by decide +kernel
theorem okk_7 : okKM k7 = true ∧ okKs k7 0 (r_c k7) = true := by decide +kernel
theorem okk_8 : okKM k8 = true ∧ okKs k8 0 (r_c k8) = true := by decide +kernel
theorem okk_9 : okKM k9 = true ∧ okKs k9 0 (r_c k9) = true := by decide +kernel
theorem okk_10 : okKM k10 = true ∧ okKs k10 0 (r_c k10) = true := by decide +kernel
theorem okk_11 : okKM k11 = true ∧ okKs k11 0 (r_c k11) = true := by decide +kernel
theorem okkM_12 : okKM k12 = true := by decide +kernel
theorem okkc_0 : okKs k12 0 (((r_c k12).drop 0).take 48) = true := by decide +kernel
theorem okkc_1 : okKs k12 48 (((r_c k12).drop 48).take 48) = true := by decide +kernel
theorem okkc_2 : okKs k12 96 (((r_c k12).drop 96).take 48) = true := by decide +kernel
theorem okkc_3 : okKs k12 144 (((r_c k12).drop 144).take 48) = true := by decide +kernel
theorem okkc_4 : okKs k12 192 (((r_c k12).drop 192).take 48) = true := by decide +kernel
theorem okkc_5 : okKs k12 240 (((r_c k12).drop 240).take 48) = true := by decide +kernel
theorem okkc_6 : okKs k12 288 (((r_c k12).drop 288).take 48) = true := by decide +kernel
theorem okkc_7 : okKs k12 336 (((r_c k12).drop 336).take 48) = true := by decide +kernel
theorem okkc_8 : okKs k12 384 (((r_c k12).drop 384).take 48) = true := by decide +kernel
theorem okkc_9 : okKs k12 432 (((r_c k12).drop 432).take 48) = true := by decide +kernel
theorem okkc_10 : okKs k12 480 (((r_c k12).drop 480).take 48) = true := by decide +kernel
theorem okkc_11 : okKs k12 528 (((r_c k12).drop 528).take 48) = true := by decide +kernel
theorem okkc_12 : okKs k12 576 (((r_c k12).drop 576).take 48) = true := by decide +kernel
theorem okk_12 : okKM k12 = true ∧ okKs k12 0 (r_c k12) = true := by
  have h12 : okKs k12 576 ((r_c k12).drop 576) = true := by
    have e : ((r_c k12).drop 576).take 48 = (r_c k12).drop 576 := List.take_of_length_le (by decide +kernel)
    rw [← e]; exact okkc_12
  have h11 : okKs k12 528 ((r_c k12).drop 528) = true := okKs_cut okkc_11 (by decide +kernel) h12
  have h10 : okKs k12 480 ((r_c k12).drop 480) = true := okKs_cut okkc_10 (by decide +kernel) h11
  have h9 : okKs k12 432 ((r_c k12).drop 432) = true := okKs_cut okkc_9 (by decide +kernel) h10
  have h8 : okKs k12 384 ((r_c k12).drop 384) = true := okKs_cut okkc_8 (by decide +kernel) h9
  have h7 : okKs k12 336 ((r_c k12).drop 336) = true := okKs_cut okkc_7 (by decide +kernel) h8
  have h6 : okKs k12 288 ((r_c k12).drop 288) = true := okKs_cut okkc_6 (by decide +kernel) h7
  have h5 : okKs k12 240 ((r_c k12).drop 240) = true := okKs_cut okkc_5 (by decide +kernel) h6
  have h4 : okKs k12 192 ((r_c k12).drop 192) = true := okKs_cut okkc_4 (by decide +kernel) h5
  have h3 : okKs k12 144 ((r_c k12).drop 144) = true := okKs_cut okkc_3 (by decide +kernel) h4
  have h2 : okKs k12 96 ((r_c k12).drop 96) = true := okKs_cut okkc_2 (by decide +kernel) h3
  have h1 : okKs k12 48 ((r_c k12).drop 48) = true := okKs_cut okkc_1 (by decide +kernel) h2
  have h0 : okKs k12 0 ((r_c k12).drop 0) = true := okKs_cut okkc_0 (by decide +kernel) h1
  exact ⟨okkM_12, h0⟩
theorem okk_L : okKs kL 0 ((r_c kL).take 8) = true := by decide +kernel
theorem run_9 : (ccall 8 9 0 [bornO 9]).isSome = true := by decide +kernel
theorem run_2 : (ccall 8 2 0 [bornO 2]).isSome = true := by decide +kernel
theorem run_12 : (ccall 8 12 0 [bornO 12]).isSome = true := by decide +kernel
theorem run_11 : (ccall 8 11 0 [bornO 11]).isSome = true := by decide +kernel
theorem run_t : (match cgo (ccall 8) (r_c kL) 8 3000 0 [some (.inr 2000), none, none, none] [] [] with
  | some (ls, [], w) => decide (ls = [some (.inr 2000), some (.inr 0), some (.inr 123), none]) && Nat.beq w.length NO
  | _ => false) = true := by decide +kernel
