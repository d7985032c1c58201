theorem okIs_app {r : MR} : ∀ (a b : List It) (n : Nat), okIs r n a = true → okIs r (n + a.length) b = true → okIs r n (a ++ b) = true
  | [], _, _, _, h => h
  | x :: a, b, n, h1, h2 => by
    unfold okIs at h1
    rw [Bool.and_eq_true] at h1
    show (okI r n x && okIs r (n + 1) (a ++ b)) = true
    rw [Bool.and_eq_true]
    refine ⟨h1.1, okIs_app a b (n + 1) h1.2 ?_⟩
    rw [List.length_cons] at h2
    rw [show n + 1 + a.length = n + (a.length + 1) by omega]
    exact h2
theorem okL_0 : okIs r298 0 (((r_c r298).drop 0).take 48) = true := by decide +kernel
theorem okL_1 : okIs r298 48 (((r_c r298).drop 48).take 48) = true := by decide +kernel
theorem okL_2 : okIs r298 96 (((r_c r298).drop 96).take 48) = true := by decide +kernel
theorem okL_3 : okIs r298 144 (((r_c r298).drop 144).take 48) = true := by decide +kernel
theorem okL_4 : okIs r298 192 (((r_c r298).drop 192).take 48) = true := by decide +kernel
theorem okL_5 : okIs r298 240 (((r_c r298).drop 240).take 48) = true := by decide +kernel
theorem okL_6 : okIs r298 288 (((r_c r298).drop 288).take 48) = true := by decide +kernel
theorem okL_7 : okIs r298 336 (((r_c r298).drop 336).take 48) = true := by decide +kernel
theorem okL_8 : okIs r298 384 (((r_c r298).drop 384).take 48) = true := by decide +kernel
theorem okL_9 : okIs r298 432 (((r_c r298).drop 432).take 48) = true := by decide +kernel
theorem okL_10 : okIs r298 480 (((r_c r298).drop 480).take 48) = true := by decide +kernel
theorem okL_11 : okIs r298 528 (((r_c r298).drop 528).take 48) = true := by decide +kernel
theorem okL_12 : okIs r298 576 (((r_c r298).drop 576).take 48) = true := by decide +kernel
theorem okL_13 : okIs r298 624 (((r_c r298).drop 624).take 48) = true := by decide +kernel
theorem okL_14 : okIs r298 672 (((r_c r298).drop 672).take 48) = true := by decide +kernel
theorem okL_15 : okIs r298 720 (((r_c r298).drop 720).take 48) = true := by decide +kernel
theorem okIs_cut {r : MR} {l : List It} {n k S : Nat} (h1 : okIs r n ((l.drop k).take S) = true) (hl : ((l.drop k).take S).length = S) (h2 : okIs r (n + S) (l.drop (k + S)) = true) : okIs r n (l.drop k) = true := by
  rw [← List.take_append_drop S (l.drop k), List.drop_drop]
  exact okIs_app _ _ _ h1 (by rw [hl]; exact h2)
theorem okL : okIs r298 0 (r_c r298) = true := by
  have e : ((r_c r298).drop 720).take 48 = (r_c r298).drop 720 := List.take_of_length_le (by decide +kernel)
  have h15 : okIs r298 720 ((r_c r298).drop 720) = true := e ▸ okL_15
  have h14 : okIs r298 672 ((r_c r298).drop 672) = true := okIs_cut okL_14 (by decide +kernel) h15
  have h13 : okIs r298 624 ((r_c r298).drop 624) = true := okIs_cut okL_13 (by decide +kernel) h14
  have h12 : okIs r298 576 ((r_c r298).drop 576) = true := okIs_cut okL_12 (by decide +kernel) h13
  have h11 : okIs r298 528 ((r_c r298).drop 528) = true := okIs_cut okL_11 (by decide +kernel) h12
  have h10 : okIs r298 480 ((r_c r298).drop 480) = true := okIs_cut okL_10 (by decide +kernel) h11
  have h9 : okIs r298 432 ((r_c r298).drop 432) = true := okIs_cut okL_9 (by decide +kernel) h10
  have h8 : okIs r298 384 ((r_c r298).drop 384) = true := okIs_cut okL_8 (by decide +kernel) h9
  have h7 : okIs r298 336 ((r_c r298).drop 336) = true := okIs_cut okL_7 (by decide +kernel) h8
  have h6 : okIs r298 288 ((r_c r298).drop 288) = true := okIs_cut okL_6 (by decide +kernel) h7
  have h5 : okIs r298 240 ((r_c r298).drop 240) = true := okIs_cut okL_5 (by decide +kernel) h6
  have h4 : okIs r298 192 ((r_c r298).drop 192) = true := okIs_cut okL_4 (by decide +kernel) h5
  have h3 : okIs r298 144 ((r_c r298).drop 144) = true := okIs_cut okL_3 (by decide +kernel) h4
  have h2 : okIs r298 96 ((r_c r298).drop 96) = true := okIs_cut okL_2 (by decide +kernel) h3
  have h1 : okIs r298 48 ((r_c r298).drop 48) = true := okIs_cut okL_1 (by decide +kernel) h2
  have h0 : okIs r298 0 ((r_c r298).drop 0) = true := okIs_cut okL_0 (by decide +kernel) h1
  exact h0
