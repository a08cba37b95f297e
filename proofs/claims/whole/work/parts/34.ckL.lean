/-! THE LAW'S ROWS ARE CHECKED -/
def mm_ckr (a n : Nat) : Bool := (List.range n).all (fun i => mm_ck 225 (a + i))
theorem cl_0 : mm_ckr 0 25 = true := by decide +kernel
theorem cl_1 : mm_ckr 25 25 = true := by decide +kernel
theorem cl_2 : mm_ckr 50 25 = true := by decide +kernel
theorem cl_3 : mm_ckr 75 25 = true := by decide +kernel
theorem cl_4 : mm_ckr 100 25 = true := by decide +kernel
theorem cl_5 : mm_ckr 125 25 = true := by decide +kernel
theorem cl_6 : mm_ckr 150 25 = true := by decide +kernel
theorem cl_7 : mm_ckr 175 25 = true := by decide +kernel
theorem cl_8 : mm_ckr 200 25 = true := by decide +kernel
theorem cl_9 : mm_ckr 225 25 = true := by decide +kernel
theorem cl_10 : mm_ckr 250 25 = true := by decide +kernel
theorem cl_11 : mm_ckr 275 25 = true := by decide +kernel
theorem cl_12 : mm_ckr 300 25 = true := by decide +kernel
theorem cl_13 : mm_ckr 325 25 = true := by decide +kernel
theorem cl_14 : mm_ckr 350 25 = true := by decide +kernel
theorem cl_15 : mm_ckr 375 25 = true := by decide +kernel
theorem cl_16 : mm_ckr 400 25 = true := by decide +kernel
theorem cl_17 : mm_ckr 425 25 = true := by decide +kernel
theorem cl_18 : mm_ckr 450 25 = true := by decide +kernel
theorem cl_19 : mm_ckr 475 25 = true := by decide +kernel
theorem cl_20 : mm_ckr 500 25 = true := by decide +kernel
theorem cl_21 : mm_ckr 525 25 = true := by decide +kernel
theorem cl_22 : mm_ckr 550 25 = true := by decide +kernel
theorem cl_23 : mm_ckr 575 25 = true := by decide +kernel
theorem cl_24 : mm_ckr 600 25 = true := by decide +kernel
theorem cl_25 : mm_ckr 625 25 = true := by decide +kernel
theorem cl_26 : mm_ckr 650 25 = true := by decide +kernel
theorem cl_27 : mm_ckr 675 25 = true := by decide +kernel
theorem cl_28 : mm_ckr 700 25 = true := by decide +kernel
theorem cl_29 : mm_ckr 725 2 = true := by decide +kernel
theorem mm_law_len : (mm_tb 225).length = 727 := by decide +kernel
theorem mm_ckr_at {a n : Nat} (h : mm_ckr a n = true) {i : Nat} (h1 : a ≤ i) (h2 : i < a + n) : mm_ck 225 i = true := by
  have := List.all_eq_true.mp h (i - a) (List.mem_range.mpr (by omega))
  rw [show a + (i - a) = i by omega] at this
  exact this
theorem mm_ckl : mm_ckm 225 = true := by
  unfold mm_ckm
  rw [mm_law_len]
  refine List.all_eq_true.mpr (fun i hi => ?_)
  have hi := List.mem_range.mp hi
  by_cases h0 : i < 25
  · exact mm_ckr_at cl_0 (by omega) (by omega)
  by_cases h1 : i < 50
  · exact mm_ckr_at cl_1 (by omega) (by omega)
  by_cases h2 : i < 75
  · exact mm_ckr_at cl_2 (by omega) (by omega)
  by_cases h3 : i < 100
  · exact mm_ckr_at cl_3 (by omega) (by omega)
  by_cases h4 : i < 125
  · exact mm_ckr_at cl_4 (by omega) (by omega)
  by_cases h5 : i < 150
  · exact mm_ckr_at cl_5 (by omega) (by omega)
  by_cases h6 : i < 175
  · exact mm_ckr_at cl_6 (by omega) (by omega)
  by_cases h7 : i < 200
  · exact mm_ckr_at cl_7 (by omega) (by omega)
  by_cases h8 : i < 225
  · exact mm_ckr_at cl_8 (by omega) (by omega)
  by_cases h9 : i < 250
  · exact mm_ckr_at cl_9 (by omega) (by omega)
  by_cases h10 : i < 275
  · exact mm_ckr_at cl_10 (by omega) (by omega)
  by_cases h11 : i < 300
  · exact mm_ckr_at cl_11 (by omega) (by omega)
  by_cases h12 : i < 325
  · exact mm_ckr_at cl_12 (by omega) (by omega)
  by_cases h13 : i < 350
  · exact mm_ckr_at cl_13 (by omega) (by omega)
  by_cases h14 : i < 375
  · exact mm_ckr_at cl_14 (by omega) (by omega)
  by_cases h15 : i < 400
  · exact mm_ckr_at cl_15 (by omega) (by omega)
  by_cases h16 : i < 425
  · exact mm_ckr_at cl_16 (by omega) (by omega)
  by_cases h17 : i < 450
  · exact mm_ckr_at cl_17 (by omega) (by omega)
  by_cases h18 : i < 475
  · exact mm_ckr_at cl_18 (by omega) (by omega)
  by_cases h19 : i < 500
  · exact mm_ckr_at cl_19 (by omega) (by omega)
  by_cases h20 : i < 525
  · exact mm_ckr_at cl_20 (by omega) (by omega)
  by_cases h21 : i < 550
  · exact mm_ckr_at cl_21 (by omega) (by omega)
  by_cases h22 : i < 575
  · exact mm_ckr_at cl_22 (by omega) (by omega)
  by_cases h23 : i < 600
  · exact mm_ckr_at cl_23 (by omega) (by omega)
  by_cases h24 : i < 625
  · exact mm_ckr_at cl_24 (by omega) (by omega)
  by_cases h25 : i < 650
  · exact mm_ckr_at cl_25 (by omega) (by omega)
  by_cases h26 : i < 675
  · exact mm_ckr_at cl_26 (by omega) (by omega)
  by_cases h27 : i < 700
  · exact mm_ckr_at cl_27 (by omega) (by omega)
  by_cases h28 : i < 725
  · exact mm_ckr_at cl_28 (by omega) (by omega)
  by_cases h29 : i < 727
  · exact mm_ckr_at cl_29 (by omega) (by omega)
  exact absurd hi (by omega)
