/-! ===== the check of the law, by the kernel, in pieces (printed by wip/whole/gen18.py) ===== -/
set_option maxRecDepth 100000 in
theorem j_lc_27 : (List.range 25).all (fun i => j_lawp (675 + i)) = true := by decide +kernel
set_option maxRecDepth 100000 in
theorem j_lc_28 : (List.range 25).all (fun i => j_lawp (700 + i)) = true := by decide +kernel
set_option maxRecDepth 100000 in
theorem j_lc_29 : (List.range 25).all (fun i => j_lawp (725 + i)) = true := by decide +kernel
set_option maxRecDepth 100000 in
theorem j_lc_30 : (List.range 25).all (fun i => j_lawp (750 + i)) = true := by decide +kernel
set_option maxRecDepth 100000 in
theorem j_lc_31 : (List.range 25).all (fun i => j_lawp (775 + i)) = true := by decide +kernel
set_option maxRecDepth 100000 in
theorem j_lc_32 : (List.range 25).all (fun i => j_lawp (800 + i)) = true := by decide +kernel
set_option maxRecDepth 100000 in
theorem j_lc_33 : (List.range 23).all (fun i => j_lawp (825 + i)) = true := by decide +kernel
theorem j_lcat {a n : Nat} (h : (List.range n).all (fun i => j_lawp (a + i)) = true) {i : Nat} (h1 : a ≤ i) (h2 : i < a + n) : j_lawp i = true := by
  have := List.all_eq_true.mp h (i - a) (List.mem_range.mpr (by omega))
  rw [show a + (i - a) = i by omega] at this
  exact this
set_option maxRecDepth 100000 in
theorem j_lawchk : j_chks 13 code jc_266 [25, 72, 117, 162, 217, 252, 309, 357, 402, 409, 444, 479, 486, 493, 518, 553, 588, 623, 668, 713, 760, 795, 830, 837] [] false (some .boolean) [8, 0, 80, 0, 81, 0, 83, 0, 0, 0, 0, 0, 0, 0, 0, 0, 0, 0, 0, 0, 0, 0, 0, 0, 0, 0, 0, 0, 0, 0, 0, 0, 0, 0, 0, 0, 0, 0, 84, 0, 0, 0, 0, 0, 0, 0, 0, 0, 0, 0, 0, 0, 89, 0, 0, 90, 0, 0, 0, 0, 0, 0, 0, 0, 0, 0, 0, 0, 0, 0, 0, 0, 0, 0, 0, 0, 0, 0, 0, 0, 0, 0, 0, 0, 93, 0, 0, 0, 0, 0, 0, 0, 0, 0, 0, 0, 0, 96, 0, 0, 90, 0, 0, 0, 0, 0, 0, 0, 0, 0, 0, 0, 0, 0, 0, 0, 0, 0, 0, 0, 0, 0, 0, 0, 0, 0, 0, 0, 0, 97, 0, 0, 0, 0, 0, 0, 0, 0, 0, 0, 0, 0, 99, 0, 0, 90, 0, 0, 0, 0, 0, 0, 0, 0, 0, 0, 0, 0, 0, 0, 0, 0, 0, 0, 0, 0, 0, 0, 0, 0, 0, 0, 0, 0, 0, 0, 0, 0, 0, 100, 0, 0, 0, 0, 0, 0, 0, 0, 0, 0, 0, 0, 0, 0, 0, 0, 0, 103, 0, 0, 90, 0, 0, 0, 0, 0, 0, 0, 0, 0, 0, 0, 0, 0, 0, 0, 0, 0, 0, 0, 0, 0, 0, 0, 104, 0, 0, 0, 0, 0, 0, 0, 107, 0, 0, 90, 0, 0, 0, 0, 0, 0, 0, 0, 0, 0, 0, 0, 0, 0, 0, 0, 0, 0, 0, 0, 0, 0, 0, 0, 0, 0, 0, 0, 0, 0, 0, 0, 0, 0, 108, 0, 0, 0, 0, 0, 0, 0, 0, 0, 0, 0, 0, 0, 0, 0, 0, 0, 0, 111, 0, 0, 90, 0, 0, 0, 0, 0, 0, 0, 0, 0, 0, 0, 0, 0, 0, 0, 0, 0, 0, 0, 0, 0, 0, 0, 0, 0, 0, 0, 0, 112, 0, 0, 0, 0, 0, 0, 0, 0, 0, 0, 0, 0, 114, 0, 0, 90, 0, 0, 0, 0, 0, 0, 0, 0, 0, 0, 0, 0, 0, 0, 0, 0, 0, 0, 0, 0, 0, 0, 0, 0, 0, 0, 0, 0, 0, 0, 0, 115, 0, 0, 0, 0, 0, 0, 0, 0, 0, 0, 0, 0, 117, 0, 0, 90, 0, 0, 0, 0, 0, 0, 0, 0, 0, 0, 0, 0, 0, 0, 0, 0, 0, 118, 0, 121, 0, 0, 0, 0, 0, 0, 0, 0, 0, 0, 122, 0, 0, 0, 0, 0, 0, 0, 124, 0, 0, 90, 0, 0, 0, 0, 0, 0, 0, 0, 0, 0, 0, 0, 0, 0, 0, 0, 0, 0, 0, 0, 0, 0, 0, 125, 0, 0, 0, 0, 0, 0, 0, 127, 0, 0, 90, 0, 0, 0, 0, 0, 0, 0, 0, 0, 0, 0, 0, 0, 0, 0, 0, 0, 128, 0, 131, 0, 0, 0, 0, 132, 0, 135, 0, 0, 0, 0, 0, 136, 0, 0, 139, 0, 0, 90, 0, 0, 0, 0, 0, 0, 0, 0, 0, 0, 0, 0, 0, 0, 0, 0, 0, 0, 0, 0, 0, 0, 0, 140, 0, 0, 0, 0, 0, 0, 0, 142, 0, 0, 90, 0, 0, 0, 0, 0, 0, 0, 0, 0, 0, 0, 0, 0, 0, 0, 0, 0, 0, 0, 0, 0, 0, 0, 143, 0, 0, 0, 0, 0, 0, 0, 145, 0, 0, 90, 0, 0, 0, 0, 0, 0, 0, 0, 0, 0, 0, 0, 0, 0, 0, 0, 0, 0, 0, 0, 0, 0, 0, 146, 0, 0, 0, 0, 0, 0, 0, 148, 0, 0, 90, 0, 0, 0, 0, 0, 0, 0, 0, 0, 0, 0, 0, 0, 0, 0, 0, 0, 0, 0, 0, 0, 0, 0, 0, 0, 0, 0, 0, 149, 0, 0, 0, 0, 0, 0, 0, 0, 0, 0, 0, 0, 151, 0, 0, 90, 0, 0, 0, 0, 0, 0, 0, 0, 0, 0, 0, 0, 0, 0, 0, 0, 0, 0, 0, 0, 0, 0, 0, 0, 0, 0, 0, 0, 152, 0, 0, 0, 0, 0, 0, 0, 0, 0, 0, 0, 0, 154, 0, 0, 90, 0, 0, 0, 0, 0, 0, 0, 0, 0, 0, 0, 0, 0, 0, 0, 0, 0, 0, 0, 0, 0, 0, 0, 0, 0, 0, 0, 0, 0, 155, 0, 0, 0, 0, 0, 0, 0, 0, 0, 0, 0, 0, 0, 158, 0, 0, 90, 0, 0, 0, 0, 0, 0, 0, 0, 0, 0, 0, 0, 0, 0, 0, 0, 0, 0, 0, 0, 0, 0, 0, 159, 0, 0, 0, 0, 0, 0, 0, 161, 0, 0, 90, 0, 0, 0, 0, 0, 0, 0, 0, 0, 0, 0, 0, 0, 0, 0, 0, 0, 0, 0, 0, 0, 0, 0, 162, 0, 0, 0, 0, 0, 0, 0, 164, 0, 0, 90, 0, 0, 0, 0, 0, 0, 0, 0, 0, 0, 0, 0, 0, 0, 0, 0, 0, 165, 0, 168, 0, 0, 0, 0, 169, 0, 172, 0, 0, 0, 0, 0, 0, 0] = true := by
  refine List.all_eq_true.mpr fun i hi => ?_
  have hn : i < 848 := List.mem_range.mp hi
  show j_lawp i = true
  by_cases h0 : i < 25
  · exact j_lcat j_lc_0 (by omega) (by omega)
  by_cases h1 : i < 50
  · exact j_lcat j_lc_1 (by omega) (by omega)
  by_cases h2 : i < 75
  · exact j_lcat j_lc_2 (by omega) (by omega)
  by_cases h3 : i < 100
  · exact j_lcat j_lc_3 (by omega) (by omega)
  by_cases h4 : i < 125
  · exact j_lcat j_lc_4 (by omega) (by omega)
  by_cases h5 : i < 150
  · exact j_lcat j_lc_5 (by omega) (by omega)
  by_cases h6 : i < 175
  · exact j_lcat j_lc_6 (by omega) (by omega)
  by_cases h7 : i < 200
  · exact j_lcat j_lc_7 (by omega) (by omega)
  by_cases h8 : i < 225
  · exact j_lcat j_lc_8 (by omega) (by omega)
  by_cases h9 : i < 250
  · exact j_lcat j_lc_9 (by omega) (by omega)
  by_cases h10 : i < 275
  · exact j_lcat j_lc_10 (by omega) (by omega)
  by_cases h11 : i < 300
  · exact j_lcat j_lc_11 (by omega) (by omega)
  by_cases h12 : i < 325
  · exact j_lcat j_lc_12 (by omega) (by omega)
  by_cases h13 : i < 350
  · exact j_lcat j_lc_13 (by omega) (by omega)
  by_cases h14 : i < 375
  · exact j_lcat j_lc_14 (by omega) (by omega)
  by_cases h15 : i < 400
  · exact j_lcat j_lc_15 (by omega) (by omega)
  by_cases h16 : i < 425
  · exact j_lcat j_lc_16 (by omega) (by omega)
  by_cases h17 : i < 450
  · exact j_lcat j_lc_17 (by omega) (by omega)
  by_cases h18 : i < 475
  · exact j_lcat j_lc_18 (by omega) (by omega)
  by_cases h19 : i < 500
  · exact j_lcat j_lc_19 (by omega) (by omega)
  by_cases h20 : i < 525
  · exact j_lcat j_lc_20 (by omega) (by omega)
  by_cases h21 : i < 550
  · exact j_lcat j_lc_21 (by omega) (by omega)
  by_cases h22 : i < 575
  · exact j_lcat j_lc_22 (by omega) (by omega)
  by_cases h23 : i < 600
  · exact j_lcat j_lc_23 (by omega) (by omega)
  by_cases h24 : i < 625
  · exact j_lcat j_lc_24 (by omega) (by omega)
  by_cases h25 : i < 650
  · exact j_lcat j_lc_25 (by omega) (by omega)
  by_cases h26 : i < 675
  · exact j_lcat j_lc_26 (by omega) (by omega)
  by_cases h27 : i < 700
  · exact j_lcat j_lc_27 (by omega) (by omega)
  by_cases h28 : i < 725
  · exact j_lcat j_lc_28 (by omega) (by omega)
  by_cases h29 : i < 750
  · exact j_lcat j_lc_29 (by omega) (by omega)
  by_cases h30 : i < 775
  · exact j_lcat j_lc_30 (by omega) (by omega)
  by_cases h31 : i < 800
  · exact j_lcat j_lc_31 (by omega) (by omega)
  by_cases h32 : i < 825
  · exact j_lcat j_lc_32 (by omega) (by omega)
  by_cases h33 : i < 848
  · exact j_lcat j_lc_33 (by omega) (by omega)
  exact absurd hn h33
