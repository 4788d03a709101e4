/-! ===== the check of the law, by the kernel, in pieces (printed by wip/whole/gen18.py) ===== -/
set_option maxRecDepth 100000 in
theorem j_lc_18 : (List.range 25).all (fun i => j_lawp (450 + i)) = true := by decide +kernel
set_option maxRecDepth 100000 in
theorem j_lc_19 : (List.range 25).all (fun i => j_lawp (475 + i)) = true := by decide +kernel
set_option maxRecDepth 100000 in
theorem j_lc_20 : (List.range 25).all (fun i => j_lawp (500 + i)) = true := by decide +kernel
set_option maxRecDepth 100000 in
theorem j_lc_21 : (List.range 25).all (fun i => j_lawp (525 + i)) = true := by decide +kernel
set_option maxRecDepth 100000 in
theorem j_lc_22 : (List.range 25).all (fun i => j_lawp (550 + i)) = true := by decide +kernel
set_option maxRecDepth 100000 in
theorem j_lc_23 : (List.range 25).all (fun i => j_lawp (575 + i)) = true := by decide +kernel
set_option maxRecDepth 100000 in
theorem j_lc_24 : (List.range 25).all (fun i => j_lawp (600 + i)) = true := by decide +kernel
set_option maxRecDepth 100000 in
theorem j_lc_25 : (List.range 25).all (fun i => j_lawp (625 + i)) = true := by decide +kernel
set_option maxRecDepth 100000 in
theorem j_lc_26 : (List.range 25).all (fun i => j_lawp (650 + i)) = true := by decide +kernel
