/-! ===== the check of the law, by the kernel, in pieces (printed by wip/whole/gen18.py) ===== -/
set_option maxRecDepth 100000 in
theorem j_lc_9 : (List.range 25).all (fun i => j_lawp (225 + i)) = true := by decide +kernel
set_option maxRecDepth 100000 in
theorem j_lc_10 : (List.range 25).all (fun i => j_lawp (250 + i)) = true := by decide +kernel
set_option maxRecDepth 100000 in
theorem j_lc_11 : (List.range 25).all (fun i => j_lawp (275 + i)) = true := by decide +kernel
set_option maxRecDepth 100000 in
theorem j_lc_12 : (List.range 25).all (fun i => j_lawp (300 + i)) = true := by decide +kernel
set_option maxRecDepth 100000 in
theorem j_lc_13 : (List.range 25).all (fun i => j_lawp (325 + i)) = true := by decide +kernel
set_option maxRecDepth 100000 in
theorem j_lc_14 : (List.range 25).all (fun i => j_lawp (350 + i)) = true := by decide +kernel
set_option maxRecDepth 100000 in
theorem j_lc_15 : (List.range 25).all (fun i => j_lawp (375 + i)) = true := by decide +kernel
set_option maxRecDepth 100000 in
theorem j_lc_16 : (List.range 25).all (fun i => j_lawp (400 + i)) = true := by decide +kernel
set_option maxRecDepth 100000 in
theorem j_lc_17 : (List.range 25).all (fun i => j_lawp (425 + i)) = true := by decide +kernel
