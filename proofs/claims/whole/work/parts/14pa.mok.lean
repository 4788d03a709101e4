/-! ===== the check of each method, by the kernel (printed by wip/whole/gen18.py) ===== -/
set_option maxRecDepth 100000 in
theorem j_mk_0 : j_F 0 := j_F_of (cps := [0, 3, 0, 9, 0, 11, 12, 0, 18, 0, 20, 21, 0, 25, 0, 27, 28, 0, 25, 0, 27, 32, 0, 35, 0, 37, 38, 0, 42, 0, 44, 45, 0, 0, 42, 49, 0, 0, 0, 53, 0, 0, 0, 0, 0, 0, 49, 0, 42, 0, 44, 0, 0, 0, 0]) (by decide +kernel)
set_option maxRecDepth 100000 in
theorem j_mk_1 : j_F 1 := j_F_of (cps := [0, 12, 0, 57, 0, 0, 12, 0, 57, 0, 0, 12, 0, 57, 0, 0, 0, 0, 0]) (by decide +kernel)
set_option maxRecDepth 100000 in
theorem j_mk_2 : j_F 2 := j_F_of (cps := [0, 0, 0, 0, 61, 0, 0, 65, 0, 0, 49, 0, 0, 0, 12, 0, 69, 0, 0, 49, 0, 0, 0, 0, 0, 0, 0]) (by decide +kernel)
set_option maxRecDepth 100000 in
theorem j_mk_3 : j_F 3 := j_F_of (cps := [0, 65, 0, 0, 49, 0, 73, 0, 0, 12, 0, 0, 28, 76, 0, 0, 73, 0, 0, 0, 0, 73, 0, 0, 61, 0, 0, 0, 80, 61, 0]) (by decide +kernel)
set_option maxRecDepth 100000 in
theorem j_mk_4 : j_F 4 := j_F_of (cps := [0, 0, 86, 0, 0, 90, 0, 0, 93, 0, 0, 0, 0, 0, 0, 53, 0, 0, 0, 96, 0, 0, 0, 0]) (by decide +kernel)
set_option maxRecDepth 100000 in
theorem j_mk_5 : j_F 5 := j_F_of (cps := [0, 86, 0, 0, 0, 93, 0, 0, 0, 0, 0, 0, 0, 0, 0, 0, 0, 0, 102, 0, 0, 0, 96, 0, 53, 0, 0, 0, 0, 0, 0, 0, 0, 0]) (by decide +kernel)
set_option maxRecDepth 100000 in
theorem j_mk_6 : j_F 6 := j_F_of (cps := [0, 0, 86, 0, 0, 61, 0, 0, 73, 0]) (by decide +kernel)
set_option maxRecDepth 100000 in
theorem j_mk_7 : j_F 7 := j_F_of (cps := [0, 3, 0, 0, 0, 9, 0, 0, 0, 15, 0, 0, 0, 18, 0]) (by decide +kernel)
set_option maxRecDepth 100000 in
theorem j_mk_8 : j_F 8 := j_F_of (cps := [0, 0, 21, 0, 0, 25, 0, 0, 28, 0, 0, 31, 0, 0, 34, 0]) (by decide +kernel)
set_option maxRecDepth 100000 in
theorem j_mk_9 : j_F 9 := j_F_of (cps := [0, 9, 0, 0, 9, 0, 0, 37, 0, 15, 0, 0, 15, 0, 0, 37, 0, 18, 0, 0, 18, 0, 0, 37, 0, 0, 21, 21, 0, 0, 25, 25, 0, 0, 28, 28, 0, 0, 31, 31, 0, 0, 34, 34, 0]) (by decide +kernel)
set_option maxRecDepth 100000 in
theorem j_mk_10 : j_F 10 := j_F_of (cps := [0, 21, 0, 0, 0, 9, 0, 21, 0, 0, 0, 15, 0, 21, 0, 0, 0, 18, 0, 21, 0, 0, 0, 0, 21, 0, 0, 21, 0]) (by decide +kernel)
set_option maxRecDepth 100000 in
theorem j_mk_11 : j_F 11 := j_F_of (cps := [0, 3, 0, 9, 0, 11, 12, 0, 0, 0, 18, 0]) (by decide +kernel)
set_option maxRecDepth 100000 in
theorem j_mk_12 : j_F 12 := j_F_of (cps := [0, 1, 0, 7, 0, 9, 10, 0, 16, 0, 18, 19, 0, 16, 0, 18, 23, 0]) (by decide +kernel)
set_option maxRecDepth 100000 in
theorem j_mk_13 : j_F 13 := j_F_of (cps := [0, 10, 0, 26, 0, 19, 0, 30, 0, 23, 0, 30, 0]) (by decide +kernel)
set_option maxRecDepth 100000 in
theorem j_mk_14 : j_F 14 := j_F_of (cps := [0, 10, 0, 34, 0, 0, 19, 0, 38, 0, 0, 0, 0, 0]) (by decide +kernel)
set_option maxRecDepth 100000 in
theorem j_mk_15 : j_F 15 := j_F_of (cps := [0, 3, 0, 9, 0, 11, 12, 0, 9, 0, 11, 18, 0, 21, 0, 23, 24, 0]) (by decide +kernel)
set_option maxRecDepth 100000 in
theorem j_mk_16 : j_F 16 := j_F_of (cps := [0, 12, 0, 28, 0, 0, 32, 0, 0, 36, 0, 0, 24, 0, 39, 0, 0, 0, 0, 44, 0, 0, 0, 0, 0, 48, 0, 0, 0, 51, 0, 0, 0, 55, 0, 0, 58, 0, 0, 0, 0, 0, 62, 0, 0, 36, 0, 0, 0, 0, 0, 0]) (by decide +kernel)
set_option maxRecDepth 100000 in
theorem j_mk_17 : j_F 17 := j_F_of (cps := [0, 65, 0, 0, 0, 0, 0, 0, 68, 0, 71, 0, 0, 74, 0, 0, 0, 0, 12, 0, 78, 0, 0, 0, 0, 0, 12, 0, 78, 0]) (by decide +kernel)
set_option maxRecDepth 100000 in
theorem j_mk_18 : j_F 18 := j_F_of (cps := [0, 0, 0, 0, 82, 0, 0, 0, 86, 0, 0, 0, 24, 0, 89, 82, 0, 0, 0, 24, 0, 89, 82, 0, 0, 0, 93, 0, 0, 0, 96, 0, 0, 99, 0, 0, 18, 0, 32, 0, 0, 103, 0, 0, 0, 0, 0, 0, 0, 107, 0, 0, 12, 0, 110, 0, 0, 0, 0, 0, 0, 0, 113, 0, 0, 0, 116, 0, 0, 0, 113, 0, 0, 0, 119, 0, 0, 0, 0, 122, 0]) (by decide +kernel)
set_option maxRecDepth 100000 in
theorem j_mk_19 : j_F 19 := j_F_of (cps := [0, 18, 0, 32, 0, 125, 0, 0, 32, 0, 0, 32, 0, 0]) (by decide +kernel)
set_option maxRecDepth 100000 in
theorem j_mk_20 : j_F 20 := j_F_of (cps := [0, 12, 0, 110, 0, 0, 0, 0, 18, 0, 32, 0, 12, 0, 78, 0, 0, 32, 0, 0, 32, 0, 0]) (by decide +kernel)
set_option maxRecDepth 100000 in
theorem j_mk_21 : j_F 21 := j_F_of (cps := [0, 0, 32, 0, 0, 32, 0, 12, 0, 0, 18, 0, 32, 78, 0, 0]) (by decide +kernel)
set_option maxRecDepth 100000 in
theorem j_mk_22 : j_F 22 := j_F_of (cps := [0, 32, 0, 0, 0, 0, 32, 0, 0, 0, 0, 18, 0, 103, 0, 0, 18, 0, 103, 0, 0, 0, 0, 18, 0, 0, 129, 0, 0, 18, 0, 0, 129, 0, 0, 18, 0, 0, 0, 0, 0, 0, 0, 0, 0, 0, 0, 0, 0, 0, 0, 0, 0, 0, 125, 0, 0, 32, 0, 0]) (by decide +kernel)
set_option maxRecDepth 100000 in
theorem j_mk_23 : j_F 23 := j_F_of (cps := [0, 32, 0, 0, 0, 0, 12, 0, 103, 0, 0, 18, 0, 103, 0, 0, 0, 0, 12, 0, 0, 12, 0, 0, 129, 0, 18, 0, 0, 129, 0, 125, 0, 0, 32, 0, 0]) (by decide +kernel)
set_option maxRecDepth 100000 in
theorem j_mk_24 : j_F 24 := j_F_of (cps := [0, 32, 0, 0, 0, 0, 18, 0, 110, 0, 0, 0, 0, 0, 0, 18, 0, 132, 0, 0, 0, 0, 18, 0, 0, 18, 0, 0, 129, 125, 0, 0]) (by decide +kernel)
set_option maxRecDepth 100000 in
theorem j_mk_25 : j_F 25 := j_F_of (cps := [0, 32, 0, 0, 0, 0, 18, 0, 110, 0, 0, 0, 0, 0, 18, 0, 0, 18, 0, 132, 125, 0, 0]) (by decide +kernel)
set_option maxRecDepth 100000 in
theorem j_mk_26 : j_F 26 := j_F_of (cps := [0, 32, 0, 0, 0, 0, 18, 0, 135, 0, 0, 0, 0, 0, 0, 18, 0, 0, 18, 0, 0, 0, 0, 129, 139, 0, 0, 0, 0, 0, 0, 32, 0, 0]) (by decide +kernel)
set_option maxRecDepth 100000 in
theorem j_mk_27 : j_F 27 := j_F_of (cps := [0, 32, 0, 0, 0, 0, 18, 0, 103, 0, 0, 0, 0, 18, 0, 132, 0, 0, 18, 0, 135, 0, 0, 0, 0, 0, 0, 18, 0, 0, 129, 0, 0, 0, 0, 142, 0, 0, 18, 0, 0, 139, 0, 0, 0, 0]) (by decide +kernel)
set_option maxRecDepth 100000 in
theorem j_mk_28 : j_F 28 := j_F_of (cps := [0, 0, 0, 0, 0, 0, 0, 0, 0, 0, 0, 0, 0, 0, 0, 0, 0, 0, 0, 0, 0, 0, 0, 0, 0, 0, 0]) (by decide +kernel)
set_option maxRecDepth 100000 in
theorem j_mk_29 : j_F 29 := j_F_of (cps := [0, 32, 0, 0, 0, 0, 0, 0, 18, 0, 0, 129, 0, 0, 0, 0, 0, 18, 0, 132, 0, 0, 0, 18, 0, 0, 129, 0, 0, 0, 0, 18, 0, 0, 129, 146, 0, 0, 0, 0, 18, 0, 132, 0, 0, 0, 0, 18, 0, 0, 0, 0, 0, 0, 0, 125, 0, 0]) (by decide +kernel)
set_option maxRecDepth 100000 in
theorem j_mk_30 : j_F 30 := j_F_of (cps := [0, 0, 0, 0, 48, 0, 0, 0, 55, 0, 0, 0, 151, 0, 154, 0, 0, 0, 62, 0, 0, 36, 0, 0, 0, 0, 0, 0, 0, 151, 157, 160, 0, 0, 0, 0, 0, 0, 0, 68, 0, 74, 0, 0, 12, 0, 0, 0, 74, 0, 0, 0, 0, 125, 0, 0, 0, 12, 0, 0, 0, 68, 0, 164, 125, 0, 0]) (by decide +kernel)
set_option maxRecDepth 100000 in
theorem j_mk_31 : j_F 31 := j_F_of (cps := [0, 0, 0, 0, 0, 0, 0, 74, 0, 0, 12, 0, 110, 0, 0, 0, 0, 0, 0, 0]) (by decide +kernel)
set_option maxRecDepth 100000 in
theorem j_mk_32 : j_F 32 := j_F_of (cps := [0, 0, 0, 0, 0, 0, 0, 0, 12, 0, 103, 0, 0, 12, 0, 0, 129, 0, 0, 0, 0, 0, 0, 12, 0, 132, 0, 0, 0, 0, 0, 0, 0, 0, 74, 0, 0, 0, 0, 0, 0, 0, 0, 0, 0, 0, 0, 0, 0]) (by decide +kernel)
set_option maxRecDepth 100000 in
theorem j_mk_33 : j_F 33 := j_F_of (cps := [0, 0, 0, 0, 0, 0, 48, 0, 0, 0, 0, 0, 48, 0, 0, 55, 0, 0, 0, 0, 0, 0, 0, 0, 0, 0, 51, 0, 0, 0, 0, 0, 0, 0, 0, 0, 0, 0]) (by decide +kernel)
set_option maxRecDepth 100000 in
theorem j_mk_34 : j_F 34 := j_F_of (cps := [0, 3, 0, 9, 0, 11, 12, 0, 18, 0, 20, 21, 0]) (by decide +kernel)
set_option maxRecDepth 100000 in
theorem j_mk_35 : j_F 35 := j_F_of (cps := [0, 0, 12, 0, 0, 21, 0, 21, 0, 25, 0, 0, 29, 0, 0, 33, 0, 0, 36, 0, 0, 0, 0, 39, 0, 0, 0, 0, 0, 43, 0, 0, 46, 0, 0, 0, 0, 29, 0, 12, 49, 0, 0, 0, 0, 29, 0]) (by decide +kernel)
set_option maxRecDepth 100000 in
theorem j_mk_36 : j_F 36 := j_F_of (cps := [0, 12, 0, 29, 52, 0, 0, 0, 0, 0, 0, 29, 0, 0, 29, 0, 0]) (by decide +kernel)
set_option maxRecDepth 100000 in
theorem j_mk_37 : j_F 37 := j_F_of (cps := [0, 12, 0, 29, 52, 0, 0, 56, 0, 0, 0, 0, 0, 29, 0, 0, 29, 0, 0, 0, 0]) (by decide +kernel)
set_option maxRecDepth 100000 in
theorem j_mk_38 : j_F 38 := j_F_of (cps := [0, 0, 0, 0, 0, 0, 0, 0, 12, 0, 29, 52, 60, 0, 0, 0, 63, 0, 0, 0, 12, 0, 29, 52, 0, 0, 0, 0, 0, 0, 29, 0, 0, 29, 0, 0, 0, 0]) (by decide +kernel)
set_option maxRecDepth 100000 in
theorem j_mk_39 : j_F 39 := j_F_of (cps := [0, 0, 0, 0, 0, 0, 69, 0, 0, 0, 0, 0, 72, 0, 0, 0, 0, 0, 0, 0]) (by decide +kernel)
set_option maxRecDepth 100000 in
theorem j_mk_40 : j_F 40 := j_F_of (cps := [0, 0, 29, 33, 0, 12, 0, 29, 52, 56, 0, 0, 12, 0, 29, 0, 0, 52, 0, 0, 0, 0, 0, 0, 0, 0, 0, 0, 0, 76, 0, 0, 21, 0, 0, 0, 33, 79, 0, 0, 0, 83, 0, 0, 0, 29, 0, 0, 29, 0, 0, 0, 0, 21, 0, 0, 0, 33, 79, 0, 0, 76, 0, 0, 0, 0, 0, 0, 0, 21, 0, 0, 0, 33, 79, 0, 21, 0, 87, 0, 0, 0, 0, 87, 0, 0, 21, 0, 0, 0, 33, 79, 0, 0, 90, 0, 0, 36, 0, 0, 0, 0, 36, 0, 0]) (by decide +kernel)
set_option maxRecDepth 100000 in
theorem j_mk_41 : j_F 41 := j_F_of (cps := [0, 21, 87, 0, 93, 0, 0, 21, 0, 97, 0, 0, 0, 0, 97, 0, 21, 0, 100, 0, 0, 0, 0, 100, 0]) (by decide +kernel)
set_option maxRecDepth 100000 in
theorem j_mk_42 : j_F 42 := j_F_of (cps := [0, 0, 103, 0, 0, 0, 0, 0, 0, 0, 0, 0, 12, 0, 29, 52, 0, 0, 0, 0, 0, 12, 0, 29, 52, 0, 0, 0, 0, 0, 0, 0, 0, 0, 0, 0, 0, 0, 29, 0, 0, 29, 0, 0, 103, 0, 0, 0, 0, 21, 0, 0, 0, 33, 79, 0, 0, 0, 0]) (by decide +kernel)
set_option maxRecDepth 100000 in
theorem j_mk_43 : j_F 43 := j_F_of (cps := [0, 0, 106, 0, 0, 0, 0, 0, 0, 0, 0, 0, 0, 72, 0, 0, 0, 106, 0, 0, 0, 0, 21, 0, 0, 0, 33, 79, 0, 0, 0, 0]) (by decide +kernel)
set_option maxRecDepth 100000 in
theorem j_mk_44 : j_F 44 := j_F_of (cps := [0, 0, 109, 0, 0, 0, 0, 0, 0, 0, 0, 0, 0, 72, 0, 0, 12, 0, 29, 52, 60, 0, 0, 0, 0, 21, 0, 0, 12, 0, 29, 52, 0, 0, 0, 33, 79, 0, 0, 29, 0, 0, 29, 0, 0, 0, 0]) (by decide +kernel)
set_option maxRecDepth 100000 in
theorem j_mk_45 : j_F 45 := j_F_of (cps := [0, 0, 0, 0, 0, 0, 0, 72, 0, 0, 0, 0, 0, 106, 0, 0, 21, 0, 0, 0, 33, 79, 0, 0, 0, 0, 72, 0, 0, 0, 0, 0, 76, 0, 0, 0, 72, 0, 0, 0, 0, 0, 0, 0, 72, 0, 0, 0, 0, 0, 112, 0, 0, 115, 0]) (by decide +kernel)
set_option maxRecDepth 100000 in
theorem j_mk_46 : j_F 46 := j_F_of (cps := [0, 12, 0, 29, 52, 60, 0, 0, 21, 0, 0, 118, 0, 33, 79, 0, 0, 0, 0, 72, 0, 0, 21, 0, 0, 0, 33, 79, 0, 0, 0, 0, 72, 0, 0, 21, 0, 0, 0, 33, 79, 0, 0, 0, 83, 0, 0, 0, 0, 0, 0, 0, 21, 0, 0, 0, 33, 79, 0, 21, 0, 100, 0, 36, 0, 93, 0, 0, 0, 0, 0, 0, 0, 100, 0, 0]) (by decide +kernel)
set_option maxRecDepth 100000 in
theorem j_mk_47 : j_F 47 := j_F_of (cps := [0, 0, 0, 0, 0, 0, 0, 76, 0, 0, 0, 0, 21, 0, 0, 0, 33, 79, 0, 0, 72, 0, 0, 21, 0, 0, 0, 33, 79, 0, 0, 0, 0, 0, 0, 0, 72, 0, 0, 0, 0, 0, 0, 0]) (by decide +kernel)
set_option maxRecDepth 100000 in
theorem j_mk_48 : j_F 48 := j_F_of (cps := [0, 83, 0, 0, 0, 0, 0, 0, 72, 0, 0, 0, 0, 83, 0, 0, 0, 0, 0, 0, 0, 21, 0, 0, 0, 33, 79, 0, 21, 0, 0, 0, 100, 0, 0, 72, 0, 0, 0, 0, 0, 72, 0, 0, 0, 0, 0, 72, 0, 0, 0, 0, 0, 0, 0, 0, 0, 0, 0, 0, 72, 0, 0, 118, 0, 0, 0, 0, 0, 0, 0, 21, 0, 0, 0, 0, 0, 0, 0, 0, 33, 79, 0, 121, 0, 0, 0, 0, 21, 0, 0, 0, 33, 79, 0, 21, 0, 0, 0, 33, 79, 0, 21, 0, 0, 0, 33, 79, 0, 21, 0, 0, 0, 87, 0, 0]) (by decide +kernel)
set_option maxRecDepth 100000 in
theorem j_mk_49 : j_F 49 := j_F_of (cps := [0, 0, 72, 0, 0, 21, 0, 0, 0, 33, 79, 0, 0, 0, 0, 72, 0, 0, 21, 0, 0, 0, 33, 79, 0, 0, 0, 0, 72, 0, 0, 21, 0, 0, 0, 33, 79, 0, 0, 0, 0, 72, 0]) (by decide +kernel)
set_option maxRecDepth 100000 in
theorem j_mk_50 : j_F 50 := j_F_of (cps := [0, 0, 0, 0, 0, 0, 0, 0, 0, 29, 33, 0, 83, 0, 0, 0, 0, 0, 0, 0, 0, 72, 0, 0, 124, 0, 0, 0, 0, 0, 0, 0, 0, 0, 21, 0, 0, 0, 33, 79, 0, 0, 0, 0, 0, 21, 0, 87, 0, 0, 0, 0, 87, 0, 0, 72, 0, 0, 21, 0, 0, 21, 87, 0, 0, 0, 100, 0, 0, 0, 0, 0, 0]) (by decide +kernel)
set_option maxRecDepth 100000 in
theorem j_mk_51 : j_F 51 := j_F_of (cps := [0, 0, 0, 0, 0, 0, 0, 0, 83, 0, 0, 0, 0, 0, 0, 0, 0, 0, 0, 0, 0, 0, 0, 0, 0, 0, 0, 0, 72, 0, 0, 0, 0, 0, 0, 0]) (by decide +kernel)
set_option maxRecDepth 100000 in
theorem j_mk_52 : j_F 52 := j_F_of (cps := [0, 3, 0, 0, 9, 0, 15, 0, 17, 18, 0]) (by decide +kernel)
set_option maxRecDepth 100000 in
theorem j_mk_53 : j_F 53 := j_F_of (cps := [0, 0, 0, 0, 22, 0, 26, 0, 0, 32, 0, 0, 35, 0, 0, 18, 0, 0, 38, 0, 0, 41, 0, 0, 0, 22, 0, 45, 0, 0, 32, 0]) (by decide +kernel)
set_option maxRecDepth 100000 in
theorem j_mk_54 : j_F 54 := j_F_of (cps := [0, 38, 0, 0, 0, 0, 0, 0, 0, 38, 0, 35, 0, 0, 18, 49, 0, 38, 0, 0, 0, 0, 41, 0, 0, 0, 0, 0, 9, 0, 0, 0, 9, 0, 0, 0, 53, 0, 9, 0, 0, 0, 54, 0, 0, 9, 0, 0, 41, 0, 0, 18, 49, 0, 38, 0, 0, 0, 18, 0, 38, 0, 0, 32, 0, 0, 38, 0, 0, 38, 0, 0]) (by decide +kernel)
set_option maxRecDepth 100000 in
theorem j_mk_55 : j_F 55 := j_F_of (cps := [0, 3, 0, 0, 0, 9, 0]) (by decide +kernel)
set_option maxRecDepth 100000 in
theorem j_mk_56 : j_F 56 := j_F_of (cps := [0, 15, 0, 0, 0, 0, 0, 9, 0, 15, 0, 0, 0, 0, 15, 0, 0, 15, 0, 0]) (by decide +kernel)
set_option maxRecDepth 100000 in
theorem j_mk_57 : j_F 57 := j_F_of (cps := [0, 0, 15, 0]) (by decide +kernel)
set_option maxRecDepth 100000 in
theorem j_mk_58 : j_F 58 := j_F_of (cps := [0, 0, 0, 0, 15, 0, 0, 9, 0, 0, 0, 0, 0]) (by decide +kernel)
set_option maxRecDepth 100000 in
theorem j_mk_59 : j_F 59 := j_F_of (cps := [0, 0, 0, 0, 15, 0, 0, 9, 0, 0, 0, 0, 0, 0, 0, 0, 0, 0]) (by decide +kernel)
