/-! ===== the check of each method, by the kernel (printed by wip/whole/gen18.py) ===== -/
set_option maxRecDepth 100000 in
theorem j_mk_60 : j_F 60 := j_F_of (cps := [0, 15, 0, 15, 0, 0, 0, 0, 0, 0, 0, 15, 0, 0, 9, 0, 0, 0, 9, 0, 0, 0, 0, 0, 0, 0, 0, 0]) (by decide +kernel)
set_option maxRecDepth 100000 in
theorem j_mk_61 : j_F 61 := j_F_of (cps := [0, 0, 0, 0, 15, 0, 0, 9, 0, 0, 9, 0, 0, 0, 0, 0, 0, 0, 15, 15, 0]) (by decide +kernel)
set_option maxRecDepth 100000 in
theorem j_mk_62 : j_F 62 := j_F_of (cps := [0, 3, 0, 0, 0, 9, 0, 0, 0, 15, 0]) (by decide +kernel)
set_option maxRecDepth 100000 in
theorem j_mk_63 : j_F 63 := j_F_of (cps := [0, 0, 0, 0, 0, 0, 9, 0, 0, 0, 0, 0]) (by decide +kernel)
set_option maxRecDepth 100000 in
theorem j_mk_64 : j_F 64 := j_F_of (cps := [0, 0, 0, 0, 0, 0, 9, 0, 0, 0, 0, 0, 0, 0, 0]) (by decide +kernel)
set_option maxRecDepth 100000 in
theorem j_mk_65 : j_F 65 := j_F_of (cps := [0, 0, 0, 0, 0, 0, 9, 0, 0, 0, 0, 0, 9, 0, 0, 0, 0, 0, 0, 0]) (by decide +kernel)
set_option maxRecDepth 100000 in
theorem j_mk_66 : j_F 66 := j_F_of (cps := [0, 0, 0, 0, 0, 0, 0, 0, 0, 0, 0, 0, 0, 0, 0, 0, 0, 15, 0, 0, 0, 0, 0, 0, 0, 0, 0]) (by decide +kernel)
set_option maxRecDepth 100000 in
theorem j_mk_67 : j_F 67 := j_F_of (cps := [0, 0, 0, 0, 0, 0, 9, 0, 0, 0, 0, 0, 0]) (by decide +kernel)
set_option maxRecDepth 100000 in
theorem j_mk_68 : j_F 68 := j_F_of (cps := [0, 0, 0, 0, 0, 0, 9, 0, 0, 0, 0, 15, 0, 0, 0, 0, 0, 0]) (by decide +kernel)
set_option maxRecDepth 100000 in
theorem j_mk_69 : j_F 69 := j_F_of (cps := [0, 0, 0, 0, 0, 0, 9, 0, 0, 0, 0]) (by decide +kernel)
set_option maxRecDepth 100000 in
theorem j_mk_70 : j_F 70 := j_F_of (cps := [0, 0, 0, 0, 0, 0, 9, 0, 0, 0, 0, 0, 0, 0, 0, 0, 0, 0, 0, 0, 15, 0, 0, 0, 0, 0, 0, 0, 0, 9, 0, 0, 0, 0, 0, 0, 0]) (by decide +kernel)
set_option maxRecDepth 100000 in
theorem j_mk_71 : j_F 71 := j_F_of (cps := [0, 0, 0, 0, 0, 0, 0, 0, 0, 0, 0, 9, 0, 0, 9, 0, 0, 0, 0, 0, 0, 0, 0, 0, 15, 0, 0, 0, 0, 0, 0, 15, 0, 0, 0, 0, 0, 0, 0, 0, 0, 0]) (by decide +kernel)
set_option maxRecDepth 100000 in
theorem j_mk_72 : j_F 72 := j_F_of (cps := [0, 9, 0, 0, 9, 0, 0, 18, 0, 15, 0, 0, 15, 0, 0, 18, 0]) (by decide +kernel)
set_option maxRecDepth 100000 in
theorem j_mk_73 : j_F 73 := j_F_of (cps := [0, 0, 0, 0, 0, 0, 9, 0, 0, 0, 9, 0, 0, 0, 0, 0, 0, 0, 24, 0, 0, 0, 0, 0, 28, 0, 0, 0, 0, 0, 0, 0, 0, 0, 32, 0, 0, 0, 32, 0, 0, 0, 0, 0, 0, 0, 0, 0]) (by decide +kernel)
set_option maxRecDepth 100000 in
theorem j_mk_74 : j_F 74 := j_F_of (cps := [0, 0, 0, 0, 0, 0, 9, 0, 0, 0, 0, 0, 0, 0, 0, 0, 0]) (by decide +kernel)
set_option maxRecDepth 100000 in
theorem j_mk_75 : j_F 75 := j_F_of (cps := [0, 0, 0, 0, 0, 36, 0, 0, 0, 0, 0, 0, 0, 0, 0, 0, 28, 0, 0, 0, 0, 0]) (by decide +kernel)
set_option maxRecDepth 100000 in
theorem j_mk_76 : j_F 76 := j_F_of (cps := [0, 0, 0, 0, 0, 24, 0, 0, 0, 28, 0, 0, 0, 0, 0, 0, 0, 0, 0, 32, 0]) (by decide +kernel)
set_option maxRecDepth 100000 in
theorem j_mk_77 : j_F 77 := j_F_of (cps := [0, 3, 0, 0, 0, 9, 0, 0, 0, 15, 0, 0, 0, 18, 0, 0, 0, 21, 0, 0, 0, 24, 0]) (by decide +kernel)
set_option maxRecDepth 100000 in
theorem j_mk_78 : j_F 78 := j_F_of (cps := [0, 0, 0, 27, 33, 0, 0, 37, 0, 0, 0, 0, 0, 0, 0, 0, 0, 40, 0, 0, 0, 0, 0, 0, 33, 0, 0, 18, 0, 0, 0, 0, 0, 0, 44, 50, 55, 0, 0, 21, 0, 0, 18, 0, 0, 58, 0, 0, 0, 0, 0, 59, 0, 62, 0]) (by decide +kernel)
set_option maxRecDepth 100000 in
theorem j_mk_79 : j_F 79 := j_F_of (cps := [0, 9, 0, 0, 0, 0, 15, 0, 0, 0, 0, 0, 0, 0, 33, 0, 0, 9, 0, 0, 0, 0, 0, 0, 44, 65, 0, 68, 0, 0, 0, 0, 0, 0, 0, 0, 0, 15, 0, 0, 0, 0, 0, 0, 44, 72, 0, 68, 0, 0, 0, 0, 0, 0, 0, 0, 0, 0, 0, 0, 0, 0, 75, 0, 0, 9, 0, 0, 0, 0, 78, 0, 0, 0, 0, 0, 0, 0, 0, 0, 0, 0, 0, 0, 0, 0, 0, 9, 0, 0, 81, 0, 0, 0, 0, 37, 0, 9, 0, 0, 58, 0, 0, 37, 0]) (by decide +kernel)
set_option maxRecDepth 100000 in
theorem j_mk_80 : j_F 80 := j_F_of (cps := [0, 0, 0, 0, 0, 0, 0, 0, 0, 0, 68, 0, 0, 0, 0, 87, 0, 0, 0, 0, 0, 0, 0, 0]) (by decide +kernel)
set_option maxRecDepth 100000 in
theorem j_mk_81 : j_F 81 := j_F_of (cps := [0, 0, 0, 0, 0, 0, 0, 0, 15, 0, 0, 0, 68, 0, 0, 0, 0, 0, 0, 0, 58, 0, 0, 15, 0, 0, 0, 0, 90, 0, 0, 0, 0, 0, 0, 0, 0, 0, 9, 0, 0, 0, 0, 0, 0, 0, 0, 0]) (by decide +kernel)
set_option maxRecDepth 100000 in
theorem j_mk_82 : j_F 82 := j_F_of (cps := [0, 0, 0, 0, 0, 0, 9, 0, 0, 81, 0, 0, 0, 0, 0, 15, 0, 0, 90, 0, 0, 0, 0, 0, 0, 0, 9, 0, 0, 90, 0]) (by decide +kernel)
set_option maxRecDepth 100000 in
theorem j_mk_83 : j_F 83 := j_F_of (cps := [0, 0, 0, 0, 33, 0, 0, 0, 0, 0, 33, 0, 0, 21, 0, 0, 0, 0, 21, 0, 0, 0, 68, 0, 0, 21, 0, 0, 0, 0, 0, 0, 0, 0, 0, 0, 0, 0, 93, 0, 0, 0, 0, 33, 0, 0, 0, 93, 0, 21, 0, 0, 0, 68, 0, 0, 0, 0, 0, 0, 0, 93, 0, 0, 0]) (by decide +kernel)
set_option maxRecDepth 100000 in
theorem j_mk_84 : j_F 84 := j_F_of (cps := [0, 0, 0, 0, 0, 0, 33, 0, 0, 21, 0, 0, 0, 68, 0, 0, 21, 0, 0, 0, 68, 0, 0, 0, 0, 0, 0, 0, 0, 0, 0, 0, 0, 0, 0, 0, 0, 0, 0, 0]) (by decide +kernel)
set_option maxRecDepth 100000 in
theorem j_mk_85 : j_F 85 := j_F_of (cps := [0, 0, 0, 0, 96, 0, 0, 0, 0, 33, 0, 0, 0, 99, 0, 0, 0, 0, 0, 0, 24, 0, 96, 0, 0, 0, 0, 96, 0, 0, 96, 0, 0, 0, 0, 0, 0, 0, 0, 0]) (by decide +kernel)
set_option maxRecDepth 100000 in
theorem j_mk_86 : j_F 86 := j_F_of (cps := [0, 37, 0, 93, 0, 0, 0, 0, 0, 0, 33, 0, 0, 0, 0, 0, 21, 0, 0, 0, 0, 0, 0, 0, 0, 0, 0, 0, 18, 0, 0, 58, 0, 0, 0, 0, 0, 0, 0, 0, 0, 0, 0, 0, 0, 0, 0, 0, 68, 0, 0, 0, 0, 0, 0, 0]) (by decide +kernel)
set_option maxRecDepth 100000 in
theorem j_mk_87 : j_F 87 := j_F_of (cps := [0, 3, 0, 0, 0, 9, 0, 0, 0, 15, 0, 0, 0, 18, 0, 0, 0, 21, 0, 0, 0, 24, 0, 0, 0, 27, 0]) (by decide +kernel)
set_option maxRecDepth 100000 in
theorem j_mk_88 : j_F 88 := j_F_of (cps := [0, 0, 0, 0, 30, 0, 0, 0, 0, 0]) (by decide +kernel)
set_option maxRecDepth 100000 in
theorem j_mk_89 : j_F 89 := j_F_of (cps := [0, 30, 0, 0, 0, 0, 0, 0, 0, 0, 30, 0, 0, 9, 0, 0, 0, 0, 0, 0, 0, 0, 0, 9, 0, 30, 0, 0, 0, 15, 0, 30, 0, 0, 0, 18, 0, 30, 0, 0, 0, 21, 0, 30, 0, 0, 0, 0, 30, 0, 0, 30, 0, 30, 0, 0, 0]) (by decide +kernel)
set_option maxRecDepth 100000 in
theorem j_mk_90 : j_F 90 := j_F_of (cps := [0, 0, 34, 0, 0, 0, 34, 0, 0, 0, 0, 27, 0, 0, 0, 0, 0, 0, 0, 0, 0, 27, 0, 0, 0, 0, 0, 0, 0, 0, 0, 27, 0, 0, 0, 38, 0]) (by decide +kernel)
set_option maxRecDepth 100000 in
theorem j_mk_91 : j_F 91 := j_F_of (cps := [0, 0, 34, 0, 0, 15, 0, 0, 0, 18, 0, 0, 0, 42, 48, 0, 0, 0]) (by decide +kernel)
set_option maxRecDepth 100000 in
theorem j_mk_92 : j_F 92 := j_F_of (cps := [0, 0, 34, 0, 0, 24, 0, 0, 0, 0, 0, 51, 0, 0, 0, 0, 51, 0]) (by decide +kernel)
set_option maxRecDepth 100000 in
theorem j_mk_93 : j_F 93 := j_F_of (cps := [0, 0, 34, 0, 0, 21, 0, 0, 0, 0, 0]) (by decide +kernel)
set_option maxRecDepth 100000 in
theorem j_mk_94 : j_F 94 := j_F_of (cps := [0, 51, 0, 0, 0, 0, 0, 30, 0, 0, 51, 0, 38, 0, 0, 21, 0, 0, 24, 0, 0, 0, 0, 0, 0, 0, 0, 0, 30, 0, 0, 51, 0, 38, 0, 0, 0, 0, 0, 54, 0, 0, 0, 0, 0, 0, 51, 0]) (by decide +kernel)
set_option maxRecDepth 100000 in
theorem j_mk_95 : j_F 95 := j_F_of (cps := [0, 0, 0, 0, 0, 0, 0, 0, 30, 0, 0, 0, 0, 0, 30, 0, 0, 0, 0, 0, 38, 0, 0, 0, 0, 0, 0, 0, 0, 27, 0, 0, 0, 0, 0, 0, 0, 0, 0, 0, 0, 0, 21, 0, 0, 0, 0, 24, 0, 0, 57, 0, 0, 0, 0, 0, 0, 0]) (by decide +kernel)
set_option maxRecDepth 100000 in
theorem j_mk_96 : j_F 96 := j_F_of (cps := [0, 3, 0, 0, 9, 11, 0, 0, 15, 17, 0, 0, 0, 21, 0, 25, 0, 27, 28, 0, 32, 0, 34, 35, 0, 39, 0, 41, 42, 0, 46, 0, 48, 49, 0, 53, 0, 55, 56, 0, 60, 0, 62, 63, 0, 67, 0, 69, 70, 0, 0, 74, 0, 0, 0, 0, 0, 0, 11, 0, 9, 0, 78, 0, 0, 0, 0, 0, 0, 0, 0, 0, 17, 0, 15, 0, 79, 0, 0, 0, 0]) (by decide +kernel)
set_option maxRecDepth 100000 in
theorem j_mk_97 : j_F 97 := j_F_of (cps := [0, 80, 0, 84, 0, 11, 0, 0, 0, 87, 0, 91, 0, 11, 0, 0, 94, 0]) (by decide +kernel)
set_option maxRecDepth 100000 in
theorem j_mk_98 : j_F 98 := j_F_of (cps := [0, 80, 0, 0, 97, 0, 84, 0, 42, 0, 11, 0, 0, 0, 0, 49, 100, 0]) (by decide +kernel)
set_option maxRecDepth 100000 in
theorem j_mk_99 : j_F 99 := j_F_of (cps := [0, 80, 0, 0, 97, 0, 84, 0, 104, 0, 0, 91, 0, 104, 0, 0, 0, 0, 17, 0, 0, 0, 42, 0, 11, 0, 0, 0, 0, 49, 100, 107, 0, 0, 0, 0, 0, 104, 0, 0, 104, 0, 111, 0, 114, 0, 0]) (by decide +kernel)
