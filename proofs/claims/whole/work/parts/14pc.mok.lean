/-! ===== the check of each method, by the kernel (printed by wip/whole/gen18.py) ===== -/
set_option maxRecDepth 100000 in
theorem j_mk_100 : j_F 100 := j_F_of (cps := [0, 0, 117, 0, 120, 0, 80, 0, 84, 0, 17, 0, 0, 0, 0, 123, 0, 0, 91, 0, 0, 0, 0, 42, 0, 11, 0, 0, 0, 126, 129, 0, 49, 100, 107, 0, 0, 0, 0, 0, 123, 0, 0, 123, 0, 111, 0, 114, 0, 123, 0]) (by decide +kernel)
set_option maxRecDepth 100000 in
theorem j_mk_101 : j_F 101 := j_F_of (cps := [0, 0, 0, 0, 0, 0, 0, 0, 84, 0, 74, 0, 0, 0, 74, 0, 114, 0, 0]) (by decide +kernel)
set_option maxRecDepth 100000 in
theorem j_mk_102 : j_F 102 := j_F_of (cps := [0, 132, 0, 0, 0, 0, 0, 0, 0, 0, 0, 0, 0, 0, 0, 84, 0, 28, 0, 0, 0, 0, 0, 135, 0, 0, 0, 0, 91, 0, 111, 0, 114, 0, 0]) (by decide +kernel)
set_option maxRecDepth 100000 in
theorem j_mk_103 : j_F 103 := j_F_of (cps := [0, 28, 0, 138, 0, 0, 28, 0, 138, 0, 120, 0, 0, 0, 84, 0, 28, 0, 0, 141, 0]) (by decide +kernel)
set_option maxRecDepth 100000 in
theorem j_mk_104 : j_F 104 := j_F_of (cps := [0, 28, 0, 138, 0, 120, 0, 28, 0, 0, 145, 0, 0, 84, 0, 28, 0, 0, 149, 0, 0, 153, 0, 28, 157, 0, 0, 0]) (by decide +kernel)
set_option maxRecDepth 100000 in
theorem j_mk_105 : j_F 105 := j_F_of (cps := [0, 63, 0, 160, 0, 0, 160, 0, 28, 163, 0, 0, 153, 0, 114, 0, 63, 160, 0]) (by decide +kernel)
set_option maxRecDepth 100000 in
theorem j_mk_106 : j_F 106 := j_F_of (cps := [0, 28, 0, 138, 0, 120, 0, 28, 157, 0, 0, 0]) (by decide +kernel)
set_option maxRecDepth 100000 in
theorem j_mk_107 : j_F 107 := j_F_of (cps := [0, 0, 117, 0, 120, 0, 0, 166, 0, 0, 91, 0, 0, 170, 0]) (by decide +kernel)
set_option maxRecDepth 100000 in
theorem j_mk_108 : j_F 108 := j_F_of (cps := [0, 173, 0, 0, 0, 0, 0, 0, 104, 0, 0, 17, 0, 0, 0, 0, 0, 21, 0, 0, 0, 0, 176, 0, 180, 0, 0, 176, 0, 180, 0, 0, 183, 186, 0, 0, 0, 0, 190, 0, 190, 0, 0, 0, 0, 193, 0, 197, 0, 176, 0, 70, 0, 183, 201, 0, 0, 0, 0, 0]) (by decide +kernel)
set_option maxRecDepth 100000 in
theorem j_mk_109 : j_F 109 := j_F_of (cps := [0, 173, 0, 0, 207, 0, 0, 210, 0, 0, 0, 0, 104, 0, 0, 21, 0, 0, 0, 0, 0, 207, 0, 0, 0, 0, 207, 0, 0, 21, 0, 0, 0, 0, 0, 0, 210, 0, 0, 0, 0, 210, 0, 17, 0, 0, 213, 0, 0, 0, 0, 153, 0, 207, 216, 0]) (by decide +kernel)
set_option maxRecDepth 100000 in
theorem j_mk_110 : j_F 110 := j_F_of (cps := [0, 153, 0, 91, 0, 221, 0, 0, 207, 0, 210, 0, 0, 0, 0, 0, 0, 0, 0, 173, 0, 0, 224, 0, 0, 0, 0, 0, 0, 0, 0, 0, 0, 0, 0, 0, 0, 0, 0, 227, 0, 0, 0, 0, 0, 153, 0, 221, 0, 0, 0]) (by decide +kernel)
set_option maxRecDepth 100000 in
theorem j_mk_111 : j_F 111 := j_F_of (cps := [0, 0, 117, 0, 120, 0, 0, 166, 0]) (by decide +kernel)
set_option maxRecDepth 100000 in
theorem j_mk_112 : j_F 112 := j_F_of (cps := [0, 0, 117, 0, 120, 0, 35, 231, 0, 0, 0]) (by decide +kernel)
set_option maxRecDepth 100000 in
theorem j_mk_113 : j_F 113 := j_F_of (cps := [0, 0, 117, 0, 120, 0, 35, 0, 234, 0]) (by decide +kernel)
set_option maxRecDepth 100000 in
theorem j_mk_114 : j_F 114 := j_F_of (cps := [0, 0, 117, 0, 120, 0, 0, 237, 0, 0, 0, 170, 0, 0, 0, 166, 0, 0, 17, 0, 0, 183, 0, 0, 240, 0, 91, 0, 17, 0, 0, 183, 0, 0, 243, 0]) (by decide +kernel)
set_option maxRecDepth 100000 in
theorem j_mk_115 : j_F 115 := j_F_of (cps := [0, 0, 117, 0, 120, 0, 246, 0, 0, 0, 250, 0, 0, 17, 0, 0, 252, 0, 0, 240, 0, 91, 0, 17, 0, 0, 252, 0, 0, 243, 0]) (by decide +kernel)
set_option maxRecDepth 100000 in
theorem j_mk_116 : j_F 116 := j_F_of (cps := [0, 132, 0, 84, 0, 0, 0, 0, 0, 35, 0, 255, 0, 0, 0, 117, 0, 0, 0, 237, 0, 0, 0, 170, 0, 0, 0, 0, 0, 258, 0, 91, 0, 0, 117, 0, 0, 17, 0, 0, 183, 0, 0, 243, 0, 0, 28, 0, 0, 0, 262, 0]) (by decide +kernel)
set_option maxRecDepth 100000 in
theorem j_mk_117 : j_F 117 := j_F_of (cps := [0, 0, 117, 0, 120, 0, 0, 237, 0, 0, 0, 170, 0, 0, 0, 166, 0, 0, 0, 0, 17, 0, 0, 265, 0, 0, 17, 0, 0, 268, 0, 0, 0, 0]) (by decide +kernel)
set_option maxRecDepth 100000 in
theorem j_mk_118 : j_F 118 := j_F_of (cps := [0, 0, 120, 0, 0, 35, 271, 0, 0, 35, 274, 0, 0, 0, 0, 0]) (by decide +kernel)
set_option maxRecDepth 100000 in
theorem j_mk_119 : j_F 119 := j_F_of (cps := [0, 221, 0]) (by decide +kernel)
set_option maxRecDepth 100000 in
theorem j_mk_120 : j_F 120 := j_F_of (cps := [0, 277, 0]) (by decide +kernel)
set_option maxRecDepth 100000 in
theorem j_mk_121 : j_F 121 := j_F_of (cps := [0, 0, 0, 0, 0, 0, 0, 0, 0]) (by decide +kernel)
set_option maxRecDepth 100000 in
theorem j_mk_122 : j_F 122 := j_F_of (cps := [0, 0, 0, 0, 0, 0, 0, 0, 0, 0, 0, 0]) (by decide +kernel)
set_option maxRecDepth 100000 in
theorem j_mk_123 : j_F 123 := j_F_of (cps := [0, 0, 0, 0, 0, 0, 0, 0, 0, 0]) (by decide +kernel)
set_option maxRecDepth 100000 in
theorem j_mk_124 : j_F 124 := j_F_of (cps := [0, 0, 0, 0, 0, 0, 0, 0, 0, 0]) (by decide +kernel)
set_option maxRecDepth 100000 in
theorem j_mk_125 : j_F 125 := j_F_of (cps := [0, 0, 0, 0, 104, 0, 0, 0, 0, 0]) (by decide +kernel)
set_option maxRecDepth 100000 in
theorem j_mk_126 : j_F 126 := j_F_of (cps := [0, 0, 0, 0, 0, 0, 0, 0, 0, 0, 0, 0]) (by decide +kernel)
set_option maxRecDepth 100000 in
theorem j_mk_127 : j_F 127 := j_F_of (cps := [0, 0, 0, 0, 0, 0, 250, 0, 0, 0, 0, 0, 0, 0]) (by decide +kernel)
set_option maxRecDepth 100000 in
theorem j_mk_128 : j_F 128 := j_F_of (cps := [0, 0, 0, 0, 176, 0, 11, 0, 0, 280, 0, 126, 0, 49, 283, 0, 0, 286, 0, 11, 0, 0, 289, 0, 0, 0, 0, 0, 0, 0]) (by decide +kernel)
set_option maxRecDepth 100000 in
theorem j_mk_129 : j_F 129 := j_F_of (cps := [0, 35, 0, 17, 0, 104, 0, 28, 292, 0, 0, 153, 0]) (by decide +kernel)
