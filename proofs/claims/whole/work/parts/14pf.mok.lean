/-! ===== the check of each method, by the kernel (printed by wip/whole/gen18.py) ===== -/
set_option maxRecDepth 100000 in
theorem j_mk_215 : j_F 215 := j_F_of (cps := [0, 0, 0, 0, 19, 0, 0, 0, 0, 0, 0, 0, 0, 16, 0, 0, 0, 0, 0, 0, 0, 0, 0, 0]) (by decide +kernel)
set_option maxRecDepth 100000 in
theorem j_mk_216 : j_F 216 := j_F_of (cps := [0, 0, 355, 0, 0, 336, 0, 0, 368, 0, 0, 0, 0, 0, 0, 71, 0, 0, 0, 0, 74, 0, 0, 420, 0, 0, 68, 0, 0, 0, 0, 371, 0, 0, 0, 0, 371, 0, 0, 77, 0, 0, 65, 0, 0, 0, 0, 0, 0, 0, 0, 0, 0, 0, 241, 0, 0, 343, 0, 0, 346, 0, 0, 352, 0, 0, 0, 0, 0, 0, 0, 22, 0, 0, 0, 0, 0, 0, 424, 0, 0, 22, 0, 0, 0, 0, 0, 0, 428, 0, 0, 0, 431, 0, 28, 0, 0, 0, 31, 0, 0, 0, 0, 0, 0, 0, 0, 0, 0, 0, 0, 0, 0, 0, 0, 0, 0, 0, 0, 0, 0, 343, 0, 0, 0, 0, 0, 0, 0, 0, 0, 0, 177, 0, 0, 0, 0, 0, 339, 0, 0, 0, 0, 336, 0, 343, 0, 0, 0, 0, 0]) (by decide +kernel)
set_option maxRecDepth 100000 in
theorem j_mk_217 : j_F 217 := j_F_of (cps := [0, 0, 434, 0, 0, 434, 0, 44, 0, 0, 434, 0, 0, 41, 0, 0, 0, 0, 47, 0, 0, 25, 0, 0, 0, 0, 50, 0, 0, 144, 0, 0, 0, 0, 0, 0, 0, 275, 0, 0, 53, 0, 0, 0, 0, 0, 0, 129, 0, 0, 0, 0, 0, 0, 0, 262, 0]) (by decide +kernel)
set_option maxRecDepth 100000 in
theorem j_mk_218 : j_F 218 := j_F_of (cps := [0, 0, 0, 0, 0, 0, 0, 0, 0, 0, 34, 0, 0, 0, 0, 0, 0, 0, 0, 0, 0, 0, 0, 0, 358, 0, 0, 180, 0, 0, 0, 0, 0, 0, 0, 0, 0, 0, 0, 0, 0, 0, 0, 0, 0, 0, 0, 0, 0, 0, 0, 180, 0, 0, 0, 0, 0, 0, 0, 180, 0, 0, 0, 0, 180, 0, 0, 0, 0, 0, 0, 0, 0, 0, 0, 0, 0, 0, 0, 0, 0, 0, 0, 0, 0, 0, 0]) (by decide +kernel)
set_option maxRecDepth 100000 in
theorem j_mk_219 : j_F 219 := j_F_of (cps := [0, 0, 0, 0, 0, 0, 34, 0, 0, 0, 0, 0, 0, 0, 0, 0, 0, 0, 0, 0, 358, 0, 0, 0, 180, 0, 0, 0, 0, 0, 0, 0, 339, 0, 0, 0]) (by decide +kernel)
set_option maxRecDepth 100000 in
theorem j_mk_220 : j_F 220 := j_F_of (cps := [0, 0, 0, 0, 0, 0, 0, 0, 0, 0, 0, 84, 0, 0, 0, 0, 0, 0, 0, 87, 0, 0, 0, 0, 90, 0, 0, 420, 0, 0, 0, 0, 93, 0, 0, 0, 437, 0, 0, 0, 0, 0, 0, 0, 0, 0, 0, 0, 0, 0, 0, 0]) (by decide +kernel)
set_option maxRecDepth 100000 in
theorem j_mk_221 : j_F 221 := j_F_of (cps := [0, 0, 0, 0, 0, 0, 0, 0, 0, 0, 0, 0, 0, 0, 0, 0, 0, 0]) (by decide +kernel)
set_option maxRecDepth 100000 in
theorem j_mk_222 : j_F 222 := j_F_of (cps := [0, 37, 0, 0, 0, 0, 0, 441, 0, 0, 0, 0, 84, 0, 0, 0, 0, 0, 0, 0, 0, 0, 0, 0, 0, 0, 0, 0, 0, 0, 0, 87, 0, 0, 0, 0, 0, 0, 0, 0, 0, 444, 0, 90, 0, 0, 90, 0, 0, 0, 0, 0, 0, 93, 0, 0, 0, 0, 0, 0, 0, 0, 0, 444, 0, 96, 0, 0, 0, 0, 0, 0, 0, 0, 0, 444, 0, 99, 0, 0, 0, 0, 0, 0, 0, 0, 0, 444, 0, 0, 0, 84, 0, 0, 0, 0, 0, 0, 0, 0, 0, 0, 84, 0, 0, 0, 0, 0, 84, 0, 0, 0, 0, 0, 0, 0, 0, 0, 87, 0, 0, 0, 448, 0, 90, 0, 0, 19, 0, 0, 0, 0, 0, 0, 93, 0, 0, 0, 452, 0, 0, 0, 0, 0, 0, 96, 0, 0, 0, 0, 0, 0, 59, 0, 0, 0, 0, 0, 0, 0, 0, 0, 0, 0, 62, 0, 0, 0, 0, 99, 0, 0, 0, 339, 0]) (by decide +kernel)
set_option maxRecDepth 100000 in
theorem j_mk_223 : j_F 223 := j_F_of (cps := [0, 0, 0, 0, 59, 0, 62, 455, 0, 0, 68, 0, 0, 368, 0, 0, 74, 0, 0, 19, 0, 0, 0, 0, 0, 0, 71, 0, 0, 0, 448, 0, 56, 0, 0, 0, 0, 0, 0, 0, 343, 0, 0, 346, 0, 0, 0, 0, 459, 0, 0, 459, 0, 0, 0, 0, 0, 0, 0, 462, 0, 0, 0, 0, 465, 0]) (by decide +kernel)
set_option maxRecDepth 100000 in
theorem j_mk_224 : j_F 224 := j_F_of (cps := [0, 37, 0, 0, 0, 0, 0, 0, 0, 441, 0, 0, 0, 0, 0, 0, 0, 468, 0, 0, 0, 0, 0, 0, 0, 0, 59, 0, 0, 0, 0, 0, 0, 96, 0, 0, 0, 0, 0, 0, 0, 0, 0, 0, 0, 99, 0, 0, 0, 0, 62, 0, 0, 0, 339, 0, 56, 0, 0, 0, 0, 0, 471, 0, 0, 471, 0, 0, 0, 462, 0, 0]) (by decide +kernel)
set_option maxRecDepth 100000 in
theorem j_mk_225 : j_F 225 := j_F_of (cps := [0, 324, 0, 0, 147, 0, 0, 0, 0, 0, 0, 0, 0, 333, 0, 0, 144, 0, 0, 321, 0, 0, 0, 330, 0, 0, 0]) (by decide +kernel)
set_option maxRecDepth 100000 in
theorem j_mk_226 : j_F 226 := j_F_of (cps := [0, 0, 269, 0, 0, 324, 0, 0, 0, 0, 0, 150, 0, 0, 0, 0, 0, 0, 0, 0, 233, 0, 0, 0, 474, 0, 0, 0]) (by decide +kernel)
set_option maxRecDepth 100000 in
theorem j_mk_227 : j_F 227 := j_F_of (cps := [0, 0, 183, 0, 324, 0, 0, 0, 0, 0, 0, 0, 0, 0, 255, 0, 0, 150, 0, 0, 0, 0, 62, 0, 0, 0, 0, 0, 0, 0, 0, 0, 0, 0, 0, 0, 0, 0, 0, 0, 59, 0, 0, 0, 0, 0, 0, 0, 0, 0, 0, 0, 0, 0, 0, 0, 0, 0, 0, 0, 0, 0, 19, 0, 0, 0, 0, 16, 0, 0, 0, 0, 0, 0, 0, 0, 0, 16, 0, 0, 0, 0, 0, 0, 0, 0, 0, 0, 0, 0, 0, 0, 0, 102, 0, 0, 0, 0, 0, 0, 0, 0, 0, 105, 0, 0, 0, 448, 0, 108, 0, 0, 19, 0, 0, 0, 0, 0, 0, 111, 0, 0, 0, 452, 0, 0, 0, 0, 0, 0, 114, 0, 0, 0, 0, 0, 0, 59, 0, 0, 0, 0, 0, 0, 0, 0, 0, 0, 0, 62, 0, 0, 0, 0, 117, 0, 0, 0, 339, 0, 0, 0, 0]) (by decide +kernel)
set_option maxRecDepth 100000 in
theorem j_mk_228 : j_F 228 := j_F_of (cps := [0, 0, 183, 0, 324, 0, 0, 477, 0, 0, 480, 0, 0, 0, 0, 0, 0, 255, 0, 0, 0, 477, 0, 150, 0, 0, 0, 0, 0, 0, 0, 0, 0, 477, 0, 0, 480, 0, 150, 0, 0, 0, 0, 0, 0, 0, 0, 0, 0, 480, 0, 0, 150, 0, 0, 0, 0, 0, 0, 0, 0, 0, 41, 0, 0, 0, 0, 84, 0, 0, 0, 0, 0, 0, 0, 262, 0, 0]) (by decide +kernel)
set_option maxRecDepth 100000 in
theorem j_mk_229 : j_F 229 := j_F_of (cps := [0, 102, 0, 0, 0, 0, 0, 0, 105, 0, 0, 0, 0, 108, 0, 0, 420, 0, 0, 0, 0, 111, 0, 0, 0, 437, 0, 0, 0, 0, 0]) (by decide +kernel)
set_option maxRecDepth 100000 in
theorem j_mk_230 : j_F 230 := j_F_of (cps := [0, 477, 0, 0, 0, 0, 0, 0, 0, 483, 0, 0, 0, 0, 468, 0, 0, 0, 0, 0, 0, 0, 0, 59, 0, 0, 0, 0, 0, 0, 114, 0, 0, 0, 0, 0, 0, 0, 0, 0, 0, 0, 117, 0, 0, 0, 0, 62, 0, 0, 0, 339, 0, 56, 0, 0, 0, 0, 0, 0, 462, 0, 0]) (by decide +kernel)
set_option maxRecDepth 100000 in
theorem j_mk_231 : j_F 231 := j_F_of (cps := [0, 0, 262, 0, 0, 233, 0, 0, 0, 0, 0, 0, 477, 0, 480, 0, 0, 0, 0, 0, 0, 0, 324, 0, 0, 0, 255, 0, 0, 0, 0, 0, 0, 0, 0, 0, 0, 0, 0, 0, 150, 0, 0, 0, 0, 0, 0, 144, 0, 0, 321, 0, 0, 0, 0, 0, 0, 0, 0, 0, 0, 0, 0, 0, 0, 0, 0, 0, 0, 0, 0, 0, 0, 0, 0, 0, 0, 0, 486, 0, 0, 0, 0, 0, 262, 0, 0]) (by decide +kernel)
set_option maxRecDepth 100000 in
theorem j_mk_232 : j_F 232 := j_F_of (cps := [0, 0, 0, 269, 0, 0, 233, 0, 0, 0, 0, 324, 0, 150, 0, 0, 0]) (by decide +kernel)
set_option maxRecDepth 100000 in
theorem j_mk_233 : j_F 233 := j_F_of (cps := [0, 0, 0, 269, 0, 0, 233, 0, 0, 0, 305, 0, 0, 0]) (by decide +kernel)
set_option maxRecDepth 100000 in
theorem j_mk_234 : j_F 234 := j_F_of (cps := [0, 0, 0, 269, 0, 0, 233, 0, 0, 0, 0, 309, 0, 0, 315, 0]) (by decide +kernel)
set_option maxRecDepth 100000 in
theorem j_mk_235 : j_F 235 := j_F_of (cps := [0, 324, 0, 272, 0, 0, 0, 150, 0, 0, 0, 0, 0, 0, 474, 0, 0, 324, 0]) (by decide +kernel)
set_option maxRecDepth 100000 in
theorem j_mk_236 : j_F 236 := j_F_of (cps := [0, 0, 0, 0, 0, 0, 0, 0, 0, 0, 0, 0, 0, 0, 0, 0, 0, 0, 0, 0, 0, 0, 0]) (by decide +kernel)
set_option maxRecDepth 100000 in
theorem j_mk_237 : j_F 237 := j_F_of (cps := [0, 0, 0, 0, 0, 0, 0, 0, 0, 0, 0, 0, 0, 0, 0, 0, 0, 0, 0, 0, 0, 0, 0, 0, 0]) (by decide +kernel)
set_option maxRecDepth 100000 in
theorem j_mk_238 : j_F 238 := j_F_of (cps := [0, 0, 269, 0, 0, 0, 0, 0, 489, 0, 0, 0, 150, 0, 0, 0, 0, 62, 0, 0, 0, 0, 492, 0, 0, 0, 0, 0, 0, 0, 0, 0, 233, 0, 0, 62, 0, 0, 0, 0, 496, 0, 0, 0]) (by decide +kernel)
set_option maxRecDepth 100000 in
theorem j_mk_239 : j_F 239 := j_F_of (cps := [0, 324, 0, 0, 500, 0, 0, 0, 0, 0, 0, 255, 0, 0, 0, 150, 0, 0, 0, 0, 0, 0, 0, 0, 0, 0, 0, 0, 0, 0, 0, 0, 0, 0, 0, 0, 0, 0, 255, 0, 0, 0, 0, 0, 0, 0, 0, 0, 0, 0, 0, 0, 0, 0, 0, 0, 0, 147, 0, 0, 0, 0, 0, 0, 144, 0, 0, 308, 0, 0, 0, 0, 0, 0, 0, 0, 0, 0, 0, 0, 0, 0, 0, 0, 0, 0, 0, 0, 0, 0, 0, 0, 0, 0, 0, 0, 162, 0, 500, 0, 0, 0, 0, 500, 0, 0, 500, 0, 0, 0, 0, 0, 0, 0, 0]) (by decide +kernel)
set_option maxRecDepth 100000 in
theorem j_mk_240 : j_F 240 := j_F_of (cps := [0, 503, 0, 0, 0, 0, 0, 0, 0, 0, 159, 0, 0, 0, 0, 0, 0, 0, 0, 0, 500, 0, 0, 162, 0, 0, 0, 0, 144, 0, 0, 308, 0, 0, 0, 0, 0, 0, 0, 159, 0, 0, 0, 0, 0, 153, 0, 156, 455, 0, 0, 0, 159, 0, 0, 0, 0, 0, 0, 0, 0, 0, 0, 0, 0, 0]) (by decide +kernel)
set_option maxRecDepth 100000 in
theorem j_mk_241 : j_F 241 := j_F_of (cps := [0, 0, 269, 0, 0, 0, 0, 506, 0, 0, 0, 159, 0, 0, 0, 0, 156, 0, 0, 0, 0, 492, 0, 0, 0, 0, 0, 0, 0, 0, 0, 233, 0, 0, 156, 0, 0, 0, 0, 496, 0, 0, 0]) (by decide +kernel)
set_option maxRecDepth 100000 in
theorem j_mk_242 : j_F 242 := j_F_of (cps := [0, 0, 196, 0, 0, 233, 0, 0, 0, 0, 0, 299, 0, 0, 0, 0, 0, 0, 255, 296, 0, 0, 0, 0, 0, 0, 0, 255, 296, 0, 0, 0, 0, 0, 0, 0, 0, 0, 0, 0, 0, 0, 233, 0, 0, 129, 0, 0, 0, 0, 0, 0, 0, 0, 0, 0, 0, 489, 0, 0, 0, 0, 0, 0, 0, 0, 0, 0, 0, 0, 0, 0, 0, 0, 0, 150, 0, 0, 0, 0, 59, 0, 0, 492, 0, 0, 0, 0, 0, 0, 0, 0, 0, 233, 0, 0, 59, 0, 0, 496, 0, 0, 0]) (by decide +kernel)
set_option maxRecDepth 100000 in
theorem j_mk_243 : j_F 243 := j_F_of (cps := [0, 0, 0, 269, 0, 0, 233, 0, 0, 0, 0, 0, 489, 0, 150, 0, 0, 0, 0, 0, 56, 0, 0, 0, 0, 0]) (by decide +kernel)
set_option maxRecDepth 100000 in
theorem j_mk_244 : j_F 244 := j_F_of (cps := [0, 0, 0, 0, 0, 0, 0, 0, 233, 0, 0, 0, 0, 503, 0, 0, 500, 0, 0, 162, 0, 0, 0, 0, 0]) (by decide +kernel)
set_option maxRecDepth 100000 in
theorem j_mk_245 : j_F 245 := j_F_of (cps := [0, 0, 183, 0, 459, 0]) (by decide +kernel)
set_option maxRecDepth 100000 in
theorem j_mk_246 : j_F 246 := j_F_of (cps := [0, 0, 183, 0, 471, 0]) (by decide +kernel)
set_option maxRecDepth 100000 in
theorem j_mk_247 : j_F 247 := j_F_of (cps := [0, 0, 0, 0, 0, 7, 0, 0, 0, 0, 0, 0, 0, 0, 0, 0, 0]) (by decide +kernel)
set_option maxRecDepth 100000 in
theorem j_mk_248 : j_F 248 := j_F_of (cps := [0, 0, 0, 0, 0, 17, 0, 0, 0, 0, 0, 0, 0, 0]) (by decide +kernel)
set_option maxRecDepth 100000 in
theorem j_mk_249 : j_F 249 := j_F_of (cps := [0, 0, 0, 0, 0, 21, 0, 0, 0, 0, 0, 0, 0, 0, 0, 0, 0]) (by decide +kernel)
set_option maxRecDepth 100000 in
theorem j_mk_250 : j_F 250 := j_F_of (cps := [0, 0, 0, 0, 0, 0, 24, 0, 0, 0, 0, 0, 0, 0, 0, 0, 0, 0, 0, 0, 0]) (by decide +kernel)
set_option maxRecDepth 100000 in
theorem j_mk_251 : j_F 251 := j_F_of (cps := [0, 0, 0, 0, 30, 0, 0, 0, 0, 0, 0, 0, 0]) (by decide +kernel)
set_option maxRecDepth 100000 in
theorem j_mk_252 : j_F 252 := j_F_of (cps := [0, 0, 0, 0, 0, 0, 34, 0, 0, 0, 0, 0, 0, 0, 0, 0, 0, 0]) (by decide +kernel)
set_option maxRecDepth 100000 in
theorem j_mk_253 : j_F 253 := j_F_of (cps := [0, 0, 0, 0, 0, 38, 0, 0, 0, 0, 0, 0, 0, 0, 0, 0, 0, 0, 0, 0]) (by decide +kernel)
set_option maxRecDepth 100000 in
theorem j_mk_254 : j_F 254 := j_F_of (cps := [0, 0, 0, 0, 0, 42, 0, 0, 0, 0, 0, 0, 0, 0, 0, 0, 0]) (by decide +kernel)
set_option maxRecDepth 100000 in
theorem j_mk_255 : j_F 255 := j_F_of (cps := [0, 0, 0, 0, 45, 0, 0, 0, 0, 0, 0, 0, 0]) (by decide +kernel)
set_option maxRecDepth 100000 in
theorem j_mk_256 : j_F 256 := j_F_of (cps := [0, 0, 0, 0, 48, 0, 0, 0, 0, 0, 0, 0, 0, 0, 0, 0]) (by decide +kernel)
set_option maxRecDepth 100000 in
theorem j_mk_257 : j_F 257 := j_F_of (cps := [0, 0, 0, 51, 0, 0, 0, 0, 0, 0, 0, 0]) (by decide +kernel)
set_option maxRecDepth 100000 in
theorem j_mk_258 : j_F 258 := j_F_of (cps := [0, 0, 0, 0, 55, 0, 0, 0, 0, 0, 0, 0, 0]) (by decide +kernel)
set_option maxRecDepth 100000 in
theorem j_mk_259 : j_F 259 := j_F_of (cps := [0, 0, 0, 0, 58, 0, 0, 0, 0, 0, 0, 0, 0]) (by decide +kernel)
set_option maxRecDepth 100000 in
theorem j_mk_260 : j_F 260 := j_F_of (cps := [0, 0, 0, 0, 61, 0, 0, 0, 0, 0, 0, 0, 0]) (by decide +kernel)
set_option maxRecDepth 100000 in
theorem j_mk_261 : j_F 261 := j_F_of (cps := [0, 0, 0, 0, 0, 64, 0, 0, 0, 0, 0, 0, 0, 0, 0, 0, 0]) (by decide +kernel)
set_option maxRecDepth 100000 in
theorem j_mk_262 : j_F 262 := j_F_of (cps := [0, 0, 0, 0, 0, 67, 0, 0, 0, 0, 0, 0, 0, 0, 0, 0, 0]) (by decide +kernel)
set_option maxRecDepth 100000 in
theorem j_mk_263 : j_F 263 := j_F_of (cps := [0, 0, 0, 0, 0, 70, 0, 0, 0, 0, 0, 0, 0, 0, 0, 0, 0]) (by decide +kernel)
set_option maxRecDepth 100000 in
theorem j_mk_264 : j_F 264 := j_F_of (cps := [0, 0, 0, 0, 74, 0, 0, 0, 0, 0, 0, 0, 0]) (by decide +kernel)
set_option maxRecDepth 100000 in
theorem j_mk_265 : j_F 265 := j_F_of (cps := [0, 0, 0, 0, 77, 0, 0, 0, 0, 0, 0, 0, 0]) (by decide +kernel)
set_option maxRecDepth 100000 in
theorem j_mk_267 : j_F 267 := j_F_of (cps := [0, 0, 0, 0, 265, 0, 0, 0, 0, 266, 0, 0, 0, 0, 266, 0, 0, 0, 0, 0, 0, 0, 0, 267, 0, 0, 0, 0, 0, 0, 0, 0, 0, 0, 0, 0, 0, 0, 0, 0, 0, 0]) (by decide +kernel)
set_option maxRecDepth 100000 in
theorem j_Fall : ∀ k ∈ jCall, j_F k := by
  unfold jCall
  refine j_all_cons j_mk_0 ?_
  refine j_all_cons j_mk_1 ?_
  refine j_all_cons j_mk_2 ?_
  refine j_all_cons j_mk_3 ?_
  refine j_all_cons j_mk_4 ?_
  refine j_all_cons j_mk_5 ?_
  refine j_all_cons j_mk_6 ?_
  refine j_all_cons j_mk_7 ?_
  refine j_all_cons j_mk_8 ?_
  refine j_all_cons j_mk_9 ?_
  refine j_all_cons j_mk_10 ?_
  refine j_all_cons j_mk_11 ?_
  refine j_all_cons j_mk_12 ?_
  refine j_all_cons j_mk_13 ?_
  refine j_all_cons j_mk_14 ?_
  refine j_all_cons j_mk_15 ?_
  refine j_all_cons j_mk_16 ?_
  refine j_all_cons j_mk_17 ?_
  refine j_all_cons j_mk_18 ?_
  refine j_all_cons j_mk_19 ?_
  refine j_all_cons j_mk_20 ?_
  refine j_all_cons j_mk_21 ?_
  refine j_all_cons j_mk_22 ?_
  refine j_all_cons j_mk_23 ?_
  refine j_all_cons j_mk_24 ?_
  refine j_all_cons j_mk_25 ?_
  refine j_all_cons j_mk_26 ?_
  refine j_all_cons j_mk_27 ?_
  refine j_all_cons j_mk_28 ?_
  refine j_all_cons j_mk_29 ?_
  refine j_all_cons j_mk_30 ?_
  refine j_all_cons j_mk_31 ?_
  refine j_all_cons j_mk_32 ?_
  refine j_all_cons j_mk_33 ?_
  refine j_all_cons j_mk_34 ?_
  refine j_all_cons j_mk_35 ?_
  refine j_all_cons j_mk_36 ?_
  refine j_all_cons j_mk_37 ?_
  refine j_all_cons j_mk_38 ?_
  refine j_all_cons j_mk_39 ?_
  refine j_all_cons j_mk_40 ?_
  refine j_all_cons j_mk_41 ?_
  refine j_all_cons j_mk_42 ?_
  refine j_all_cons j_mk_43 ?_
  refine j_all_cons j_mk_44 ?_
  refine j_all_cons j_mk_45 ?_
  refine j_all_cons j_mk_46 ?_
  refine j_all_cons j_mk_47 ?_
  refine j_all_cons j_mk_48 ?_
  refine j_all_cons j_mk_49 ?_
  refine j_all_cons j_mk_50 ?_
  refine j_all_cons j_mk_51 ?_
  refine j_all_cons j_mk_52 ?_
  refine j_all_cons j_mk_53 ?_
  refine j_all_cons j_mk_54 ?_
  refine j_all_cons j_mk_55 ?_
  refine j_all_cons j_mk_56 ?_
  refine j_all_cons j_mk_57 ?_
  refine j_all_cons j_mk_58 ?_
  refine j_all_cons j_mk_59 ?_
  refine j_all_cons j_mk_60 ?_
  refine j_all_cons j_mk_61 ?_
  refine j_all_cons j_mk_62 ?_
  refine j_all_cons j_mk_63 ?_
  refine j_all_cons j_mk_64 ?_
  refine j_all_cons j_mk_65 ?_
  refine j_all_cons j_mk_66 ?_
  refine j_all_cons j_mk_67 ?_
  refine j_all_cons j_mk_68 ?_
  refine j_all_cons j_mk_69 ?_
  refine j_all_cons j_mk_70 ?_
  refine j_all_cons j_mk_71 ?_
  refine j_all_cons j_mk_72 ?_
  refine j_all_cons j_mk_73 ?_
  refine j_all_cons j_mk_74 ?_
  refine j_all_cons j_mk_75 ?_
  refine j_all_cons j_mk_76 ?_
  refine j_all_cons j_mk_77 ?_
  refine j_all_cons j_mk_78 ?_
  refine j_all_cons j_mk_79 ?_
  refine j_all_cons j_mk_80 ?_
  refine j_all_cons j_mk_81 ?_
  refine j_all_cons j_mk_82 ?_
  refine j_all_cons j_mk_83 ?_
  refine j_all_cons j_mk_84 ?_
  refine j_all_cons j_mk_85 ?_
  refine j_all_cons j_mk_86 ?_
  refine j_all_cons j_mk_87 ?_
  refine j_all_cons j_mk_88 ?_
  refine j_all_cons j_mk_89 ?_
  refine j_all_cons j_mk_90 ?_
  refine j_all_cons j_mk_91 ?_
  refine j_all_cons j_mk_92 ?_
  refine j_all_cons j_mk_93 ?_
  refine j_all_cons j_mk_94 ?_
  refine j_all_cons j_mk_95 ?_
  refine j_all_cons j_mk_96 ?_
  refine j_all_cons j_mk_97 ?_
  refine j_all_cons j_mk_98 ?_
  refine j_all_cons j_mk_99 ?_
  refine j_all_cons j_mk_100 ?_
  refine j_all_cons j_mk_101 ?_
  refine j_all_cons j_mk_102 ?_
  refine j_all_cons j_mk_103 ?_
  refine j_all_cons j_mk_104 ?_
  refine j_all_cons j_mk_105 ?_
  refine j_all_cons j_mk_106 ?_
  refine j_all_cons j_mk_107 ?_
  refine j_all_cons j_mk_108 ?_
  refine j_all_cons j_mk_109 ?_
  refine j_all_cons j_mk_110 ?_
  refine j_all_cons j_mk_111 ?_
  refine j_all_cons j_mk_112 ?_
  refine j_all_cons j_mk_113 ?_
  refine j_all_cons j_mk_114 ?_
  refine j_all_cons j_mk_115 ?_
  refine j_all_cons j_mk_116 ?_
  refine j_all_cons j_mk_117 ?_
  refine j_all_cons j_mk_118 ?_
  refine j_all_cons j_mk_119 ?_
  refine j_all_cons j_mk_120 ?_
  refine j_all_cons j_mk_121 ?_
  refine j_all_cons j_mk_122 ?_
  refine j_all_cons j_mk_123 ?_
  refine j_all_cons j_mk_124 ?_
  refine j_all_cons j_mk_125 ?_
  refine j_all_cons j_mk_126 ?_
  refine j_all_cons j_mk_127 ?_
  refine j_all_cons j_mk_128 ?_
  refine j_all_cons j_mk_129 ?_
  refine j_all_cons j_mk_130 ?_
  refine j_all_cons j_mk_131 ?_
  refine j_all_cons j_mk_132 ?_
  refine j_all_cons j_mk_133 ?_
  refine j_all_cons j_mk_134 ?_
  refine j_all_cons j_mk_135 ?_
  refine j_all_cons j_mk_136 ?_
  refine j_all_cons j_mk_137 ?_
  refine j_all_cons j_mk_138 ?_
  refine j_all_cons j_mk_139 ?_
  refine j_all_cons j_mk_140 ?_
  refine j_all_cons j_mk_141 ?_
  refine j_all_cons j_mk_142 ?_
  refine j_all_cons j_mk_143 ?_
  refine j_all_cons j_mk_144 ?_
  refine j_all_cons j_mk_145 ?_
  refine j_all_cons j_mk_146 ?_
  refine j_all_cons j_mk_147 ?_
  refine j_all_cons j_mk_148 ?_
  refine j_all_cons j_mk_149 ?_
  refine j_all_cons j_mk_150 ?_
  refine j_all_cons j_mk_151 ?_
  refine j_all_cons j_mk_152 ?_
  refine j_all_cons j_mk_153 ?_
  refine j_all_cons j_mk_154 ?_
  refine j_all_cons j_mk_155 ?_
  refine j_all_cons j_mk_156 ?_
  refine j_all_cons j_mk_157 ?_
  refine j_all_cons j_mk_158 ?_
  refine j_all_cons j_mk_159 ?_
  refine j_all_cons j_mk_160 ?_
  refine j_all_cons j_mk_161 ?_
  refine j_all_cons j_mk_162 ?_
  refine j_all_cons j_mk_163 ?_
  refine j_all_cons j_mk_164 ?_
  refine j_all_cons j_mk_165 ?_
  refine j_all_cons j_mk_166 ?_
  refine j_all_cons j_mk_167 ?_
  refine j_all_cons j_mk_168 ?_
  refine j_all_cons j_mk_169 ?_
  refine j_all_cons j_mk_170 ?_
  refine j_all_cons j_mk_171 ?_
  refine j_all_cons j_mk_172 ?_
  refine j_all_cons j_mk_173 ?_
  refine j_all_cons j_mk_174 ?_
  refine j_all_cons j_mk_175 ?_
  refine j_all_cons j_mk_176 ?_
  refine j_all_cons j_mk_177 ?_
  refine j_all_cons j_mk_178 ?_
  refine j_all_cons j_mk_179 ?_
  refine j_all_cons j_mk_180 ?_
  refine j_all_cons j_mk_181 ?_
  refine j_all_cons j_mk_182 ?_
  refine j_all_cons j_mk_183 ?_
  refine j_all_cons j_mk_184 ?_
  refine j_all_cons j_mk_185 ?_
  refine j_all_cons j_mk_186 ?_
  refine j_all_cons j_mk_187 ?_
  refine j_all_cons j_mk_188 ?_
  refine j_all_cons j_mk_189 ?_
  refine j_all_cons j_mk_190 ?_
  refine j_all_cons j_mk_191 ?_
  refine j_all_cons j_mk_192 ?_
  refine j_all_cons j_mk_193 ?_
  refine j_all_cons j_mk_194 ?_
  refine j_all_cons j_mk_195 ?_
  refine j_all_cons j_mk_196 ?_
  refine j_all_cons j_mk_197 ?_
  refine j_all_cons j_mk_198 ?_
  refine j_all_cons j_mk_199 ?_
  refine j_all_cons j_mk_200 ?_
  refine j_all_cons j_mk_201 ?_
  refine j_all_cons j_mk_202 ?_
  refine j_all_cons j_mk_203 ?_
  refine j_all_cons j_mk_204 ?_
  refine j_all_cons j_mk_205 ?_
  refine j_all_cons j_mk_206 ?_
  refine j_all_cons j_mk_207 ?_
  refine j_all_cons j_mk_208 ?_
  refine j_all_cons j_mk_209 ?_
  refine j_all_cons j_mk_210 ?_
  refine j_all_cons j_mk_211 ?_
  refine j_all_cons j_mk_212 ?_
  refine j_all_cons j_mk_213 ?_
  refine j_all_cons j_mk_214 ?_
  refine j_all_cons j_mk_215 ?_
  refine j_all_cons j_mk_216 ?_
  refine j_all_cons j_mk_217 ?_
  refine j_all_cons j_mk_218 ?_
  refine j_all_cons j_mk_219 ?_
  refine j_all_cons j_mk_220 ?_
  refine j_all_cons j_mk_221 ?_
  refine j_all_cons j_mk_222 ?_
  refine j_all_cons j_mk_223 ?_
  refine j_all_cons j_mk_224 ?_
  refine j_all_cons j_mk_225 ?_
  refine j_all_cons j_mk_226 ?_
  refine j_all_cons j_mk_227 ?_
  refine j_all_cons j_mk_228 ?_
  refine j_all_cons j_mk_229 ?_
  refine j_all_cons j_mk_230 ?_
  refine j_all_cons j_mk_231 ?_
  refine j_all_cons j_mk_232 ?_
  refine j_all_cons j_mk_233 ?_
  refine j_all_cons j_mk_234 ?_
  refine j_all_cons j_mk_235 ?_
  refine j_all_cons j_mk_236 ?_
  refine j_all_cons j_mk_237 ?_
  refine j_all_cons j_mk_238 ?_
  refine j_all_cons j_mk_239 ?_
  refine j_all_cons j_mk_240 ?_
  refine j_all_cons j_mk_241 ?_
  refine j_all_cons j_mk_242 ?_
  refine j_all_cons j_mk_243 ?_
  refine j_all_cons j_mk_244 ?_
  refine j_all_cons j_mk_245 ?_
  refine j_all_cons j_mk_246 ?_
  refine j_all_cons j_mk_247 ?_
  refine j_all_cons j_mk_248 ?_
  refine j_all_cons j_mk_249 ?_
  refine j_all_cons j_mk_250 ?_
  refine j_all_cons j_mk_251 ?_
  refine j_all_cons j_mk_252 ?_
  refine j_all_cons j_mk_253 ?_
  refine j_all_cons j_mk_254 ?_
  refine j_all_cons j_mk_255 ?_
  refine j_all_cons j_mk_256 ?_
  refine j_all_cons j_mk_257 ?_
  refine j_all_cons j_mk_258 ?_
  refine j_all_cons j_mk_259 ?_
  refine j_all_cons j_mk_260 ?_
  refine j_all_cons j_mk_261 ?_
  refine j_all_cons j_mk_262 ?_
  refine j_all_cons j_mk_263 ?_
  refine j_all_cons j_mk_264 ?_
  refine j_all_cons j_mk_265 ?_
  refine j_all_cons j_mk_267 ?_
  exact j_all_nil
