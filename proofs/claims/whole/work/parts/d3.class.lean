/-! ===== the prologue: the law up to its loop (printed by wip/whole/genpro.py) ===== -/
section SD3
variable {X : List Int32} {s d : Nat}
theorem hkc_144 : jP[144]? = some (jc_144, 1, [], []) := by rfl
def rc_144 (s : Nat) : List jE := (12, ((((((((((((((((((((((((((((((((((((((((((((((((((((((((((j_df 12).set 0 (.ref (s + 1 + 1))).set 1 (.ref (s + 2 + 1))).set 3 (.ref (s + 3 + 1))).set 4 (.ref (s + 4 + 1))).set 5 (.ref (s + 5 + 1))).set 6 (.ref (s + 6 + 1))).set 7 (.ref (s + 7 + 1))).set 8 (.ref (s + 8 + 1))).set 9 (.ref (s + 9 + 1))).set 10 (.ref (s + 10 + 1))).set 11 (.ref (s + 11 + 1))).set 12 (.ref (s + 12 + 1))).set 13 (.ref (s + 13 + 1))).set 14 (.ref (s + 14 + 1))).set 15 (.ref (s + 15 + 1))).set 16 (.ref (s + 16 + 1))).set 17 (.ref (s + 17 + 1))).set 18 (.ref (s + 18 + 1))).set 23 (.ref (s + 19 + 1))).set 24 (.ref (s + 20 + 1))).set 25 (.ref (s + 21 + 1))).set 26 (.ref (s + 22 + 1))).set 27 (.ref (s + 23 + 1))).set 31 (.int (Int32.ofNat 1))).set 33 (.ref (s + 24 + 1))).set 34 (.ref (s + 25 + 1))).set 35 (.ref (s + 26 + 1))).set 36 (.ref (s + 27 + 1))).set 37 (.ref (s + 28 + 1))).set 38 (.ref (s + 29 + 1))).set 39 (.ref (s + 30 + 1))).set 40 (.ref (s + 31 + 1))).set 41 (.ref (s + 32 + 1))).set 42 (.ref (s + 33 + 1))).set 43 (.ref (s + 34 + 1))).set 44 (.ref (s + 35 + 1))).set 49 (.ref (s + 36 + 1))).set 50 (.ref (s + 37 + 1))).set 51 (.ref (s + 38 + 1))).set 52 (.ref (s + 39 + 1))).set 53 (.ref (s + 40 + 1))).set 54 (.ref (s + 41 + 1))).set 55 (.ref (s + 42 + 1))).set 56 (.ref (s + 43 + 1))).set 57 (.ref (s + 44 + 1))).set 58 (.ref (s + 45 + 1))).set 59 (.ref (s + 46 + 1))).set 60 (.ref (s + 47 + 1))).set 61 (.ref (s + 48 + 1))).set 62 (.ref (s + 49 + 1))).set 63 (.ref (s + 50 + 1))).set 65 (.ref (s + 51 + 1))).set 68 (.ref (s + 52 + 1))).set 69 (.ref (s + 53 + 1))).set 71 (.ref (s + 54 + 1))).set 73 (.ref (s + 55 + 1))).set 78 (.ref (s + 56 + 1)))) :: (((((((((((((((((((((((((((((((((((((((((((((((((((((((([] ++ [(50, List.replicate 80 (j_dft 50))]) ++ [(50, List.replicate 2 (j_dft 50))]) ++ [(50, List.replicate 640 (j_dft 50))]) ++ [(50, List.replicate 16 (j_dft 50))]) ++ [(50, List.replicate 16 (j_dft 50))]) ++ [(50, List.replicate 16 (j_dft 50))]) ++ [(50, List.replicate 16 (j_dft 50))]) ++ [(50, List.replicate 16 (j_dft 50))]) ++ [(50, List.replicate 16 (j_dft 50))]) ++ [(52, List.replicate 16 (j_dft 52))]) ++ [(50, List.replicate 16 (j_dft 50))]) ++ [(50, List.replicate 16 (j_dft 50))]) ++ [(50, List.replicate 16 (j_dft 50))]) ++ [(50, List.replicate 16 (j_dft 50))]) ++ [(50, List.replicate 64 (j_dft 50))]) ++ [(50, List.replicate 16 (j_dft 50))]) ++ [(50, List.replicate 3744 (j_dft 50))]) ++ [(50, List.replicate 144 (j_dft 50))]) ++ [(50, List.replicate 640 (j_dft 50))]) ++ [(50, List.replicate 16 (j_dft 50))]) ++ [(50, List.replicate 640 (j_dft 50))]) ++ [(50, List.replicate 16 (j_dft 50))]) ++ [(50, List.replicate 40 (j_dft 50))]) ++ [(50, List.replicate 16 (j_dft 50))]) ++ [(50, List.replicate 2560 (j_dft 50))]) ++ [(50, List.replicate 64 (j_dft 50))]) ++ [(50, List.replicate 14976 (j_dft 50))]) ++ [(50, List.replicate 14976 (j_dft 50))]) ++ [(50, List.replicate 576 (j_dft 50))]) ++ [(52, List.replicate 16 (j_dft 52))]) ++ [(50, List.replicate 640 (j_dft 50))]) ++ [(50, List.replicate 16 (j_dft 50))]) ++ [(50, List.replicate 3744 (j_dft 50))]) ++ [(50, List.replicate 3744 (j_dft 50))]) ++ [(50, List.replicate 144 (j_dft 50))]) ++ [(50, List.replicate 4 (j_dft 50))]) ++ [(50, List.replicate 4 (j_dft 50))]) ++ [(50, List.replicate 4 (j_dft 50))]) ++ [(50, List.replicate 4 (j_dft 50))]) ++ [(50, List.replicate 4 (j_dft 50))]) ++ [(52, List.replicate 4 (j_dft 52))]) ++ [(52, List.replicate 16 (j_dft 52))]) ++ [(52, List.replicate 4 (j_dft 52))]) ++ [(50, List.replicate 16 (j_dft 50))]) ++ [(50, List.replicate 16 (j_dft 50))]) ++ [(50, List.replicate 16 (j_dft 50))]) ++ [(50, List.replicate 3744 (j_dft 50))]) ++ [(50, List.replicate 144 (j_dft 50))]) ++ [(52, List.replicate 16 (j_dft 52))]) ++ [(50, List.replicate 16 (j_dft 50))]) ++ [(50, List.replicate 40 (j_dft 50))]) ++ [(50, List.replicate 80 (j_dft 50))]) ++ [(50, List.replicate 80 (j_dft 50))]) ++ [(50, List.replicate 400 (j_dft 50))]) ++ [(50, List.replicate 234 (j_dft 50))]) ++ [(50, List.replicate 9 (j_dft 50))])
theorem ct_144 : k_C X d 144 12 s 56 52545 (rc_144 s) := by
  intro a b A hs
  refine e_of hkc_144 ?_
  show j_Go X d 144 (0, [.ref (s + 1)], []) (k_m a b A 12 (j_df 12) []) _
  have hR0 : ([] : List jE).length = 0 := rfl
  have hf0 : (j_df 12).length = 81 := rfl
  refine k_obj hkc_144 rfl rfl rfl ?_
  refine k_arr (z := s + 1) hkc_144 rfl rfl rfl (by decide) rfl (by decide) rfl hs hR0 (by omega) hf0 (by decide) (fun _ => rfl) (by decide) ?_
  intro fs1 R1 e1 lf1 q1 lR1
  refine k_arr (z := s + 2) hkc_144 rfl rfl rfl (by decide) rfl (by decide) rfl hs lR1 (by omega) lf1 (by decide) (fun _ => rfl) (by decide) ?_
  intro fs2 R2 e2 lf2 q2 lR2
  refine k_arr (z := s + 3) hkc_144 rfl rfl rfl (by decide) rfl (by decide) rfl hs lR2 (by omega) lf2 (by decide) (fun _ => rfl) (by decide) ?_
  intro fs3 R3 e3 lf3 q3 lR3
  refine k_arr (z := s + 4) hkc_144 rfl rfl rfl (by decide) rfl (by decide) rfl hs lR3 (by omega) lf3 (by decide) (fun _ => rfl) (by decide) ?_
  intro fs4 R4 e4 lf4 q4 lR4
  refine k_arr (z := s + 5) hkc_144 rfl rfl rfl (by decide) rfl (by decide) rfl hs lR4 (by omega) lf4 (by decide) (fun _ => rfl) (by decide) ?_
  intro fs5 R5 e5 lf5 q5 lR5
  refine k_arr (z := s + 6) hkc_144 rfl rfl rfl (by decide) rfl (by decide) rfl hs lR5 (by omega) lf5 (by decide) (fun _ => rfl) (by decide) ?_
  intro fs6 R6 e6 lf6 q6 lR6
  refine k_arr (z := s + 7) hkc_144 rfl rfl rfl (by decide) rfl (by decide) rfl hs lR6 (by omega) lf6 (by decide) (fun _ => rfl) (by decide) ?_
  intro fs7 R7 e7 lf7 q7 lR7
  refine k_arr (z := s + 8) hkc_144 rfl rfl rfl (by decide) rfl (by decide) rfl hs lR7 (by omega) lf7 (by decide) (fun _ => rfl) (by decide) ?_
  intro fs8 R8 e8 lf8 q8 lR8
  refine k_arr (z := s + 9) hkc_144 rfl rfl rfl (by decide) rfl (by decide) rfl hs lR8 (by omega) lf8 (by decide) (fun _ => rfl) (by decide) ?_
  intro fs9 R9 e9 lf9 q9 lR9
  refine k_arr (z := s + 10) hkc_144 rfl rfl rfl (by decide) rfl (by decide) rfl hs lR9 (by omega) lf9 (by decide) (fun _ => rfl) (by decide) ?_
  intro fs10 R10 e10 lf10 q10 lR10
  refine k_arr (z := s + 11) hkc_144 rfl rfl rfl (by decide) rfl (by decide) rfl hs lR10 (by omega) lf10 (by decide) (fun _ => rfl) (by decide) ?_
  intro fs11 R11 e11 lf11 q11 lR11
  refine k_arr (z := s + 12) hkc_144 rfl rfl rfl (by decide) rfl (by decide) rfl hs lR11 (by omega) lf11 (by decide) (fun _ => rfl) (by decide) ?_
  intro fs12 R12 e12 lf12 q12 lR12
  refine k_arr (z := s + 13) hkc_144 rfl rfl rfl (by decide) rfl (by decide) rfl hs lR12 (by omega) lf12 (by decide) (fun _ => rfl) (by decide) ?_
  intro fs13 R13 e13 lf13 q13 lR13
  refine k_arr (z := s + 14) hkc_144 rfl rfl rfl (by decide) rfl (by decide) rfl hs lR13 (by omega) lf13 (by decide) (fun _ => rfl) (by decide) ?_
  intro fs14 R14 e14 lf14 q14 lR14
  refine k_arr (z := s + 15) hkc_144 rfl rfl rfl (by decide) rfl (by decide) rfl hs lR14 (by omega) lf14 (by decide) (fun _ => rfl) (by decide) ?_
  intro fs15 R15 e15 lf15 q15 lR15
  refine k_arr (z := s + 16) hkc_144 rfl rfl rfl (by decide) rfl (by decide) rfl hs lR15 (by omega) lf15 (by decide) (fun _ => rfl) (by decide) ?_
  intro fs16 R16 e16 lf16 q16 lR16
  refine k_arr (z := s + 17) hkc_144 rfl rfl rfl (by decide) rfl (by decide) rfl hs lR16 (by omega) lf16 (by decide) (fun _ => rfl) (by decide) ?_
  intro fs17 R17 e17 lf17 q17 lR17
  refine k_arr (z := s + 18) hkc_144 rfl rfl rfl (by decide) rfl (by decide) rfl hs lR17 (by omega) lf17 (by decide) (fun _ => rfl) (by decide) ?_
  intro fs18 R18 e18 lf18 q18 lR18
  refine k_arr (z := s + 19) hkc_144 rfl rfl rfl (by decide) rfl (by decide) rfl hs lR18 (by omega) lf18 (by decide) (fun _ => rfl) (by decide) ?_
  intro fs19 R19 e19 lf19 q19 lR19
  refine k_arr (z := s + 20) hkc_144 rfl rfl rfl (by decide) rfl (by decide) rfl hs lR19 (by omega) lf19 (by decide) (fun _ => rfl) (by decide) ?_
  intro fs20 R20 e20 lf20 q20 lR20
  refine k_arr (z := s + 21) hkc_144 rfl rfl rfl (by decide) rfl (by decide) rfl hs lR20 (by omega) lf20 (by decide) (fun _ => rfl) (by decide) ?_
  intro fs21 R21 e21 lf21 q21 lR21
  refine k_arr (z := s + 22) hkc_144 rfl rfl rfl (by decide) rfl (by decide) rfl hs lR21 (by omega) lf21 (by decide) (fun _ => rfl) (by decide) ?_
  intro fs22 R22 e22 lf22 q22 lR22
  refine k_arr (z := s + 23) hkc_144 rfl rfl rfl (by decide) rfl (by decide) rfl hs lR22 (by omega) lf22 (by decide) (fun _ => rfl) (by decide) ?_
  intro fs23 R23 e23 lf23 q23 lR23
  refine k_int hkc_144 rfl rfl rfl (by decide) rfl hs lf23 (by decide) rfl ?_
  intro fs24 e24 lf24
  refine k_arr (z := s + 24) hkc_144 rfl rfl rfl (by decide) rfl (by decide) rfl hs lR23 (by omega) lf24 (by decide) (fun _ => rfl) (by decide) ?_
  intro fs25 R25 e25 lf25 q25 lR25
  refine k_arr (z := s + 25) hkc_144 rfl rfl rfl (by decide) rfl (by decide) rfl hs lR25 (by omega) lf25 (by decide) (fun _ => rfl) (by decide) ?_
  intro fs26 R26 e26 lf26 q26 lR26
  refine k_arr (z := s + 26) hkc_144 rfl rfl rfl (by decide) rfl (by decide) rfl hs lR26 (by omega) lf26 (by decide) (fun _ => rfl) (by decide) ?_
  intro fs27 R27 e27 lf27 q27 lR27
  refine k_arr (z := s + 27) hkc_144 rfl rfl rfl (by decide) rfl (by decide) rfl hs lR27 (by omega) lf27 (by decide) (fun _ => rfl) (by decide) ?_
  intro fs28 R28 e28 lf28 q28 lR28
  refine k_arr (z := s + 28) hkc_144 rfl rfl rfl (by decide) rfl (by decide) rfl hs lR28 (by omega) lf28 (by decide) (fun _ => rfl) (by decide) ?_
  intro fs29 R29 e29 lf29 q29 lR29
  refine k_arr (z := s + 29) hkc_144 rfl rfl rfl (by decide) rfl (by decide) rfl hs lR29 (by omega) lf29 (by decide) (fun _ => rfl) (by decide) ?_
  intro fs30 R30 e30 lf30 q30 lR30
  refine k_arr (z := s + 30) hkc_144 rfl rfl rfl (by decide) rfl (by decide) rfl hs lR30 (by omega) lf30 (by decide) (fun _ => rfl) (by decide) ?_
  intro fs31 R31 e31 lf31 q31 lR31
  refine k_arr (z := s + 31) hkc_144 rfl rfl rfl (by decide) rfl (by decide) rfl hs lR31 (by omega) lf31 (by decide) (fun _ => rfl) (by decide) ?_
  intro fs32 R32 e32 lf32 q32 lR32
  refine k_arr (z := s + 32) hkc_144 rfl rfl rfl (by decide) rfl (by decide) rfl hs lR32 (by omega) lf32 (by decide) (fun _ => rfl) (by decide) ?_
  intro fs33 R33 e33 lf33 q33 lR33
  refine k_arr (z := s + 33) hkc_144 rfl rfl rfl (by decide) rfl (by decide) rfl hs lR33 (by omega) lf33 (by decide) (fun _ => rfl) (by decide) ?_
  intro fs34 R34 e34 lf34 q34 lR34
  refine k_arr (z := s + 34) hkc_144 rfl rfl rfl (by decide) rfl (by decide) rfl hs lR34 (by omega) lf34 (by decide) (fun _ => rfl) (by decide) ?_
  intro fs35 R35 e35 lf35 q35 lR35
  refine k_arr (z := s + 35) hkc_144 rfl rfl rfl (by decide) rfl (by decide) rfl hs lR35 (by omega) lf35 (by decide) (fun _ => rfl) (by decide) ?_
  intro fs36 R36 e36 lf36 q36 lR36
  refine k_arr (z := s + 36) hkc_144 rfl rfl rfl (by decide) rfl (by decide) rfl hs lR36 (by omega) lf36 (by decide) (fun _ => rfl) (by decide) ?_
  intro fs37 R37 e37 lf37 q37 lR37
  refine k_arr (z := s + 37) hkc_144 rfl rfl rfl (by decide) rfl (by decide) rfl hs lR37 (by omega) lf37 (by decide) (fun _ => rfl) (by decide) ?_
  intro fs38 R38 e38 lf38 q38 lR38
  refine k_arr (z := s + 38) hkc_144 rfl rfl rfl (by decide) rfl (by decide) rfl hs lR38 (by omega) lf38 (by decide) (fun _ => rfl) (by decide) ?_
  intro fs39 R39 e39 lf39 q39 lR39
  refine k_arr (z := s + 39) hkc_144 rfl rfl rfl (by decide) rfl (by decide) rfl hs lR39 (by omega) lf39 (by decide) (fun _ => rfl) (by decide) ?_
  intro fs40 R40 e40 lf40 q40 lR40
  refine k_arr (z := s + 40) hkc_144 rfl rfl rfl (by decide) rfl (by decide) rfl hs lR40 (by omega) lf40 (by decide) (fun _ => rfl) (by decide) ?_
  intro fs41 R41 e41 lf41 q41 lR41
  refine k_arr (z := s + 41) hkc_144 rfl rfl rfl (by decide) rfl (by decide) rfl hs lR41 (by omega) lf41 (by decide) (fun _ => rfl) (by decide) ?_
  intro fs42 R42 e42 lf42 q42 lR42
  refine k_arr (z := s + 42) hkc_144 rfl rfl rfl (by decide) rfl (by decide) rfl hs lR42 (by omega) lf42 (by decide) (fun _ => rfl) (by decide) ?_
  intro fs43 R43 e43 lf43 q43 lR43
  refine k_arr (z := s + 43) hkc_144 rfl rfl rfl (by decide) rfl (by decide) rfl hs lR43 (by omega) lf43 (by decide) (fun _ => rfl) (by decide) ?_
  intro fs44 R44 e44 lf44 q44 lR44
  refine k_arr (z := s + 44) hkc_144 rfl rfl rfl (by decide) rfl (by decide) rfl hs lR44 (by omega) lf44 (by decide) (fun _ => rfl) (by decide) ?_
  intro fs45 R45 e45 lf45 q45 lR45
  refine k_arr (z := s + 45) hkc_144 rfl rfl rfl (by decide) rfl (by decide) rfl hs lR45 (by omega) lf45 (by decide) (fun _ => rfl) (by decide) ?_
  intro fs46 R46 e46 lf46 q46 lR46
  refine k_arr (z := s + 46) hkc_144 rfl rfl rfl (by decide) rfl (by decide) rfl hs lR46 (by omega) lf46 (by decide) (fun _ => rfl) (by decide) ?_
  intro fs47 R47 e47 lf47 q47 lR47
  refine k_arr (z := s + 47) hkc_144 rfl rfl rfl (by decide) rfl (by decide) rfl hs lR47 (by omega) lf47 (by decide) (fun _ => rfl) (by decide) ?_
  intro fs48 R48 e48 lf48 q48 lR48
  refine k_arr (z := s + 48) hkc_144 rfl rfl rfl (by decide) rfl (by decide) rfl hs lR48 (by omega) lf48 (by decide) (fun _ => rfl) (by decide) ?_
  intro fs49 R49 e49 lf49 q49 lR49
  refine k_arr (z := s + 49) hkc_144 rfl rfl rfl (by decide) rfl (by decide) rfl hs lR49 (by omega) lf49 (by decide) (fun _ => rfl) (by decide) ?_
  intro fs50 R50 e50 lf50 q50 lR50
  refine k_arr (z := s + 50) hkc_144 rfl rfl rfl (by decide) rfl (by decide) rfl hs lR50 (by omega) lf50 (by decide) (fun _ => rfl) (by decide) ?_
  intro fs51 R51 e51 lf51 q51 lR51
  refine k_arr (z := s + 51) hkc_144 rfl rfl rfl (by decide) rfl (by decide) rfl hs lR51 (by omega) lf51 (by decide) (fun _ => rfl) (by decide) ?_
  intro fs52 R52 e52 lf52 q52 lR52
  refine k_arr (z := s + 52) hkc_144 rfl rfl rfl (by decide) rfl (by decide) rfl hs lR52 (by omega) lf52 (by decide) (fun _ => rfl) (by decide) ?_
  intro fs53 R53 e53 lf53 q53 lR53
  refine k_arr (z := s + 53) hkc_144 rfl rfl rfl (by decide) rfl (by decide) rfl hs lR53 (by omega) lf53 (by decide) (fun _ => rfl) (by decide) ?_
  intro fs54 R54 e54 lf54 q54 lR54
  refine k_arr (z := s + 54) hkc_144 rfl rfl rfl (by decide) rfl (by decide) rfl hs lR54 (by omega) lf54 (by decide) (fun _ => rfl) (by decide) ?_
  intro fs55 R55 e55 lf55 q55 lR55
  refine k_arr (z := s + 55) hkc_144 rfl rfl rfl (by decide) rfl (by decide) rfl hs lR55 (by omega) lf55 (by decide) (fun _ => rfl) (by decide) ?_
  intro fs56 R56 e56 lf56 q56 lR56
  refine k_arr (z := s + 56) hkc_144 rfl rfl rfl (by decide) rfl (by decide) rfl hs lR56 (by omega) lf56 (by decide) (fun _ => rfl) (by decide) ?_
  intro fs57 R57 e57 lf57 q57 lR57
  refine gs_ret hkc_144 rfl (k_eq (by omega) (by omega) ?_)
  rw [e57, q57, e56, q56, e55, q55, e54, q54, e53, q53, e52, q52, e51, q51, e50, q50, e49, q49, e48, q48, e47, q47, e46, q46, e45, q45, e44, q44, e43, q43, e42, q42, e41, q41, e40, q40, e39, q39, e38, q38, e37, q37, e36, q36, e35, q35, e34, q34, e33, q33, e32, q32, e31, q31, e30, q30, e29, q29, e28, q28, e27, q27, e26, q26, e25, q25, e24, e23, q23, e22, q22, e21, q21, e20, q20, e19, q19, e18, q18, e17, q17, e16, q16, e15, q15, e14, q14, e13, q13, e12, q12, e11, q11, e10, q10, e9, q9, e8, q8, e7, q7, e6, q6, e5, q5, e4, q4, e3, q3, e2, q2, e1, q1]
  rfl
theorem rl_0 : (rc_0 s).length = 64 := rfl
theorem rl_144 : (rc_144 s).length = 57 := rfl
theorem hkc_96 : jP[96]? = some (jc_96, 2, [], []) := by rfl
def rq_96 : List jE := (50, List.replicate 16 (j_dft 50)) :: (rc_87 (0 + 4) ++ (rc_77 (0 + 11) ++ (rc_34 (0 + 17) ++ (rc_7 (0 + 24) ++ (rc_15 (0 + 28) ++ (rc_52 (0 + 40) ++ (rc_62 (0 + 45))))))))
def rf_96 : List Value := ((((((((((((j_df 11).set 0 (.ref (0 + 1 + 1))).set 1 (.ref (0 + 2 + 1))).set 2 (.ref (0 + 3 + 1))).set 3 (.ref (0 + 4 + 1))).set 4 (.ref (0 + 11 + 1))).set 5 (.ref (0 + 17 + 1))).set 6 (.ref (0 + 24 + 1))).set 7 (.ref (0 + 28 + 1))).set 8 (.ref (0 + 40 + 1))).set 9 (.ref (0 + 45 + 1))).set 11 (.int (Int32.ofNat 0)))
def rh_96 : List Value := (((List.replicate 2 (j_dft 60)).set 0 (.ref (48 + 1))).set 1 (.ref (50 + 1)))
def rq2_96 : List jE := (rq_96 ++ rc_55 48) ++ rc_55 50
def cvs : Nat → List Value
  | 0 => List.replicate 16 (j_dft 61)
  | j + 1 => (cvs j).set j (.ref (52 + 64 * j + 1))
def cqs : Nat → List jE
  | 0 => []
  | j + 1 => cqs j ++ rc_0 (52 + 64 * j)
theorem cvs_len : ∀ j, (cvs j).length = 16 := by
  intro j
  induction j with
  | zero => rfl
  | succ j ih => simp only [cvs, List.length_set]; exact ih
theorem cqs_len : ∀ j, (cqs j).length = 64 * j := by
  intro j
  induction j with
  | zero => rfl
  | succ j ih => simp only [cqs, List.length_append, ih, rl_0]; omega
theorem cl_loop {A Q : List jE} {gs : List Value} (hA : A.length = 2) (hQ : Q.length = 49) (h0 : A[0]? = some (11, gs)) (h1 : gs[1]? = some (.ref (2 + 1))) : ∀ n j a b, j + n = 16 → j_Go X (d + 4) 96 (68, [.ref (0 + 1), .int (Int32.ofNat j)], []) (a, b, true, A ++ (61, cvs j) :: (Q ++ cqs j)) (.inl none, (a + 64 * n, b + 3448 * n, true, A ++ (61, cvs 16) :: (Q ++ cqs 16))) := by
  intro n
  induction n with
  | zero =>
    intro j a b hj
    obtain rfl : j = 16 := by omega
    refine k_head (j := 16) hkc_96 rfl rfl rfl rfl (by decide) (by decide) (fun h => absurd h (by decide)) (fun _ => ?_)
    exact gs_ret hkc_96 rfl (k_eq rfl rfl rfl)
  | succ n ih =>
    intro j a b hj
    refine k_head (j := j) hkc_96 rfl rfl rfl rfl (by decide) (by omega) (fun _ => ?_) (fun h => absurd (by omega) h)
    refine k_elem (s := 0) (y := 2) (q := 49 + 64 * j) (z := 52 + 64 * j) (j := j) (rT := rc_0 (52 + 64 * j)) (na := 63) (nb := 3431) (nn := 17) (g := 16) hkc_96 rfl rfl rfl rfl rfl rfl (by decide) rfl rfl rfl hA (by rw [List.length_append, hQ, cqs_len]) (by omega) (by omega) (cvs_len j) (by omega) h0 h1 rfl rfl rfl ct_0 ?_
    refine gs_iinc (y := Int32.ofNat (j + 1)) (L2 := [.ref (0 + 1), .int (Int32.ofNat (j + 1))]) hkc_96 rfl rfl (u_S j) rfl rfl ?_
    refine gs_goto hkc_96 rfl ?_
    have e1 : A ++ (61, (cvs j).set j (.ref (52 + 64 * j + 1))) :: (Q ++ cqs j ++ rc_0 (52 + 64 * j)) = A ++ (61, cvs (j + 1)) :: (Q ++ cqs (j + 1)) := by
      rw [List.append_assoc]; rfl
    rw [e1]
    have := ih (j + 1) (a + (1 + 63)) (b + (17 + 3431)) (by omega)
    rw [show a + 64 * (n + 1) = a + (1 + 63) + 64 * n by omega, show b + 3448 * (n + 1) = b + (17 + 3431) + 3448 * n by omega]
    exact this
def rm_96 : List jE := [(11, rf_96), (60, rh_96)] ++ (61, cvs 16) :: (rq2_96 ++ cqs 16)
theorem ct_96 : k_C X (d + 4) 96 11 0 1075 56658 rm_96 := by
  intro a b A hA0
  obtain rfl : A = [] := List.length_eq_zero_iff.mp hA0
  refine e_of hkc_96 ?_
  show j_Go X (d + 4) 96 (0, [.ref (0 + 1), .retAddr 0], []) (k_m a b [] 11 (j_df 11) []) _
  have hs : ([] : List jE).length = 0 := rfl
  have hR0 : ([] : List jE).length = 0 := rfl
  have hf0 : (j_df 11).length = 18 := rfl
  refine k_obj (s := 0) hkc_96 rfl rfl rfl ?_
  refine k_arr (z := 0 + 1) hkc_96 rfl rfl rfl (by decide) rfl (by decide) rfl hs hR0 (by omega) hf0 (by decide) (fun _ => rfl) (by decide) ?_
  intro fs1 R1 e1 lf1 q1 lR1
  refine k_arr (z := 0 + 2) hkc_96 rfl rfl rfl (by decide) rfl (by decide) rfl hs lR1 (by omega) lf1 (by decide) (fun _ => rfl) (by decide) ?_
  intro fs2 R2 e2 lf2 q2 lR2
  refine k_arr (z := 0 + 3) hkc_96 rfl rfl rfl (by decide) rfl (by decide) rfl hs lR2 (by omega) lf2 (by decide) (fun _ => rfl) (by decide) ?_
  intro fs3 R3 e3 lf3 q3 lR3
  refine k_ctor (z := 0 + 4) (na := 6) (nb := 24) (nn := 8) (nT := 7) hkc_96 rfl rfl rfl rfl (by decide) rfl (by decide) rfl hs lR3 (by omega) lf3 (by decide) (fun _ => rfl) rfl rfl ct_87 ?_
  intro fs4 R4 e4 lf4 q4 lR4
  refine k_ctor (z := 0 + 11) (na := 5) (nb := 100) (nn := 9) (nT := 6) hkc_96 rfl rfl rfl rfl (by decide) rfl (by decide) rfl hs lR4 (by omega) lf4 (by decide) (fun _ => rfl) rfl rfl ct_77 ?_
  intro fs5 R5 e5 lf5 q5 lR5
  refine k_ctor (z := 0 + 17) (na := 6) (nb := 173) (nn := 5) (nT := 7) hkc_96 rfl rfl rfl rfl (by decide) rfl (by decide) rfl hs lR5 (by omega) lf5 (by decide) (fun _ => rfl) rfl rfl ct_34 ?_
  intro fs6 R6 e6 lf6 q6 lR6
  refine k_ctor (z := 0 + 24) (na := 3) (nb := 123) (nn := 8) (nT := 4) hkc_96 rfl rfl rfl rfl (by decide) rfl (by decide) rfl hs lR6 (by omega) lf6 (by decide) (fun _ => rfl) rfl rfl ct_7 ?_
  intro fs7 R7 e7 lf7 q7 lR7
  refine k_ctor (z := 0 + 28) (na := 11) (nb := 581) (nn := 5) (nT := 12) hkc_96 rfl rfl rfl rfl (by decide) rfl (by decide) rfl hs lR7 (by omega) lf7 (by decide) (fun _ => rfl) rfl rfl ct_15 ?_
  intro fs8 R8 e8 lf8 q8 lR8
  refine k_ctor (z := 0 + 40) (na := 4) (nb := 85) (nn := 6) (nT := 5) hkc_96 rfl rfl rfl rfl (by decide) rfl (by decide) rfl hs lR8 (by omega) lf8 (by decide) (fun _ => rfl) rfl rfl ct_52 ?_
  intro fs9 R9 e9 lf9 q9 lR9
  refine k_ctor (z := 0 + 45) (na := 2) (nb := 243) (nn := 2) (nT := 3) hkc_96 rfl rfl rfl rfl (by decide) rfl (by decide) rfl hs lR9 (by omega) lf9 (by decide) (fun _ => rfl) rfl rfl ct_62 ?_
  intro fs10 R10 e10 lf10 q10 lR10
  refine k_int hkc_96 rfl rfl rfl (by decide) rfl hs lf10 (by decide) rfl ?_
  intro fs11 e11 lf11
  have hM : ([] : List jE) ++ (11, fs11) :: R10 = [(11, rf_96)] ++ (60, List.replicate 2 (j_dft 60)) :: ((61, cvs 0) :: rq_96) := by
    rw [e11, e10, q10, e9, q9, e8, q8, e7, q7, e6, q6, e5, q5, e4, q4, e3, q3, e2, q2, e1, q1]
    simp only [rq_96, rf_96, cvs, List.append_assoc, List.cons_append, List.nil_append]
  have h0 : ([(11, rf_96)] : List jE)[0]? = some (11, rf_96) := rfl
  have hv : rf_96[0]? = some (.ref (1 + 1)) := rfl
  have hv1 : rf_96[1]? = some (.ref (2 + 1)) := rfl
  unfold k_m
  rw [hM]
  refine gs_push hkc_96 rfl rfl rfl ?_
  refine gs_istore (L2 := [.ref (0 + 1), .int (Int32.ofNat 0)]) hkc_96 rfl (by show 1 < 2; decide) rfl rfl ?_
  refine k_head (j := 0) hkc_96 rfl rfl rfl rfl (by decide) (by decide) (fun _ => ?_) (fun h => absurd (by decide) h)
  refine k_elem (s := 0) (q := 46) (y := 1) (z := 48) (j := 0) (rT := rc_55 48) (na := 1) (nb := 40) (nn := 2) (g := 2) hkc_96 rfl rfl rfl rfl rfl rfl (by decide) rfl rfl rfl rfl rfl (by omega) (by decide) rfl (by decide) h0 hv rfl rfl rfl ct_55 ?_
  refine gs_iinc (y := Int32.ofNat 1) (L2 := [.ref (0 + 1), .int (Int32.ofNat 1)]) hkc_96 rfl rfl (by decide) rfl rfl ?_
  refine gs_goto hkc_96 rfl ?_
  refine k_head (j := 1) hkc_96 rfl rfl rfl rfl (by decide) (by decide) (fun _ => ?_) (fun h => absurd (by decide) h)
  refine k_elem (s := 0) (q := 48) (y := 1) (z := 50) (j := 1) (rT := rc_55 50) (na := 1) (nb := 40) (nn := 2) (g := 2) hkc_96 rfl rfl rfl rfl rfl rfl (by decide) rfl rfl rfl rfl rfl (by omega) (by decide) rfl (by decide) h0 hv rfl rfl rfl ct_55 ?_
  refine gs_iinc (y := Int32.ofNat 2) (L2 := [.ref (0 + 1), .int (Int32.ofNat 2)]) hkc_96 rfl rfl (by decide) rfl rfl ?_
  refine gs_goto hkc_96 rfl ?_
  refine k_head (j := 2) hkc_96 rfl rfl rfl rfl (by decide) (by decide) (fun h => absurd h (by decide)) (fun _ => ?_)
  refine gs_push hkc_96 rfl rfl rfl ?_
  refine gs_istore (L2 := [.ref (0 + 1), .int (Int32.ofNat 0)]) hkc_96 rfl (by show 1 < 2; decide) rfl rfl ?_
  have e2 : [(11, rf_96)] ++ (60, (((List.replicate 2 (j_dft 60)).set 0 (.ref (48 + 1))).set 1 (.ref (50 + 1)))) :: (((61, cvs 0) :: rq_96 ++ rc_55 48) ++ rc_55 50) = [(11, rf_96), (60, rh_96)] ++ (61, cvs 0) :: (rq2_96 ++ cqs 0) := by
    simp only [cqs, List.append_nil]; rfl
  rw [e2]
  have := cl_loop (X := X) (d := d) (A := [(11, rf_96), (60, rh_96)]) (Q := rq2_96) (gs := rf_96) rfl rfl rfl hv1 16 0
  refine cast (congrArg (j_Go X (d + 4) 96 _ _) ?_) (this _ _ rfl)
  exact k_eq (by omega) (by omega) rfl
end SD3
