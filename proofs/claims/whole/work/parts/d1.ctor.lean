/-! ===== the prologue: the constructors (printed by wip/whole/genpro.py) ===== -/
section SD1
variable {X : List Int32} {s d : Nat}
theorem hkc_55 : jP[55]? = some (jc_55, 1, [], []) := by rfl
def rc_55 (s : Nat) : List jE := (7, ((j_df 7).set 0 (.ref (s + 1 + 1)))) :: ([] ++ [(51, List.replicate 40 (j_dft 51))])
theorem ct_55 : k_C X d 55 7 s 1 40 (rc_55 s) := by
  intro a b A hs
  refine e_of hkc_55 ?_
  show j_Go X d 55 (0, [.ref (s + 1)], []) (k_m a b A 7 (j_df 7) []) _
  have hR0 : ([] : List jE).length = 0 := rfl
  have hf0 : (j_df 7).length = 2 := rfl
  refine k_obj hkc_55 rfl rfl rfl ?_
  refine k_arr (z := s + 1) hkc_55 rfl rfl rfl (by decide) rfl (by decide) rfl hs hR0 (by omega) hf0 (by decide) (fun _ => rfl) (by decide) ?_
  intro fs1 R1 e1 lf1 q1 lR1
  refine gs_ret hkc_55 rfl (k_eq (by omega) (by omega) ?_)
  subst e1 q1
  rfl
theorem hkc_62 : jP[62]? = some (jc_62, 1, [], []) := by rfl
def rc_62 (s : Nat) : List jE := (8, (((j_df 8).set 0 (.ref (s + 1 + 1))).set 1 (.ref (s + 2 + 1)))) :: (([] ++ [(50, List.replicate 27 (j_dft 50))]) ++ [(50, List.replicate 216 (j_dft 50))])
theorem ct_62 : k_C X d 62 8 s 2 243 (rc_62 s) := by
  intro a b A hs
  refine e_of hkc_62 ?_
  show j_Go X d 62 (0, [.ref (s + 1)], []) (k_m a b A 8 (j_df 8) []) _
  have hR0 : ([] : List jE).length = 0 := rfl
  have hf0 : (j_df 8).length = 2 := rfl
  refine k_obj hkc_62 rfl rfl rfl ?_
  refine k_arr (z := s + 1) hkc_62 rfl rfl rfl (by decide) rfl (by decide) rfl hs hR0 (by omega) hf0 (by decide) (fun _ => rfl) (by decide) ?_
  intro fs1 R1 e1 lf1 q1 lR1
  refine k_arr (z := s + 2) hkc_62 rfl rfl rfl (by decide) rfl (by decide) rfl hs lR1 (by omega) lf1 (by decide) (fun _ => rfl) (by decide) ?_
  intro fs2 R2 e2 lf2 q2 lR2
  refine gs_ret hkc_62 rfl (k_eq (by omega) (by omega) ?_)
  subst e1 q1; subst e2 q2
  rfl
theorem hkc_7 : jP[7]? = some (jc_7, 1, [], []) := by rfl
def rc_7 (s : Nat) : List jE := (1, ((((j_df 1).set 0 (.ref (s + 1 + 1))).set 1 (.ref (s + 2 + 1))).set 2 (.ref (s + 3 + 1)))) :: ((([] ++ [(50, List.replicate 41 (j_dft 50))]) ++ [(50, List.replicate 41 (j_dft 50))]) ++ [(50, List.replicate 41 (j_dft 50))])
theorem ct_7 : k_C X d 7 1 s 3 123 (rc_7 s) := by
  intro a b A hs
  refine e_of hkc_7 ?_
  show j_Go X d 7 (0, [.ref (s + 1)], []) (k_m a b A 1 (j_df 1) []) _
  have hR0 : ([] : List jE).length = 0 := rfl
  have hf0 : (j_df 1).length = 8 := rfl
  refine k_obj hkc_7 rfl rfl rfl ?_
  refine k_arr (z := s + 1) hkc_7 rfl rfl rfl (by decide) rfl (by decide) rfl hs hR0 (by omega) hf0 (by decide) (fun _ => rfl) (by decide) ?_
  intro fs1 R1 e1 lf1 q1 lR1
  refine k_arr (z := s + 2) hkc_7 rfl rfl rfl (by decide) rfl (by decide) rfl hs lR1 (by omega) lf1 (by decide) (fun _ => rfl) (by decide) ?_
  intro fs2 R2 e2 lf2 q2 lR2
  refine k_arr (z := s + 3) hkc_7 rfl rfl rfl (by decide) rfl (by decide) rfl hs lR2 (by omega) lf2 (by decide) (fun _ => rfl) (by decide) ?_
  intro fs3 R3 e3 lf3 q3 lR3
  refine gs_ret hkc_7 rfl (k_eq (by omega) (by omega) ?_)
  subst e1 q1; subst e2 q2; subst e3 q3
  rfl
theorem hkc_11 : jP[11]? = some (jc_11, 1, [], []) := by rfl
def rc_11 (s : Nat) : List jE := (2, (((j_df 2).set 0 (.ref (s + 1 + 1))).set 1 (.ref (s + 3 + 1)))) :: (([] ++ rc_55 (s + 1)) ++ [(50, List.replicate 40 (j_dft 50))])
theorem ct_11 : k_C X (d + 1) 11 2 s 3 82 (rc_11 s) := by
  intro a b A hs
  refine e_of hkc_11 ?_
  show j_Go X (d + 1) 11 (0, [.ref (s + 1)], []) (k_m a b A 2 (j_df 2) []) _
  have hR0 : ([] : List jE).length = 0 := rfl
  have hf0 : (j_df 2).length = 3 := rfl
  refine k_obj hkc_11 rfl rfl rfl ?_
  refine k_ctor (z := s + 1) (na := 1) (nb := 40) (nn := 2) (nT := 2) hkc_11 rfl rfl rfl rfl (by decide) rfl (by decide) rfl hs hR0 (by omega) hf0 (by decide) (fun _ => rfl) rfl rfl ct_55 ?_
  intro fs1 R1 e1 lf1 q1 lR1
  refine k_arr (z := s + 3) hkc_11 rfl rfl rfl (by decide) rfl (by decide) rfl hs lR1 (by omega) lf1 (by decide) (fun _ => rfl) (by decide) ?_
  intro fs2 R2 e2 lf2 q2 lR2
  refine gs_ret hkc_11 rfl (k_eq (by omega) (by omega) ?_)
  subst e1 q1; subst e2 q2
  rfl
theorem hkc_12 : jP[12]? = some (jc_12, 1, [], []) := by rfl
def rc_12 (s : Nat) : List jE := (3, ((((j_df 3).set 0 (.ref (s + 1 + 1))).set 1 (.ref (s + 3 + 1))).set 2 (.ref (s + 6 + 1)))) :: ((([] ++ rc_55 (s + 1)) ++ rc_62 (s + 3)) ++ rc_62 (s + 6))
theorem ct_12 : k_C X (d + 1) 12 3 s 8 532 (rc_12 s) := by
  intro a b A hs
  refine e_of hkc_12 ?_
  show j_Go X (d + 1) 12 (0, [.ref (s + 1)], []) (k_m a b A 3 (j_df 3) []) _
  have hR0 : ([] : List jE).length = 0 := rfl
  have hf0 : (j_df 3).length = 3 := rfl
  refine k_obj hkc_12 rfl rfl rfl ?_
  refine k_ctor (z := s + 1) (na := 1) (nb := 40) (nn := 2) (nT := 2) hkc_12 rfl rfl rfl rfl (by decide) rfl (by decide) rfl hs hR0 (by omega) hf0 (by decide) (fun _ => rfl) rfl rfl ct_55 ?_
  intro fs1 R1 e1 lf1 q1 lR1
  refine k_ctor (z := s + 3) (na := 2) (nb := 243) (nn := 2) (nT := 3) hkc_12 rfl rfl rfl rfl (by decide) rfl (by decide) rfl hs lR1 (by omega) lf1 (by decide) (fun _ => rfl) rfl rfl ct_62 ?_
  intro fs2 R2 e2 lf2 q2 lR2
  refine k_ctor (z := s + 6) (na := 2) (nb := 243) (nn := 2) (nT := 3) hkc_12 rfl rfl rfl rfl (by decide) rfl (by decide) rfl hs lR2 (by omega) lf2 (by decide) (fun _ => rfl) rfl rfl ct_62 ?_
  intro fs3 R3 e3 lf3 q3 lR3
  refine gs_ret hkc_12 rfl (k_eq (by omega) (by omega) ?_)
  subst e1 q1; subst e2 q2; subst e3 q3
  rfl
theorem hkc_52 : jP[52]? = some (jc_52, 1, [], []) := by rfl
def rc_52 (s : Nat) : List jE := (6, (((j_df 6).set 0 (.int (Int32.ofNat 1))).set 2 (.ref (s + 1 + 1)))) :: ([] ++ rc_11 (s + 1))
theorem ct_52 : k_C X (d + 2) 52 6 s 4 85 (rc_52 s) := by
  intro a b A hs
  refine e_of hkc_52 ?_
  show j_Go X (d + 2) 52 (0, [.ref (s + 1)], []) (k_m a b A 6 (j_df 6) []) _
  have hR0 : ([] : List jE).length = 0 := rfl
  have hf0 : (j_df 6).length = 6 := rfl
  refine k_obj hkc_52 rfl rfl rfl ?_
  refine k_int hkc_52 rfl rfl rfl (by decide) rfl hs hf0 (by decide) rfl ?_
  intro fs1 e1 lf1
  refine k_ctor (z := s + 1) (na := 3) (nb := 82) (nn := 3) (nT := 4) hkc_52 rfl rfl rfl rfl (by decide) rfl (by decide) rfl hs hR0 (by omega) lf1 (by decide) (fun _ => rfl) rfl rfl ct_11 ?_
  intro fs2 R2 e2 lf2 q2 lR2
  refine gs_ret hkc_52 rfl (k_eq (by omega) (by omega) ?_)
  subst e1; subst e2 q2
  rfl
theorem hkc_15 : jP[15]? = some (jc_15, 1, [], []) := by rfl
def rc_15 (s : Nat) : List jE := (4, ((((j_df 4).set 0 (.ref (s + 1 + 1))).set 1 (.ref (s + 4 + 1))).set 4 (.ref (s + 7 + 1)))) :: ((([] ++ rc_62 (s + 1)) ++ rc_62 (s + 4)) ++ rc_52 (s + 7))
theorem ct_15 : k_C X (d + 3) 15 4 s 11 581 (rc_15 s) := by
  intro a b A hs
  refine e_of hkc_15 ?_
  show j_Go X (d + 3) 15 (0, [.ref (s + 1)], []) (k_m a b A 4 (j_df 4) []) _
  have hR0 : ([] : List jE).length = 0 := rfl
  have hf0 : (j_df 4).length = 5 := rfl
  refine k_obj hkc_15 rfl rfl rfl ?_
  refine k_ctor (z := s + 1) (na := 2) (nb := 243) (nn := 2) (nT := 3) hkc_15 rfl rfl rfl rfl (by decide) rfl (by decide) rfl hs hR0 (by omega) hf0 (by decide) (fun _ => rfl) rfl rfl ct_62 ?_
  intro fs1 R1 e1 lf1 q1 lR1
  refine k_ctor (z := s + 4) (na := 2) (nb := 243) (nn := 2) (nT := 3) hkc_15 rfl rfl rfl rfl (by decide) rfl (by decide) rfl hs lR1 (by omega) lf1 (by decide) (fun _ => rfl) rfl rfl ct_62 ?_
  intro fs2 R2 e2 lf2 q2 lR2
  refine k_ctor (z := s + 7) (na := 4) (nb := 85) (nn := 6) (nT := 5) hkc_15 rfl rfl rfl rfl (by decide) rfl (by decide) rfl hs lR2 (by omega) lf2 (by decide) (fun _ => rfl) rfl rfl ct_52 ?_
  intro fs3 R3 e3 lf3 q3 lR3
  refine gs_ret hkc_15 rfl (k_eq (by omega) (by omega) ?_)
  subst e1 q1; subst e2 q2; subst e3 q3
  rfl
theorem hkc_34 : jP[34]? = some (jc_34, 1, [], []) := by rfl
def rc_34 (s : Nat) : List jE := (5, (((j_df 5).set 0 (.ref (s + 1 + 1))).set 1 (.ref (s + 3 + 1)))) :: (([] ++ rc_55 (s + 1)) ++ rc_7 (s + 3))
theorem ct_34 : k_C X (d + 1) 34 5 s 6 173 (rc_34 s) := by
  intro a b A hs
  refine e_of hkc_34 ?_
  show j_Go X (d + 1) 34 (0, [.ref (s + 1)], []) (k_m a b A 5 (j_df 5) []) _
  have hR0 : ([] : List jE).length = 0 := rfl
  have hf0 : (j_df 5).length = 5 := rfl
  refine k_obj hkc_34 rfl rfl rfl ?_
  refine k_ctor (z := s + 1) (na := 1) (nb := 40) (nn := 2) (nT := 2) hkc_34 rfl rfl rfl rfl (by decide) rfl (by decide) rfl hs hR0 (by omega) hf0 (by decide) (fun _ => rfl) rfl rfl ct_55 ?_
  intro fs1 R1 e1 lf1 q1 lR1
  refine k_ctor (z := s + 3) (na := 3) (nb := 123) (nn := 8) (nT := 4) hkc_34 rfl rfl rfl rfl (by decide) rfl (by decide) rfl hs lR1 (by omega) lf1 (by decide) (fun _ => rfl) rfl rfl ct_7 ?_
  intro fs2 R2 e2 lf2 q2 lR2
  refine gs_ret hkc_34 rfl (k_eq (by omega) (by omega) ?_)
  subst e1 q1; subst e2 q2
  rfl
theorem hkc_87 : jP[87]? = some (jc_87, 1, [], []) := by rfl
def rc_87 (s : Nat) : List jE := (10, (((((((j_df 10).set 0 (.ref (s + 1 + 1))).set 1 (.ref (s + 2 + 1))).set 2 (.ref (s + 3 + 1))).set 3 (.ref (s + 4 + 1))).set 4 (.ref (s + 5 + 1))).set 5 (.ref (s + 6 + 1)))) :: (((((([] ++ [(50, List.replicate 4 (j_dft 50))]) ++ [(50, List.replicate 4 (j_dft 50))]) ++ [(50, List.replicate 4 (j_dft 50))]) ++ [(50, List.replicate 4 (j_dft 50))]) ++ [(50, List.replicate 4 (j_dft 50))]) ++ [(50, List.replicate 4 (j_dft 50))])
theorem ct_87 : k_C X d 87 10 s 6 24 (rc_87 s) := by
  intro a b A hs
  refine e_of hkc_87 ?_
  show j_Go X d 87 (0, [.ref (s + 1)], []) (k_m a b A 10 (j_df 10) []) _
  have hR0 : ([] : List jE).length = 0 := rfl
  have hf0 : (j_df 10).length = 8 := rfl
  refine k_obj hkc_87 rfl rfl rfl ?_
  refine k_arr (z := s + 1) hkc_87 rfl rfl rfl (by decide) rfl (by decide) rfl hs hR0 (by omega) hf0 (by decide) (fun _ => rfl) (by decide) ?_
  intro fs1 R1 e1 lf1 q1 lR1
  refine k_arr (z := s + 2) hkc_87 rfl rfl rfl (by decide) rfl (by decide) rfl hs lR1 (by omega) lf1 (by decide) (fun _ => rfl) (by decide) ?_
  intro fs2 R2 e2 lf2 q2 lR2
  refine k_arr (z := s + 3) hkc_87 rfl rfl rfl (by decide) rfl (by decide) rfl hs lR2 (by omega) lf2 (by decide) (fun _ => rfl) (by decide) ?_
  intro fs3 R3 e3 lf3 q3 lR3
  refine k_arr (z := s + 4) hkc_87 rfl rfl rfl (by decide) rfl (by decide) rfl hs lR3 (by omega) lf3 (by decide) (fun _ => rfl) (by decide) ?_
  intro fs4 R4 e4 lf4 q4 lR4
  refine k_arr (z := s + 5) hkc_87 rfl rfl rfl (by decide) rfl (by decide) rfl hs lR4 (by omega) lf4 (by decide) (fun _ => rfl) (by decide) ?_
  intro fs5 R5 e5 lf5 q5 lR5
  refine k_arr (z := s + 6) hkc_87 rfl rfl rfl (by decide) rfl (by decide) rfl hs lR5 (by omega) lf5 (by decide) (fun _ => rfl) (by decide) ?_
  intro fs6 R6 e6 lf6 q6 lR6
  refine gs_ret hkc_87 rfl (k_eq (by omega) (by omega) ?_)
  subst e1 q1; subst e2 q2; subst e3 q3; subst e4 q4; subst e5 q5; subst e6 q6
  rfl
theorem hkc_77 : jP[77]? = some (jc_77, 1, [], []) := by rfl
def rc_77 (s : Nat) : List jE := (9, ((((((j_df 9).set 0 (.ref (s + 1 + 1))).set 1 (.ref (s + 2 + 1))).set 2 (.ref (s + 3 + 1))).set 3 (.ref (s + 4 + 1))).set 4 (.ref (s + 5 + 1)))) :: ((((([] ++ [(50, List.replicate 26 (j_dft 50))]) ++ [(50, List.replicate 26 (j_dft 50))]) ++ [(50, List.replicate 16 (j_dft 50))]) ++ [(50, List.replicate 16 (j_dft 50))]) ++ [(50, List.replicate 16 (j_dft 50))])
theorem ct_77 : k_C X d 77 9 s 5 100 (rc_77 s) := by
  intro a b A hs
  refine e_of hkc_77 ?_
  show j_Go X d 77 (0, [.ref (s + 1)], []) (k_m a b A 9 (j_df 9) []) _
  have hR0 : ([] : List jE).length = 0 := rfl
  have hf0 : (j_df 9).length = 9 := rfl
  refine k_obj hkc_77 rfl rfl rfl ?_
  refine k_arr (z := s + 1) hkc_77 rfl rfl rfl (by decide) rfl (by decide) rfl hs hR0 (by omega) hf0 (by decide) (fun _ => rfl) (by decide) ?_
  intro fs1 R1 e1 lf1 q1 lR1
  refine k_arr (z := s + 2) hkc_77 rfl rfl rfl (by decide) rfl (by decide) rfl hs lR1 (by omega) lf1 (by decide) (fun _ => rfl) (by decide) ?_
  intro fs2 R2 e2 lf2 q2 lR2
  refine k_arr (z := s + 3) hkc_77 rfl rfl rfl (by decide) rfl (by decide) rfl hs lR2 (by omega) lf2 (by decide) (fun _ => rfl) (by decide) ?_
  intro fs3 R3 e3 lf3 q3 lR3
  refine k_arr (z := s + 4) hkc_77 rfl rfl rfl (by decide) rfl (by decide) rfl hs lR3 (by omega) lf3 (by decide) (fun _ => rfl) (by decide) ?_
  intro fs4 R4 e4 lf4 q4 lR4
  refine k_arr (z := s + 5) hkc_77 rfl rfl rfl (by decide) rfl (by decide) rfl hs lR4 (by omega) lf4 (by decide) (fun _ => rfl) (by decide) ?_
  intro fs5 R5 e5 lf5 q5 lR5
  refine gs_ret hkc_77 rfl (k_eq (by omega) (by omega) ?_)
  subst e1 q1; subst e2 q2; subst e3 q3; subst e4 q4; subst e5 q5
  rfl
theorem hkc_0 : jP[0]? = some (jc_0, 2, [], []) := by rfl
def rp_0 (s : Nat) : List jE := (0, (((((((((j_df 0).set 0 (.ref (s + 1 + 1))).set 1 (.ref (s + 3 + 1))).set 2 (.ref (s + 7 + 1))).set 3 (.ref (s + 10 + 1))).set 4 (.ref (s + 13 + 1))).set 5 (.ref (s + 17 + 1))).set 6 (.ref (s + 26 + 1))).set 7 (.ref (s + 27 + 1)))) :: (((((([] ++ rc_55 (s + 1)) ++ rc_7 (s + 3)) ++ rc_62 (s + 7)) ++ rc_62 (s + 10)) ++ rc_11 (s + 13)) ++ rc_12 (s + 17))
def rc_0 (s : Nat) : List jE := rp_0 s ++ (62, (((((List.replicate 4 (j_dft 62)).set 0 (.ref (s + 28 + 1))).set 1 (.ref (s + 37 + 1))).set 2 (.ref (s + 46 + 1))).set 3 (.ref (s + 55 + 1)))) :: (((([(50, List.replicate 4 (j_dft 50))] ++ rc_12 (s + 28)) ++ rc_12 (s + 37)) ++ rc_12 (s + 46)) ++ rc_12 (s + 55))
theorem ct_0 : k_C X (d + 2) 0 0 s 63 3431 (rc_0 s) := by
  intro a b A hs
  refine e_of hkc_0 ?_
  show j_Go X (d + 2) 0 (0, [.ref (s + 1), .retAddr 0], []) (k_m a b A 0 (j_df 0) []) _
  have hR0 : ([] : List jE).length = 0 := rfl
  have hf0 : (j_df 0).length = 17 := rfl
  refine k_obj hkc_0 rfl rfl rfl ?_
  refine k_ctor (z := s + 1) (na := 1) (nb := 40) (nn := 2) (nT := 2) hkc_0 rfl rfl rfl rfl (by decide) rfl (by decide) rfl hs hR0 (by omega) hf0 (by decide) (fun _ => rfl) rfl rfl ct_55 ?_
  intro fs1 R1 e1 lf1 q1 lR1
  refine k_ctor (z := s + 3) (na := 3) (nb := 123) (nn := 8) (nT := 4) hkc_0 rfl rfl rfl rfl (by decide) rfl (by decide) rfl hs lR1 (by omega) lf1 (by decide) (fun _ => rfl) rfl rfl ct_7 ?_
  intro fs2 R2 e2 lf2 q2 lR2
  refine k_ctor (z := s + 7) (na := 2) (nb := 243) (nn := 2) (nT := 3) hkc_0 rfl rfl rfl rfl (by decide) rfl (by decide) rfl hs lR2 (by omega) lf2 (by decide) (fun _ => rfl) rfl rfl ct_62 ?_
  intro fs3 R3 e3 lf3 q3 lR3
  refine k_ctor (z := s + 10) (na := 2) (nb := 243) (nn := 2) (nT := 3) hkc_0 rfl rfl rfl rfl (by decide) rfl (by decide) rfl hs lR3 (by omega) lf3 (by decide) (fun _ => rfl) rfl rfl ct_62 ?_
  intro fs4 R4 e4 lf4 q4 lR4
  refine k_ctor (z := s + 13) (na := 3) (nb := 82) (nn := 3) (nT := 4) hkc_0 rfl rfl rfl rfl (by decide) rfl (by decide) rfl hs lR4 (by omega) lf4 (by decide) (fun _ => rfl) rfl rfl ct_11 ?_
  intro fs5 R5 e5 lf5 q5 lR5
  refine k_ctor (z := s + 17) (na := 8) (nb := 532) (nn := 3) (nT := 9) hkc_0 rfl rfl rfl rfl (by decide) rfl (by decide) rfl hs lR5 (by omega) lf5 (by decide) (fun _ => rfl) rfl rfl ct_12 ?_
  intro fs6 R6 e6 lf6 q6 lR6
  refine k_arr (z := s + 26) hkc_0 rfl rfl rfl (by decide) rfl (by decide) rfl hs lR6 (by omega) lf6 (by decide) (fun _ => rfl) (by decide) ?_
  intro fs7 R7 e7 lf7 q7 lR7
  refine k_arr (z := s + 27) hkc_0 rfl rfl rfl (by decide) rfl (by decide) rfl hs lR7 (by omega) lf7 (by decide) (fun _ => rfl) (by decide) ?_
  intro fs8 R8 e8 lf8 q8 lR8
  have hM : A ++ (0, fs8) :: R8 = (A ++ rp_0 s) ++ (62, (List.replicate 4 (j_dft 62))) :: [(50, List.replicate 4 (j_dft 50))] := by
    subst e1 q1; subst e2 q2; subst e3 q3; subst e4 q4; subst e5 q5; subst e6 q6; subst e7 q7; subst e8 q8
    simp only [rp_0, List.append_assoc, List.cons_append, List.nil_append]
  have hA : (A ++ rp_0 s).length = s + 26 := by rw [List.length_append, hs]; rfl
  have h0 : (A ++ rp_0 s)[s]? = some (0, (((((((((j_df 0).set 0 (.ref (s + 1 + 1))).set 1 (.ref (s + 3 + 1))).set 2 (.ref (s + 7 + 1))).set 3 (.ref (s + 10 + 1))).set 4 (.ref (s + 13 + 1))).set 5 (.ref (s + 17 + 1))).set 6 (.ref (s + 26 + 1))).set 7 (.ref (s + 27 + 1)))) := k_at0 hs
  have hv : ((((((((((j_df 0).set 0 (.ref (s + 1 + 1))).set 1 (.ref (s + 3 + 1))).set 2 (.ref (s + 7 + 1))).set 3 (.ref (s + 10 + 1))).set 4 (.ref (s + 13 + 1))).set 5 (.ref (s + 17 + 1))).set 6 (.ref (s + 26 + 1))).set 7 (.ref (s + 27 + 1))) : List Value)[6]? = some (.ref (s + 26 + 1)) := rfl
  generalize (((((((((j_df 0).set 0 (.ref (s + 1 + 1))).set 1 (.ref (s + 3 + 1))).set 2 (.ref (s + 7 + 1))).set 3 (.ref (s + 10 + 1))).set 4 (.ref (s + 13 + 1))).set 5 (.ref (s + 17 + 1))).set 6 (.ref (s + 26 + 1))).set 7 (.ref (s + 27 + 1))) = gs at h0 hv
  unfold k_m
  rw [hM]
  refine gs_push hkc_0 rfl rfl rfl ?_
  refine gs_istore (L2 := [.ref (s + 1), .int (Int32.ofNat 0)]) hkc_0 rfl (by show 1 < 2; decide) rfl rfl ?_
  refine k_head (j := 0) hkc_0 rfl rfl rfl rfl (by decide) (by decide) (fun _ => ?_) (fun h => absurd (by decide) h)
  refine k_elem (q := 1) (y := s + 26) (z := s + 28) (j := 0) (na := 8) (nb := 532) (nn := 3) (g := 4) hkc_0 rfl rfl rfl rfl rfl rfl (by decide) rfl rfl rfl hA rfl (by omega) (by decide) rfl (by decide) h0 hv rfl rfl rfl ct_12 ?_
  refine gs_iinc (y := Int32.ofNat 1) (L2 := [.ref (s + 1), .int (Int32.ofNat 1)]) hkc_0 rfl rfl (by decide) rfl rfl ?_
  refine gs_goto hkc_0 rfl ?_
  refine k_head (j := 1) hkc_0 rfl rfl rfl rfl (by decide) (by decide) (fun _ => ?_) (fun h => absurd (by decide) h)
  refine k_elem (q := 10) (y := s + 26) (z := s + 37) (j := 1) (na := 8) (nb := 532) (nn := 3) (g := 4) hkc_0 rfl rfl rfl rfl rfl rfl (by decide) rfl rfl rfl hA rfl (by omega) (by decide) rfl (by decide) h0 hv rfl rfl rfl ct_12 ?_
  refine gs_iinc (y := Int32.ofNat 2) (L2 := [.ref (s + 1), .int (Int32.ofNat 2)]) hkc_0 rfl rfl (by decide) rfl rfl ?_
  refine gs_goto hkc_0 rfl ?_
  refine k_head (j := 2) hkc_0 rfl rfl rfl rfl (by decide) (by decide) (fun _ => ?_) (fun h => absurd (by decide) h)
  refine k_elem (q := 19) (y := s + 26) (z := s + 46) (j := 2) (na := 8) (nb := 532) (nn := 3) (g := 4) hkc_0 rfl rfl rfl rfl rfl rfl (by decide) rfl rfl rfl hA rfl (by omega) (by decide) rfl (by decide) h0 hv rfl rfl rfl ct_12 ?_
  refine gs_iinc (y := Int32.ofNat 3) (L2 := [.ref (s + 1), .int (Int32.ofNat 3)]) hkc_0 rfl rfl (by decide) rfl rfl ?_
  refine gs_goto hkc_0 rfl ?_
  refine k_head (j := 3) hkc_0 rfl rfl rfl rfl (by decide) (by decide) (fun _ => ?_) (fun h => absurd (by decide) h)
  refine k_elem (q := 28) (y := s + 26) (z := s + 55) (j := 3) (na := 8) (nb := 532) (nn := 3) (g := 4) hkc_0 rfl rfl rfl rfl rfl rfl (by decide) rfl rfl rfl hA rfl (by omega) (by decide) rfl (by decide) h0 hv rfl rfl rfl ct_12 ?_
  refine gs_iinc (y := Int32.ofNat 4) (L2 := [.ref (s + 1), .int (Int32.ofNat 4)]) hkc_0 rfl rfl (by decide) rfl rfl ?_
  refine gs_goto hkc_0 rfl ?_
  refine k_head (j := 4) hkc_0 rfl rfl rfl rfl (by decide) (by decide) (fun h => absurd h (by decide)) (fun _ => ?_)
  refine gs_ret hkc_0 rfl (k_eq (by omega) (by omega) ?_)
  exact List.append_assoc _ _ _
end SD1
