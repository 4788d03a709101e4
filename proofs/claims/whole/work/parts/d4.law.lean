/-! ===== the prologue: from the law's entry to its first round ===== -/
section SD4
variable {X : List Int32} {s d : Nat}
def la_veq : Value → Value → Bool
  | .int a, .int b => a == b
  | .long a, .long b => a == b
  | .ref a, .ref b => a == b
  | .null, .null => true
  | _, _ => false
theorem la_veqE : ∀ {u v : Value}, la_veq u v = true → u = v := by
  intro u v h
  unfold la_veq at h
  split at h
  · rw [beq_iff_eq.mp h]
  · rw [beq_iff_eq.mp h]
  · rw [beq_iff_eq.mp h]
  · rfl
  · cases h
def la_leq : List Value → List Value → Bool
  | [], [] => true
  | u :: us, v :: vs => la_veq u v && la_leq us vs
  | _, _ => false
theorem la_leqE : ∀ {us vs : List Value}, la_leq us vs = true → us = vs := by
  intro us
  induction us with
  | nil => intro vs h; cases vs with
    | nil => rfl
    | cons => cases h
  | cons u us ih => intro vs h; cases vs with
    | nil => cases h
    | cons v vs =>
      simp only [la_leq, Bool.and_eq_true] at h
      rw [la_veqE h.1, ih h.2]
def la_ceq : List jE → List jE → Bool
  | [], [] => true
  | c :: cs, e :: es => (c.1 == e.1 && la_leq c.2 e.2) && la_ceq cs es
  | _, _ => false
theorem la_ceqE : ∀ {us vs : List jE}, la_ceq us vs = true → us = vs := by
  intro us
  induction us with
  | nil => intro vs h; cases vs with
    | nil => rfl
    | cons => cases h
  | cons u us ih => intro vs h; cases vs with
    | nil => cases h
    | cons v vs =>
      obtain ⟨a, b⟩ := u; obtain ⟨c, d⟩ := v
      simp only [la_ceq, Bool.and_eq_true, beq_iff_eq] at h
      obtain ⟨⟨rfl, h1⟩, h2⟩ := h
      rw [la_leqE h1, ih h2]
def tc_144 : List (Nat × Nat × List Nat) := (12, 81, [1076 + 5, 1076 + 6, 0, 1076 + 7, 1076 + 8, 1076 + 9, 1076 + 10, 1076 + 11, 1076 + 12, 1076 + 13, 1076 + 14, 1076 + 15, 1076 + 16, 1076 + 17, 1076 + 18, 1076 + 19, 1076 + 20, 1076 + 21, 1076 + 22, 0, 0, 0, 0, 1076 + 23, 1076 + 24, 1076 + 25, 1076 + 26, 1076 + 27, 0, 0, 0, 0, 0, 1076 + 28, 1076 + 29, 1076 + 30, 1076 + 31, 1076 + 32, 1076 + 33, 1076 + 34, 1076 + 35, 1076 + 36, 1076 + 37, 1076 + 38, 1076 + 39, 0, 0, 0, 0, 1076 + 40, 1076 + 41, 1076 + 42, 1076 + 43, 1076 + 44, 1076 + 45, 1076 + 46, 1076 + 47, 1076 + 48, 1076 + 49, 1076 + 50, 1076 + 51, 1076 + 52, 1076 + 53, 1076 + 54, 0, 1076 + 55, 0, 0, 1076 + 56, 1076 + 57, 0, 1076 + 58, 0, 1076 + 59, 0, 0, 0, 0, 1076 + 60, 0, 0]) :: (((((((((((((((((((((((((((((((((((((((((((((((((((((((([] ++ [(50, 80, [])]) ++ [(50, 2, [])]) ++ [(50, 640, [])]) ++ [(50, 16, [])]) ++ [(50, 16, [])]) ++ [(50, 16, [])]) ++ [(50, 16, [])]) ++ [(50, 16, [])]) ++ [(50, 16, [])]) ++ [(52, 16, [])]) ++ [(50, 16, [])]) ++ [(50, 16, [])]) ++ [(50, 16, [])]) ++ [(50, 16, [])]) ++ [(50, 64, [])]) ++ [(50, 16, [])]) ++ [(50, 3744, [])]) ++ [(50, 144, [])]) ++ [(50, 640, [])]) ++ [(50, 16, [])]) ++ [(50, 640, [])]) ++ [(50, 16, [])]) ++ [(50, 40, [])]) ++ [(50, 16, [])]) ++ [(50, 2560, [])]) ++ [(50, 64, [])]) ++ [(50, 14976, [])]) ++ [(50, 14976, [])]) ++ [(50, 576, [])]) ++ [(52, 16, [])]) ++ [(50, 640, [])]) ++ [(50, 16, [])]) ++ [(50, 3744, [])]) ++ [(50, 3744, [])]) ++ [(50, 144, [])]) ++ [(50, 4, [])]) ++ [(50, 4, [])]) ++ [(50, 4, [])]) ++ [(50, 4, [])]) ++ [(50, 4, [])]) ++ [(52, 4, [])]) ++ [(52, 16, [])]) ++ [(52, 4, [])]) ++ [(50, 16, [])]) ++ [(50, 16, [])]) ++ [(50, 16, [])]) ++ [(50, 3744, [])]) ++ [(50, 144, [])]) ++ [(52, 16, [])]) ++ [(50, 16, [])]) ++ [(50, 40, [])]) ++ [(50, 80, [])]) ++ [(50, 80, [])]) ++ [(50, 400, [])]) ++ [(50, 234, [])]) ++ [(50, 9, [])])
def tb_52 : List (Nat × Nat × List Nat) := w_tab.take 52
def tcq : Nat → List (Nat × Nat × List Nat)
  | 0 => []
  | j + 1 => tcq j ++ tc_0 (52 + 64 * j)
theorem tc_0l : (tc_0 s).length = 64 := rfl
theorem tcq_len : ∀ j, (tcq j).length = 64 * j := by
  intro j
  induction j with
  | zero => rfl
  | succ j ih => simp only [tcq, List.length_append, ih, tc_0l]; omega
theorem cq_tab : ∀ j, cqs j = w_from w_z 52 (tcq j) := by
  intro j
  induction j with
  | zero => rfl
  | succ j ih =>
    simp only [cqs, tcq]
    rw [w_from_app, tcq_len, ih, tw_0]
set_option maxRecDepth 100000 in
theorem w_tab_is : w_tab = (tb_52 ++ tcq 16) ++ (tc_144 ++ [(53, 1, [2])]) := by decide +kernel
theorem h0_z {z b : Nat} (h1 : 52 ≤ z) (h2 : z ≠ 1076) : w_h0 z b = w_z z b := by
  unfold w_h0 w_z
  repeat rw [if_neg (by omega)]
set_option maxRecDepth 100000 in
set_option maxHeartbeats 4000000 in
theorem base_is : ([(11, rf_96), (60, rh_96)] ++ (61, cvs 16) :: rq2_96 : List jE) = w_from w_h0 0 tb_52 := la_ceqE (by decide +kernel)
set_option maxRecDepth 100000 in
theorem tb_len : tb_52.length = 52 := by decide +kernel
theorem m96_is : rm_96 = w_from w_h0 0 (tb_52 ++ tcq 16) := by
  rw [w_from_app, ← base_is, tb_len, Nat.zero_add]
  rw [w_from_eq (h := w_h0) (h2 := w_z) (tcq 16) 52 (fun z b h1 h2 => h0_z h1 (by rw [tcq_len] at h2; omega)), ← cq_tab]
  show [(11, rf_96), (60, rh_96)] ++ (61, cvs 16) :: (rq2_96 ++ cqs 16) = ([(11, rf_96), (60, rh_96)] ++ (61, cvs 16) :: rq2_96) ++ cqs 16
  exact (List.append_assoc [(11, rf_96), (60, rh_96)] ((61, cvs 16) :: rq2_96) (cqs 16)).symm
theorem m96_len : rm_96.length = 1076 := by
  show ([(11, rf_96), (60, rh_96)] ++ (61, cvs 16) :: (rq2_96 ++ cqs 16)).length = 1076
  have h1 : rq2_96.length = 49 := rfl
  have h2 := cqs_len 16
  simp only [List.length_append, List.length_cons, List.length_nil]
  omega
set_option maxRecDepth 100000 in
set_option maxHeartbeats 4000000 in
theorem mo_is : la_leq ((((((((((((((((((((((((((((((((((((((((((((((((((((((((((j_df 12).set 0 (.ref (1076 + 1 + 1))).set 1 (.ref (1076 + 2 + 1))).set 3 (.ref (1076 + 3 + 1))).set 4 (.ref (1076 + 4 + 1))).set 5 (.ref (1076 + 5 + 1))).set 6 (.ref (1076 + 6 + 1))).set 7 (.ref (1076 + 7 + 1))).set 8 (.ref (1076 + 8 + 1))).set 9 (.ref (1076 + 9 + 1))).set 10 (.ref (1076 + 10 + 1))).set 11 (.ref (1076 + 11 + 1))).set 12 (.ref (1076 + 12 + 1))).set 13 (.ref (1076 + 13 + 1))).set 14 (.ref (1076 + 14 + 1))).set 15 (.ref (1076 + 15 + 1))).set 16 (.ref (1076 + 16 + 1))).set 17 (.ref (1076 + 17 + 1))).set 18 (.ref (1076 + 18 + 1))).set 23 (.ref (1076 + 19 + 1))).set 24 (.ref (1076 + 20 + 1))).set 25 (.ref (1076 + 21 + 1))).set 26 (.ref (1076 + 22 + 1))).set 27 (.ref (1076 + 23 + 1))).set 31 (.int (Int32.ofNat 1))).set 33 (.ref (1076 + 24 + 1))).set 34 (.ref (1076 + 25 + 1))).set 35 (.ref (1076 + 26 + 1))).set 36 (.ref (1076 + 27 + 1))).set 37 (.ref (1076 + 28 + 1))).set 38 (.ref (1076 + 29 + 1))).set 39 (.ref (1076 + 30 + 1))).set 40 (.ref (1076 + 31 + 1))).set 41 (.ref (1076 + 32 + 1))).set 42 (.ref (1076 + 33 + 1))).set 43 (.ref (1076 + 34 + 1))).set 44 (.ref (1076 + 35 + 1))).set 49 (.ref (1076 + 36 + 1))).set 50 (.ref (1076 + 37 + 1))).set 51 (.ref (1076 + 38 + 1))).set 52 (.ref (1076 + 39 + 1))).set 53 (.ref (1076 + 40 + 1))).set 54 (.ref (1076 + 41 + 1))).set 55 (.ref (1076 + 42 + 1))).set 56 (.ref (1076 + 43 + 1))).set 57 (.ref (1076 + 44 + 1))).set 58 (.ref (1076 + 45 + 1))).set 59 (.ref (1076 + 46 + 1))).set 60 (.ref (1076 + 47 + 1))).set 61 (.ref (1076 + 48 + 1))).set 62 (.ref (1076 + 49 + 1))).set 63 (.ref (1076 + 50 + 1))).set 65 (.ref (1076 + 51 + 1))).set 68 (.ref (1076 + 52 + 1))).set 69 (.ref (1076 + 53 + 1))).set 71 (.ref (1076 + 54 + 1))).set 73 (.ref (1076 + 55 + 1))).set 78 (.ref (1076 + 56 + 1))) (w_slots 1076 81 [1076 + 5, 1076 + 6, 0, 1076 + 7, 1076 + 8, 1076 + 9, 1076 + 10, 1076 + 11, 1076 + 12, 1076 + 13, 1076 + 14, 1076 + 15, 1076 + 16, 1076 + 17, 1076 + 18, 1076 + 19, 1076 + 20, 1076 + 21, 1076 + 22, 0, 0, 0, 0, 1076 + 23, 1076 + 24, 1076 + 25, 1076 + 26, 1076 + 27, 0, 0, 0, 0, 0, 1076 + 28, 1076 + 29, 1076 + 30, 1076 + 31, 1076 + 32, 1076 + 33, 1076 + 34, 1076 + 35, 1076 + 36, 1076 + 37, 1076 + 38, 1076 + 39, 0, 0, 0, 0, 1076 + 40, 1076 + 41, 1076 + 42, 1076 + 43, 1076 + 44, 1076 + 45, 1076 + 46, 1076 + 47, 1076 + 48, 1076 + 49, 1076 + 50, 1076 + 51, 1076 + 52, 1076 + 53, 1076 + 54, 0, 1076 + 55, 0, 0, 1076 + 56, 1076 + 57, 0, 1076 + 58, 0, 1076 + 59, 0, 0, 0, 0, 1076 + 60, 0, 0] w_h0) = true := by decide +kernel
theorem m144_is : rc_144 1076 = w_from w_h0 1076 tc_144 := by
  show List.cons _ _ = List.cons (12, w_slots 1076 81 _ w_h0) (w_from w_h0 1077 _)
  rw [← la_leqE mo_is]
  refine congr (congrArg List.cons rfl) ?_
  rw [w_from_eq (h := w_h0) (h2 := w_z) _ 1077 (fun z b h1 h2 => h0_z (by omega) (by omega))]
  rw [w_from_app, w_from_app, w_from_app, w_from_app, w_from_app, w_from_app, w_from_app, w_from_app, w_from_app, w_from_app, w_from_app, w_from_app, w_from_app, w_from_app, w_from_app, w_from_app, w_from_app, w_from_app, w_from_app, w_from_app, w_from_app, w_from_app, w_from_app, w_from_app, w_from_app, w_from_app, w_from_app, w_from_app, w_from_app, w_from_app, w_from_app, w_from_app, w_from_app, w_from_app, w_from_app, w_from_app, w_from_app, w_from_app, w_from_app, w_from_app, w_from_app, w_from_app, w_from_app, w_from_app, w_from_app, w_from_app, w_from_app, w_from_app, w_from_app, w_from_app, w_from_app, w_from_app, w_from_app, w_from_app, w_from_app, w_from_app]
  simp only [w_from, zs_0]
  rfl
theorem mem0_is : (rm_96 ++ rc_144 1076) ++ [(53, List.replicate 1 (j_dft 53))] = w_from w_h0 0 w_tab := by
  rw [w_tab_is, w_from_app (tb_52 ++ tcq 16) (tc_144 ++ [(53, 1, [2])]), w_from_app tc_144, ← m96_is, m144_is]
  have l1 : (tb_52 ++ tcq 16).length = 1076 := by rw [List.length_append, tb_len, tcq_len]
  have l2 : tc_144.length = 57 := rfl
  rw [l1, l2, List.append_assoc, Nat.zero_add]
  refine congr (congrArg HAppend.hAppend rfl) ?_
  refine congr (congrArg HAppend.hAppend rfl) ?_
  rfl
theorem la_start (H : la_at X 512 0 w_h0) : j_Good X := by
  obtain ⟨m, g, b1, b2⟩ := H (0 + (1 + 1075) + (1 + 56) + 1) (0 + (18 + 56658) + (81 + 52545) + 1) true (.retAddr 0) (.retAddr 0)
  have G : j_Go X 400 266 (0, [.ref 0, .retAddr 0, .retAddr 0, .retAddr 0, .retAddr 0, .retAddr 0, .retAddr 0], []) (0, 0, true, []) (.inl (some (.int 1)), m) := by
    refine k_mk (z := 0) (na := 1075) (nb := 56658) (nn := 18) hk_266 rfl rfl rfl (by decide) (by decide) rfl rfl ct_96 ?_
    rw [List.nil_append]
    refine gs_astore (L2 := [.ref 0, .ref (0 + 1), .retAddr 0, .retAddr 0, .retAddr 0, .retAddr 0, .retAddr 0]) hk_266 rfl (by show 1 < 7; decide) rfl rfl ?_
    refine k_mk (z := 1076) (na := 56) (nb := 52545) (nn := 81) hk_266 rfl rfl rfl (by decide) (by decide) m96_len rfl ct_144 ?_
    refine gs_astore (L2 := [.ref 0, .ref (0 + 1), .ref (1076 + 1), .retAddr 0, .retAddr 0, .retAddr 0, .retAddr 0]) hk_266 rfl (by show 2 < 7; decide) rfl rfl ?_
    refine gs_push hk_266 rfl rfl rfl ?_
    refine k_newa hk_266 rfl (by decide) (by decide) ?_
    have l3 : (rm_96 ++ rc_144 1076).length = 1133 := by rw [List.length_append, m96_len, rl_144]
    rw [l3, mem0_is]
    refine gs_astore (L2 := [.ref 0, .ref (0 + 1), .ref (1076 + 1), .ref (1133 + 1), .retAddr 0, .retAddr 0, .retAddr 0]) hk_266 rfl (by show 3 < 7; decide) rfl rfl ?_
    refine gs_push hk_266 rfl rfl rfl ?_
    refine gs_istore (L2 := [.ref 0, .ref (0 + 1), .ref (1076 + 1), .ref (1133 + 1), .int (Int32.ofNat 0), .retAddr 0, .retAddr 0]) hk_266 rfl (by show 4 < 7; decide) rfl rfl ?_
    exact g
  obtain ⟨n, hn⟩ := G
  exact ⟨n, 400, m, hn, by omega, by omega, by decide⟩
end SD4
