/-! ===== the methods as functions over the flat heap, and that the interpreter does what they say (printed by wip/whole/dec.py) ===== -/
-- NotebookWeirModel.strength(I)I
theorem hk_201 : jP[201]? = some (jc_201, 1, [], []) := by rfl
def v_201 (x0 : Int32) : Int32 := (if x0 = 35 then 3 else (if x0 = 42 then 2 else (if x0 = 43 then 1 else (if x0 = 45 then 1 else 0))))
theorem v_201_ok {X : List Int32} {h : Hp} {x0 : Int32}  : k_Ev X 0 201 [.int x0] h (.inl (some (.int (v_201 x0))), h) := by
  refine k_of hk_201 ?_
  show k_Go X 0 201 (0, [.int x0], []) h _
  generalize hv : v_201 x0 = z
  unfold v_201 at hv
  refine kg_iload hk_201 rfl rfl rfl ?_
  refine kg_push (x := 35) hk_201 rfl (by decide) rfl ?_
  refine kv_mid (p := 19) (L := [.int x0]) (S := [.int (if x0 = 35 then 3 else (if x0 = 42 then 2 else (if x0 = 43 then 1 else (if x0 = 45 then 1 else 0))))]) ?_ (fun hK => ?_)
  · exact kg_iret hk_201 rfl (Or.inl rfl) (by rw [hv])
  · by_cases c1 : x0 = 35
    · have hK := kv_T c1 hK
      refine kg_icF hk_201 rfl (jc_F1 c1) rfl ?_
      refine kg_push (x := 3) hk_201 rfl (by decide) rfl ?_
      refine kg_goto hk_201 rfl ?_
      exact hK
    · have hK := kv_F c1 hK
      refine kg_icT hk_201 rfl (jc_T1 c1) ?_
      refine kg_iload hk_201 rfl rfl rfl ?_
      refine kg_push (x := 42) hk_201 rfl (by decide) rfl ?_
      by_cases c2 : x0 = 42
      · have hK := kv_T c2 hK
        refine kg_icF hk_201 rfl (jc_F1 c2) rfl ?_
        refine kg_push (x := 2) hk_201 rfl (by decide) rfl ?_
        refine kg_goto hk_201 rfl ?_
        exact hK
      · have hK := kv_F c2 hK
        refine kg_icT hk_201 rfl (jc_T1 c2) ?_
        refine kg_iload hk_201 rfl rfl rfl ?_
        refine kg_push (x := 43) hk_201 rfl (by decide) rfl ?_
        by_cases c3 : x0 = 43
        · have hK := kv_T c3 hK
          refine kg_icT hk_201 rfl (jc_T0 c3) ?_
          refine kg_push (x := 1) hk_201 rfl (by decide) rfl ?_
          refine kg_goto hk_201 rfl ?_
          exact hK
        · have hK := kv_F c3 hK
          refine kg_icF hk_201 rfl (jc_F0 c3) rfl ?_
          refine kg_iload hk_201 rfl rfl rfl ?_
          refine kg_push (x := 45) hk_201 rfl (by decide) rfl ?_
          by_cases c4 : x0 = 45
          · have hK := kv_T c4 hK
            refine kg_icF hk_201 rfl (jc_F1 c4) rfl ?_
            refine kg_push (x := 1) hk_201 rfl (by decide) rfl ?_
            refine kg_goto hk_201 rfl ?_
            exact hK
          · have hK := kv_F c4 hK
            refine kg_icT hk_201 rfl (jc_T1 c4) ?_
            refine kg_push (x := 0) hk_201 rfl (by decide) rfl ?_
            exact hK
-- NotebookWeirModel.isNumber(I)Z
theorem hk_199 : jP[199]? = some (jc_199, 2, [], []) := by rfl
def v_199 (h : Hp) (x1 : Int32) : Int32 := (if (h 1130 (9 * x1).toNatClampNeg) = (-1) then 1 else 0)
def g_199 (x1 : Int32) : Bool := w_ix (9 * x1) 400
theorem v_199_bo (h : Hp) (x1 : Int32) : w_bo (v_199 h x1) = true := by
  unfold v_199
  exact (w_boi rfl rfl)
theorem v_199_ok {X : List Int32} {h : Hp} {x1 : Int32}  (hg : g_199 x1 = true) : k_Ev X 0 199 [.ref (1076 + 1), .int x1] h (.inl (some (.int (v_199 h x1))), h) := by
  refine k_of hk_199 ?_
  show k_Go X 0 199 (0, [.ref (1076 + 1), .int x1], []) h _
  generalize hv : v_199 h x1 = z
  unfold v_199 at hv
  unfold g_199 at hg
  have g1 := hg
  refine kg_aload hk_199 rfl rfl rfl ?_
  refine kg_get (v := .ref (1130 + 1)) hk_199 rfl wk_1076_71 rfl rfl ?_
  refine kg_push (x := 9) hk_199 rfl (by decide) rfl ?_
  refine kg_iload hk_199 rfl rfl rfl ?_
  refine kg_bin (z := (9 * x1)) hk_199 rfl rfl rfl ?_
  refine kg_ald (y := (h 1130 (9 * x1).toNatClampNeg)) hk_199 rfl wc_1130 g1 rfl rfl ?_
  refine kg_push (x := (-1)) hk_199 rfl (by decide) rfl ?_
  refine kv_mid (p := 11) (L := [.ref (1076 + 1), .int x1]) (S := [.int (if (h 1130 (9 * x1).toNatClampNeg) = (-1) then 1 else 0)]) ?_ (fun hK => ?_)
  · exact kg_iret hk_199 rfl (Or.inr (w_boi rfl rfl)) (by rw [hv])
  · by_cases c2 : (h 1130 (9 * x1).toNatClampNeg) = (-1)
    · have hK := kv_T c2 hK
      refine kg_icF hk_199 rfl (jc_F1 c2) rfl ?_
      refine kg_push (x := 1) hk_199 rfl (by decide) rfl ?_
      refine kg_goto hk_199 rfl ?_
      exact hK
    · have hK := kv_F c2 hK
      refine kg_icT hk_199 rfl (jc_T1 c2) ?_
      refine kg_push (x := 0) hk_199 rfl (by decide) rfl ?_
      exact hK
-- NotebookWeirModel.does1()V
theorem hk_200 : jP[200]? = some (jc_200, 4, [], []) := by rfl
def q_200_73 (h : Hp) : Option (Hp) :=
  (p_195 h 2 (h 1076 80)).bind fun v14 =>
  some v14
theorem q_200_73_ok {X : List Int32}   {h : Hp}  {r : Hp} (hF : q_200_73 h = some r)  : ∀ (u1 : Value) (u2 : Value) (u3 : Value), k_Go X 1 200 (73, [.ref (1076 + 1), u1, u2, u3], []) h (.inl none, r) := by
  intro u1 u2 u3
  unfold q_200_73 at hF
  refine kg_aload hk_200 rfl rfl rfl ?_
  refine kg_push (x := 2) hk_200 rfl (by decide) rfl ?_
  refine kg_aload hk_200 rfl rfl rfl ?_
  refine kg_get (v := .int (h 1076 80)) hk_200 rfl wk_1076_80 rfl rfl ?_
  refine wf_bind hF (fun v14 hv14 hF => ?_)
  refine kg_call (as := [.ref (1076 + 1), .int 2, .int (h 1076 80)]) (rest := []) hk_200 rfl (Or.inr (Or.inr (Or.inr ⟨Or.inl rfl, _, _, rfl, wc_1076⟩))) rfl rfl rfl (Nat.not_lt.mpr (Nat.le_of_ble_eq_true rfl)) (p_195_ok hv14) (by decide) rfl ?_
  have hF := Option.some.inj hF
  subst hF
  exact kg_ret hk_200 rfl rfl
def p_200 (h : Hp) : Option (Hp) :=
  w_let (w_up h 1076 70 ((h 1076 70) - 1)) fun h1 =>
  w_gd (w_ix (h1 1076 70) 80) <|
  if (h1 1128 (h1 1076 70).toNatClampNeg) = 35 then
    (w_gd (g_199 ((h1 1076 72) - 1)) <|
    if (v_199 h1 ((h1 1076 72) - 1)) = 0 then
      (w_gd (w_ix (9 * ((h1 1076 72) - 1)) 400) <|
      w_gd (w_ix ((9 * ((h1 1076 72) - 1)) + 1) 400) <|
      w_let (w_up h1 1130 (((9 * ((h1 1076 72) - 1)) + 1).toNatClampNeg) (h1 1130 (9 * ((h1 1076 72) - 1)).toNatClampNeg)) fun h8 =>
      w_gd (w_ix (9 * ((h8 1076 72) - 1)) 400) <|
      w_let (w_up h8 1130 ((9 * ((h8 1076 72) - 1)).toNatClampNeg) (-1)) fun h10 =>
      some h10)
    else
      ((p_195 h1 2 (h1 1076 80)).bind fun v11 =>
      some v11))
  else
    (w_gd (g_199 ((h1 1076 72) - 1)) <|
    if (v_199 h1 ((h1 1076 72) - 1)) = 0 then
      (q_200_73 h1)
    else
      (w_gd (g_199 ((h1 1076 72) - 2)) <|
      if (v_199 h1 ((h1 1076 72) - 2)) = 0 then
        (q_200_73 h1)
      else
        (w_gd (w_ix ((9 * ((h1 1076 72) - 2)) + 1) 400) <|
        w_gd (w_ix ((9 * ((h1 1076 72) - 1)) + 1) 400) <|
        w_let (w_up h1 1076 72 ((h1 1076 72) - 1)) fun h19 =>
        w_gd (w_ix ((9 * ((h19 1076 72) - 1)) + 1) 400) <|
        w_let (w_up h19 1130 (((9 * ((h19 1076 72) - 1)) + 1).toNatClampNeg) (if (h1 1128 (h1 1076 70).toNatClampNeg) = 43 then ((h1 1130 ((9 * ((h1 1076 72) - 2)) + 1).toNatClampNeg) + (h1 1130 ((9 * ((h1 1076 72) - 1)) + 1).toNatClampNeg)) else (if (h1 1128 (h1 1076 70).toNatClampNeg) = 45 then ((h1 1130 ((9 * ((h1 1076 72) - 2)) + 1).toNatClampNeg) - (h1 1130 ((9 * ((h1 1076 72) - 1)) + 1).toNatClampNeg)) else ((h1 1130 ((9 * ((h1 1076 72) - 2)) + 1).toNatClampNeg) * (h1 1130 ((9 * ((h1 1076 72) - 1)) + 1).toNatClampNeg))))) fun h23 =>
        some h23)))
theorem p_200_ok {X : List Int32}  {h : Hp}   {r : Hp} (hF : p_200 h = some r) : k_Ev X 1 200 [.ref (1076 + 1)] h (.inl none, r) := by
  refine k_of hk_200 ?_
  show k_Go X 1 200 (0, [.ref (1076 + 1), (.retAddr 0), (.retAddr 0), (.retAddr 0)], []) h _
  unfold p_200 at hF
  refine kg_aload hk_200 rfl rfl rfl ?_
  refine kg_dup hk_200 rfl rfl rfl ?_
  refine kg_get (v := .int (h 1076 70)) hk_200 rfl wk_1076_70 rfl rfl ?_
  refine kg_push (x := 1) hk_200 rfl (by decide) rfl ?_
  refine kg_bin (z := ((h 1076 70) - 1)) hk_200 rfl rfl rfl ?_
  refine wf_let hF (fun h1 hh1 hF => ?_)
  refine kg_put hk_200 rfl wk_1076_70 rfl rfl hh1 rfl ?_
  refine kg_aload hk_200 rfl rfl rfl ?_
  refine kg_get (v := .ref (1128 + 1)) hk_200 rfl wk_1076_68 rfl rfl ?_
  refine kg_aload hk_200 rfl rfl rfl ?_
  refine kg_get (v := .int (h1 1076 70)) hk_200 rfl wk_1076_70 rfl rfl ?_
  refine wf_gd hF (fun g2 hF => ?_)
  refine kg_ald (y := (h1 1128 (h1 1076 70).toNatClampNeg)) hk_200 rfl wc_1128 g2 rfl rfl ?_
  refine kg_istore (L2 := [.ref (1076 + 1), .int (h1 1128 (h1 1076 70).toNatClampNeg), (.retAddr 0), (.retAddr 0)]) hk_200 rfl (Nat.le_of_ble_eq_true rfl) rfl rfl ?_
  refine kg_iload hk_200 rfl rfl rfl ?_
  refine kg_push (x := 35) hk_200 rfl (by decide) rfl ?_
  refine wf_if hF (fun c3 hF => ?_) (fun c3 hF => ?_)
  · refine kg_icF hk_200 rfl (jc_F1 c3) rfl ?_
    refine kg_aload hk_200 rfl rfl rfl ?_
    refine kg_aload hk_200 rfl rfl rfl ?_
    refine kg_get (v := .int (h1 1076 72)) hk_200 rfl wk_1076_72 rfl rfl ?_
    refine kg_push (x := 1) hk_200 rfl (by decide) rfl ?_
    refine kg_bin (z := ((h1 1076 72) - 1)) hk_200 rfl rfl rfl ?_
    refine wf_gd hF (fun g4 hF => ?_)
    refine kg_call (as := [.ref (1076 + 1), .int ((h1 1076 72) - 1)]) (rest := []) hk_200 rfl (Or.inr (Or.inr (Or.inr ⟨Or.inl rfl, _, _, rfl, wc_1076⟩))) rfl rfl rfl (Nat.not_lt.mpr (Nat.le_of_ble_eq_true rfl)) (v_199_ok g4) (by decide) rfl ?_
    refine wf_if hF (fun c5 hF => ?_) (fun c5 hF => ?_)
    · refine kg_ifT hk_200 rfl (jc_T0 c5) ?_
      refine kg_aload hk_200 rfl rfl rfl ?_
      refine kg_get (v := .ref (1130 + 1)) hk_200 rfl wk_1076_71 rfl rfl ?_
      refine kg_push (x := 9) hk_200 rfl (by decide) rfl ?_
      refine kg_aload hk_200 rfl rfl rfl ?_
      refine kg_get (v := .int (h1 1076 72)) hk_200 rfl wk_1076_72 rfl rfl ?_
      refine kg_push (x := 1) hk_200 rfl (by decide) rfl ?_
      refine kg_bin (z := ((h1 1076 72) - 1)) hk_200 rfl rfl rfl ?_
      refine kg_bin (z := (9 * ((h1 1076 72) - 1))) hk_200 rfl rfl rfl ?_
      refine kg_push (x := 1) hk_200 rfl (by decide) rfl ?_
      refine kg_bin (z := ((9 * ((h1 1076 72) - 1)) + 1)) hk_200 rfl rfl rfl ?_
      refine kg_aload hk_200 rfl rfl rfl ?_
      refine kg_get (v := .ref (1130 + 1)) hk_200 rfl wk_1076_71 rfl rfl ?_
      refine kg_push (x := 9) hk_200 rfl (by decide) rfl ?_
      refine kg_aload hk_200 rfl rfl rfl ?_
      refine kg_get (v := .int (h1 1076 72)) hk_200 rfl wk_1076_72 rfl rfl ?_
      refine kg_push (x := 1) hk_200 rfl (by decide) rfl ?_
      refine kg_bin (z := ((h1 1076 72) - 1)) hk_200 rfl rfl rfl ?_
      refine kg_bin (z := (9 * ((h1 1076 72) - 1))) hk_200 rfl rfl rfl ?_
      refine wf_gd hF (fun g6 hF => ?_)
      refine kg_ald (y := (h1 1130 (9 * ((h1 1076 72) - 1)).toNatClampNeg)) hk_200 rfl wc_1130 g6 rfl rfl ?_
      refine wf_gd hF (fun g7 hF => ?_)
      refine wf_let hF (fun h8 hh8 hF => ?_)
      refine kg_ast hk_200 rfl wc_1130 g7 (by rw [j_nar50]; exact hh8) rfl ?_
      refine kg_aload hk_200 rfl rfl rfl ?_
      refine kg_get (v := .ref (1130 + 1)) hk_200 rfl wk_1076_71 rfl rfl ?_
      refine kg_push (x := 9) hk_200 rfl (by decide) rfl ?_
      refine kg_aload hk_200 rfl rfl rfl ?_
      refine kg_get (v := .int (h8 1076 72)) hk_200 rfl wk_1076_72 rfl rfl ?_
      refine kg_push (x := 1) hk_200 rfl (by decide) rfl ?_
      refine kg_bin (z := ((h8 1076 72) - 1)) hk_200 rfl rfl rfl ?_
      refine kg_bin (z := (9 * ((h8 1076 72) - 1))) hk_200 rfl rfl rfl ?_
      refine kg_push (x := (-1)) hk_200 rfl (by decide) rfl ?_
      refine wf_gd hF (fun g9 hF => ?_)
      refine wf_let hF (fun h10 hh10 hF => ?_)
      refine kg_ast hk_200 rfl wc_1130 g9 (by rw [j_nar50]; exact hh10) rfl ?_
      have hF := Option.some.inj hF
      subst hF
      exact kg_ret hk_200 rfl rfl
    · refine kg_ifF hk_200 rfl (jc_F0 c5) rfl ?_
      refine kg_aload hk_200 rfl rfl rfl ?_
      refine kg_push (x := 2) hk_200 rfl (by decide) rfl ?_
      refine kg_aload hk_200 rfl rfl rfl ?_
      refine kg_get (v := .int (h1 1076 80)) hk_200 rfl wk_1076_80 rfl rfl ?_
      refine wf_bind hF (fun v11 hv11 hF => ?_)
      refine kg_call (as := [.ref (1076 + 1), .int 2, .int (h1 1076 80)]) (rest := []) hk_200 rfl (Or.inr (Or.inr (Or.inr ⟨Or.inl rfl, _, _, rfl, wc_1076⟩))) rfl rfl rfl (Nat.not_lt.mpr (Nat.le_of_ble_eq_true rfl)) (p_195_ok hv11) (by decide) rfl ?_
      have hF := Option.some.inj hF
      subst hF
      exact kg_ret hk_200 rfl rfl
  · refine kg_icT hk_200 rfl (jc_T1 c3) ?_
    refine kg_aload hk_200 rfl rfl rfl ?_
    refine kg_aload hk_200 rfl rfl rfl ?_
    refine kg_get (v := .int (h1 1076 72)) hk_200 rfl wk_1076_72 rfl rfl ?_
    refine kg_push (x := 1) hk_200 rfl (by decide) rfl ?_
    refine kg_bin (z := ((h1 1076 72) - 1)) hk_200 rfl rfl rfl ?_
    refine wf_gd hF (fun g12 hF => ?_)
    refine kg_call (as := [.ref (1076 + 1), .int ((h1 1076 72) - 1)]) (rest := []) hk_200 rfl (Or.inr (Or.inr (Or.inr ⟨Or.inl rfl, _, _, rfl, wc_1076⟩))) rfl rfl rfl (Nat.not_lt.mpr (Nat.le_of_ble_eq_true rfl)) (v_199_ok g12) (by decide) rfl ?_
    refine wf_if hF (fun c13 hF => ?_) (fun c13 hF => ?_)
    · refine kg_ifT hk_200 rfl (jc_T0 c13) ?_
      exact q_200_73_ok hF _ _ _
    · refine kg_ifF hk_200 rfl (jc_F0 c13) rfl ?_
      refine kg_aload hk_200 rfl rfl rfl ?_
      refine kg_aload hk_200 rfl rfl rfl ?_
      refine kg_get (v := .int (h1 1076 72)) hk_200 rfl wk_1076_72 rfl rfl ?_
      refine kg_push (x := 2) hk_200 rfl (by decide) rfl ?_
      refine kg_bin (z := ((h1 1076 72) - 2)) hk_200 rfl rfl rfl ?_
      refine wf_gd hF (fun g15 hF => ?_)
      refine kg_call (as := [.ref (1076 + 1), .int ((h1 1076 72) - 2)]) (rest := []) hk_200 rfl (Or.inr (Or.inr (Or.inr ⟨Or.inl rfl, _, _, rfl, wc_1076⟩))) rfl rfl rfl (Nat.not_lt.mpr (Nat.le_of_ble_eq_true rfl)) (v_199_ok g15) (by decide) rfl ?_
      refine wf_if hF (fun c16 hF => ?_) (fun c16 hF => ?_)
      · refine kg_ifF hk_200 rfl (jc_F1 c16) rfl ?_
        exact q_200_73_ok hF _ _ _
      · refine kg_ifT hk_200 rfl (jc_T1 c16) ?_
        refine kg_aload hk_200 rfl rfl rfl ?_
        refine kg_get (v := .ref (1130 + 1)) hk_200 rfl wk_1076_71 rfl rfl ?_
        refine kg_push (x := 9) hk_200 rfl (by decide) rfl ?_
        refine kg_aload hk_200 rfl rfl rfl ?_
        refine kg_get (v := .int (h1 1076 72)) hk_200 rfl wk_1076_72 rfl rfl ?_
        refine kg_push (x := 2) hk_200 rfl (by decide) rfl ?_
        refine kg_bin (z := ((h1 1076 72) - 2)) hk_200 rfl rfl rfl ?_
        refine kg_bin (z := (9 * ((h1 1076 72) - 2))) hk_200 rfl rfl rfl ?_
        refine kg_push (x := 1) hk_200 rfl (by decide) rfl ?_
        refine kg_bin (z := ((9 * ((h1 1076 72) - 2)) + 1)) hk_200 rfl rfl rfl ?_
        refine wf_gd hF (fun g17 hF => ?_)
        refine kg_ald (y := (h1 1130 ((9 * ((h1 1076 72) - 2)) + 1).toNatClampNeg)) hk_200 rfl wc_1130 g17 rfl rfl ?_
        refine kg_istore (L2 := [.ref (1076 + 1), .int (h1 1128 (h1 1076 70).toNatClampNeg), .int (h1 1130 ((9 * ((h1 1076 72) - 2)) + 1).toNatClampNeg), (.retAddr 0)]) hk_200 rfl (Nat.le_of_ble_eq_true rfl) rfl rfl ?_
        refine kg_aload hk_200 rfl rfl rfl ?_
        refine kg_get (v := .ref (1130 + 1)) hk_200 rfl wk_1076_71 rfl rfl ?_
        refine kg_push (x := 9) hk_200 rfl (by decide) rfl ?_
        refine kg_aload hk_200 rfl rfl rfl ?_
        refine kg_get (v := .int (h1 1076 72)) hk_200 rfl wk_1076_72 rfl rfl ?_
        refine kg_push (x := 1) hk_200 rfl (by decide) rfl ?_
        refine kg_bin (z := ((h1 1076 72) - 1)) hk_200 rfl rfl rfl ?_
        refine kg_bin (z := (9 * ((h1 1076 72) - 1))) hk_200 rfl rfl rfl ?_
        refine kg_push (x := 1) hk_200 rfl (by decide) rfl ?_
        refine kg_bin (z := ((9 * ((h1 1076 72) - 1)) + 1)) hk_200 rfl rfl rfl ?_
        refine wf_gd hF (fun g18 hF => ?_)
        refine kg_ald (y := (h1 1130 ((9 * ((h1 1076 72) - 1)) + 1).toNatClampNeg)) hk_200 rfl wc_1130 g18 rfl rfl ?_
        refine kg_istore (L2 := [.ref (1076 + 1), .int (h1 1128 (h1 1076 70).toNatClampNeg), .int (h1 1130 ((9 * ((h1 1076 72) - 2)) + 1).toNatClampNeg), .int (h1 1130 ((9 * ((h1 1076 72) - 1)) + 1).toNatClampNeg)]) hk_200 rfl (Nat.le_of_ble_eq_true rfl) rfl rfl ?_
        refine kg_aload hk_200 rfl rfl rfl ?_
        refine kg_dup hk_200 rfl rfl rfl ?_
        refine kg_get (v := .int (h1 1076 72)) hk_200 rfl wk_1076_72 rfl rfl ?_
        refine kg_push (x := 1) hk_200 rfl (by decide) rfl ?_
        refine kg_bin (z := ((h1 1076 72) - 1)) hk_200 rfl rfl rfl ?_
        refine wf_let hF (fun h19 hh19 hF => ?_)
        refine kg_put hk_200 rfl wk_1076_72 rfl rfl hh19 rfl ?_
        refine kg_aload hk_200 rfl rfl rfl ?_
        refine kg_get (v := .ref (1130 + 1)) hk_200 rfl wk_1076_71 rfl rfl ?_
        refine kg_push (x := 9) hk_200 rfl (by decide) rfl ?_
        refine kg_aload hk_200 rfl rfl rfl ?_
        refine kg_get (v := .int (h19 1076 72)) hk_200 rfl wk_1076_72 rfl rfl ?_
        refine kg_push (x := 1) hk_200 rfl (by decide) rfl ?_
        refine kg_bin (z := ((h19 1076 72) - 1)) hk_200 rfl rfl rfl ?_
        refine kg_bin (z := (9 * ((h19 1076 72) - 1))) hk_200 rfl rfl rfl ?_
        refine kg_push (x := 1) hk_200 rfl (by decide) rfl ?_
        refine kg_bin (z := ((9 * ((h19 1076 72) - 1)) + 1)) hk_200 rfl rfl rfl ?_
        refine kg_iload hk_200 rfl rfl rfl ?_
        refine kg_push (x := 43) hk_200 rfl (by decide) rfl ?_
        refine kv_mid (p := 136) (L := [.ref (1076 + 1), .int (h1 1128 (h1 1076 70).toNatClampNeg), .int (h1 1130 ((9 * ((h1 1076 72) - 2)) + 1).toNatClampNeg), .int (h1 1130 ((9 * ((h1 1076 72) - 1)) + 1).toNatClampNeg)]) (S := [.int (if (h1 1128 (h1 1076 70).toNatClampNeg) = 43 then ((h1 1130 ((9 * ((h1 1076 72) - 2)) + 1).toNatClampNeg) + (h1 1130 ((9 * ((h1 1076 72) - 1)) + 1).toNatClampNeg)) else (if (h1 1128 (h1 1076 70).toNatClampNeg) = 45 then ((h1 1130 ((9 * ((h1 1076 72) - 2)) + 1).toNatClampNeg) - (h1 1130 ((9 * ((h1 1076 72) - 1)) + 1).toNatClampNeg)) else ((h1 1130 ((9 * ((h1 1076 72) - 2)) + 1).toNatClampNeg) * (h1 1130 ((9 * ((h1 1076 72) - 1)) + 1).toNatClampNeg)))), .int ((9 * ((h19 1076 72) - 1)) + 1), .ref (1130 + 1)]) ?_ (fun hK => ?_)
        · refine wf_gd hF (fun g22 hF => ?_)
          refine wf_let hF (fun h23 hh23 hF => ?_)
          refine kg_ast hk_200 rfl wc_1130 g22 (by rw [j_nar50]; exact hh23) rfl ?_
          have hF := Option.some.inj hF
          subst hF
          exact kg_ret hk_200 rfl rfl
        · by_cases c20 : (h1 1128 (h1 1076 70).toNatClampNeg) = 43
          · have hK := kv_T c20 hK
            refine kg_icF hk_200 rfl (jc_F1 c20) rfl ?_
            refine kg_iload hk_200 rfl rfl rfl ?_
            refine kg_iload hk_200 rfl rfl rfl ?_
            refine kg_bin (z := ((h1 1130 ((9 * ((h1 1076 72) - 2)) + 1).toNatClampNeg) + (h1 1130 ((9 * ((h1 1076 72) - 1)) + 1).toNatClampNeg))) hk_200 rfl rfl rfl ?_
            refine kg_goto hk_200 rfl ?_
            exact hK
          · have hK := kv_F c20 hK
            refine kg_icT hk_200 rfl (jc_T1 c20) ?_
            refine kg_iload hk_200 rfl rfl rfl ?_
            refine kg_push (x := 45) hk_200 rfl (by decide) rfl ?_
            by_cases c21 : (h1 1128 (h1 1076 70).toNatClampNeg) = 45
            · have hK := kv_T c21 hK
              refine kg_icF hk_200 rfl (jc_F1 c21) rfl ?_
              refine kg_iload hk_200 rfl rfl rfl ?_
              refine kg_iload hk_200 rfl rfl rfl ?_
              refine kg_bin (z := ((h1 1130 ((9 * ((h1 1076 72) - 2)) + 1).toNatClampNeg) - (h1 1130 ((9 * ((h1 1076 72) - 1)) + 1).toNatClampNeg))) hk_200 rfl rfl rfl ?_
              refine kg_goto hk_200 rfl ?_
              exact hK
            · have hK := kv_F c21 hK
              refine kg_icT hk_200 rfl (jc_T1 c21) ?_
              refine kg_iload hk_200 rfl rfl rfl ?_
              refine kg_iload hk_200 rfl rfl rfl ?_
              refine kg_bin (z := ((h1 1130 ((9 * ((h1 1076 72) - 2)) + 1).toNatClampNeg) * (h1 1130 ((9 * ((h1 1076 72) - 1)) + 1).toNatClampNeg))) hk_200 rfl rfl rfl ?_
              exact hK
-- NotebookWeirModel.doesDown(I)V
theorem hk_202 : jP[202]? = some (jc_202, 2, [], []) := by rfl
def l_202_0 (x1 : Int32) (h : Hp) : Option ((Hp) ⊕ Hp) :=
  if (h 1076 75) = 0 then
    (if (h 1076 70) ≤ 0 then
      (some (.inr h))
    else
      (w_gd (w_ix ((h 1076 70) - 1) 80) <|
      if (v_201 (h 1128 ((h 1076 70) - 1).toNatClampNeg)) < x1 then
        (some (.inr h))
      else
        ((p_200 h).bind fun v5 =>
        some (.inl v5))))
  else
    (some (.inr h))
theorem l_202_0_st {X : List Int32} {o : kO}  {h : Hp} {x1 : Int32}  {r : (Hp) ⊕ Hp} (hF : l_202_0 x1 h = some r) (hK : ∀ s' : Hp, r = .inl s' → k_Go X 2 202 (0, [.ref (1076 + 1), .int x1], []) s' o) (hX0 : ∀ e : Hp, r = .inr e → (.inl none, e) = o) : k_Go X 2 202 (0, [.ref (1076 + 1), .int x1], []) h o := by
  refine kg_aload hk_202 rfl rfl rfl ?_
  refine kg_get (v := .int (h 1076 75)) hk_202 rfl wk_1076_75 rfl rfl ?_
  refine wf_if hF (fun c1 hF => ?_) (fun c1 hF => ?_)
  · refine kg_ifF hk_202 rfl (jc_F1 c1) rfl ?_
    refine kg_aload hk_202 rfl rfl rfl ?_
    refine kg_get (v := .int (h 1076 70)) hk_202 rfl wk_1076_70 rfl rfl ?_
    refine wf_if hF (fun c2 hF => ?_) (fun c2 hF => ?_)
    · refine kg_ifT hk_202 rfl (jc_T5 c2) ?_
      have hF := Option.some.inj hF
      exact kg_ret hk_202 rfl (hX0 _ hF.symm)
    · refine kg_ifF hk_202 rfl (jc_F5 c2) rfl ?_
      refine kg_aload hk_202 rfl rfl rfl ?_
      refine kg_get (v := .ref (1128 + 1)) hk_202 rfl wk_1076_68 rfl rfl ?_
      refine kg_aload hk_202 rfl rfl rfl ?_
      refine kg_get (v := .int (h 1076 70)) hk_202 rfl wk_1076_70 rfl rfl ?_
      refine kg_push (x := 1) hk_202 rfl (by decide) rfl ?_
      refine kg_bin (z := ((h 1076 70) - 1)) hk_202 rfl rfl rfl ?_
      refine wf_gd hF (fun g3 hF => ?_)
      refine kg_ald (y := (h 1128 ((h 1076 70) - 1).toNatClampNeg)) hk_202 rfl wc_1128 g3 rfl rfl ?_
      refine kg_call (as := [.int (h 1128 ((h 1076 70) - 1).toNatClampNeg)]) (rest := []) hk_202 rfl (Or.inl rfl) rfl rfl rfl (Nat.not_lt.mpr (Nat.le_of_ble_eq_true rfl)) (v_201_ok) (by decide) rfl ?_
      refine kg_iload hk_202 rfl rfl rfl ?_
      refine wf_if hF (fun c4 hF => ?_) (fun c4 hF => ?_)
      · refine kg_icT hk_202 rfl (jc_T2 c4) ?_
        have hF := Option.some.inj hF
        exact kg_ret hk_202 rfl (hX0 _ hF.symm)
      · refine kg_icF hk_202 rfl (jc_F2 c4) rfl ?_
        refine kg_aload hk_202 rfl rfl rfl ?_
        refine wf_bind hF (fun v5 hv5 hF => ?_)
        refine kg_call (as := [.ref (1076 + 1)]) (rest := []) hk_202 rfl (Or.inr (Or.inr (Or.inr ⟨Or.inl rfl, _, _, rfl, wc_1076⟩))) rfl rfl rfl (Nat.not_lt.mpr (Nat.le_of_ble_eq_true rfl)) (p_200_ok hv5) (by decide) rfl ?_
        refine kg_goto hk_202 rfl ?_
        have hF := Option.some.inj hF
        exact hK _ hF.symm
  · refine kg_ifT hk_202 rfl (jc_T1 c1) ?_
    have hF := Option.some.inj hF
    exact kg_ret hk_202 rfl (hX0 _ hF.symm)
theorem l_202_0_ok {X : List Int32} {o : kO}  {x1 : Int32}  {n : Nat} {s : Hp} {e : Hp} (hF : w_lp (fun (s : Hp) => l_202_0 x1 s) n s = some e) (hX0 : (.inl none, e) = o) : k_Go X 2 202 (0, [.ref (1076 + 1), .int x1], []) s o := by
  exact w_lp_ok (P := (fun (s : Hp) => k_Go X 2 202 (0, [.ref (1076 + 1), .int x1], []) s o)) (Q := (fun (e : Hp) => ((.inl none, e) = o))) (fun s r hF hK hX => l_202_0_st hF hK (fun x hx => (hX _ hx))) n s e hF hX0
def p_202 (h : Hp) (x1 : Int32) : Option (Hp) :=
  w_lp (fun (s : Hp) => l_202_0 x1 s) w_N h
theorem p_202_ok {X : List Int32}  {h : Hp} {x1 : Int32}  {r : Hp} (hF : p_202 h x1 = some r) : k_Ev X 2 202 [.ref (1076 + 1), .int x1] h (.inl none, r) := by
  refine k_of hk_202 ?_
  show k_Go X 2 202 (0, [.ref (1076 + 1), .int x1], []) h _
  unfold p_202 at hF
  exact l_202_0_ok hF rfl
-- NotebookWeirModel.opens(I)V
theorem hk_203 : jP[203]? = some (jc_203, 2, [], []) := by rfl
def p_203 (h : Hp) (x1 : Int32) : Option (Hp) :=
  w_gd (w_ix (h 1076 70) 80) <|
  w_let (w_up h 1128 ((h 1076 70).toNatClampNeg) x1) fun h2 =>
  w_gd (w_ix (h2 1076 70) 80) <|
  w_let (w_up h2 1129 ((h2 1076 70).toNatClampNeg) 1) fun h4 =>
  w_let (w_up h4 1076 70 ((h4 1076 70) + 1)) fun h5 =>
  some h5
theorem p_203_ok {X : List Int32}  {h : Hp} {x1 : Int32}  {r : Hp} (hF : p_203 h x1 = some r) : k_Ev X 0 203 [.ref (1076 + 1), .int x1] h (.inl none, r) := by
  refine k_of hk_203 ?_
  show k_Go X 0 203 (0, [.ref (1076 + 1), .int x1], []) h _
  unfold p_203 at hF
  refine kg_aload hk_203 rfl rfl rfl ?_
  refine kg_get (v := .ref (1128 + 1)) hk_203 rfl wk_1076_68 rfl rfl ?_
  refine kg_aload hk_203 rfl rfl rfl ?_
  refine kg_get (v := .int (h 1076 70)) hk_203 rfl wk_1076_70 rfl rfl ?_
  refine kg_iload hk_203 rfl rfl rfl ?_
  refine wf_gd hF (fun g1 hF => ?_)
  refine wf_let hF (fun h2 hh2 hF => ?_)
  refine kg_ast hk_203 rfl wc_1128 g1 (by rw [j_nar50]; exact hh2) rfl ?_
  refine kg_aload hk_203 rfl rfl rfl ?_
  refine kg_get (v := .ref (1129 + 1)) hk_203 rfl wk_1076_69 rfl rfl ?_
  refine kg_aload hk_203 rfl rfl rfl ?_
  refine kg_get (v := .int (h2 1076 70)) hk_203 rfl wk_1076_70 rfl rfl ?_
  refine kg_push (x := 1) hk_203 rfl (by decide) rfl ?_
  refine wf_gd hF (fun g3 hF => ?_)
  refine wf_let hF (fun h4 hh4 hF => ?_)
  refine kg_ast hk_203 rfl wc_1129 g3 (by rw [j_nar50]; exact hh4) rfl ?_
  refine kg_aload hk_203 rfl rfl rfl ?_
  refine kg_dup hk_203 rfl rfl rfl ?_
  refine kg_get (v := .int (h4 1076 70)) hk_203 rfl wk_1076_70 rfl rfl ?_
  refine kg_push (x := 1) hk_203 rfl (by decide) rfl ?_
  refine kg_bin (z := ((h4 1076 70) + 1)) hk_203 rfl rfl rfl ?_
  refine wf_let hF (fun h5 hh5 hF => ?_)
  refine kg_put hk_203 rfl wk_1076_70 rfl rfl hh5 rfl ?_
  have hF := Option.some.inj hF
  subst hF
  exact kg_ret hk_203 rfl rfl
-- NotebookWeirModel.pushes(I)V
theorem hk_196 : jP[196]? = some (jc_196, 2, [], []) := by rfl
def p_196 (h : Hp) (x1 : Int32) : Option (Hp) :=
  w_gd (w_ix (9 * (h 1076 72)) 400) <|
  w_let (w_up h 1130 ((9 * (h 1076 72)).toNatClampNeg) (-1)) fun h2 =>
  w_gd (w_ix ((9 * (h2 1076 72)) + 1) 400) <|
  w_let (w_up h2 1130 (((9 * (h2 1076 72)) + 1).toNatClampNeg) x1) fun h4 =>
  w_let (w_up h4 1076 72 ((h4 1076 72) + 1)) fun h5 =>
  some h5
theorem p_196_ok {X : List Int32}  {h : Hp} {x1 : Int32}  {r : Hp} (hF : p_196 h x1 = some r) : k_Ev X 0 196 [.ref (1076 + 1), .int x1] h (.inl none, r) := by
  refine k_of hk_196 ?_
  show k_Go X 0 196 (0, [.ref (1076 + 1), .int x1], []) h _
  unfold p_196 at hF
  refine kg_aload hk_196 rfl rfl rfl ?_
  refine kg_get (v := .ref (1130 + 1)) hk_196 rfl wk_1076_71 rfl rfl ?_
  refine kg_push (x := 9) hk_196 rfl (by decide) rfl ?_
  refine kg_aload hk_196 rfl rfl rfl ?_
  refine kg_get (v := .int (h 1076 72)) hk_196 rfl wk_1076_72 rfl rfl ?_
  refine kg_bin (z := (9 * (h 1076 72))) hk_196 rfl rfl rfl ?_
  refine kg_push (x := (-1)) hk_196 rfl (by decide) rfl ?_
  refine wf_gd hF (fun g1 hF => ?_)
  refine wf_let hF (fun h2 hh2 hF => ?_)
  refine kg_ast hk_196 rfl wc_1130 g1 (by rw [j_nar50]; exact hh2) rfl ?_
  refine kg_aload hk_196 rfl rfl rfl ?_
  refine kg_get (v := .ref (1130 + 1)) hk_196 rfl wk_1076_71 rfl rfl ?_
  refine kg_push (x := 9) hk_196 rfl (by decide) rfl ?_
  refine kg_aload hk_196 rfl rfl rfl ?_
  refine kg_get (v := .int (h2 1076 72)) hk_196 rfl wk_1076_72 rfl rfl ?_
  refine kg_bin (z := (9 * (h2 1076 72))) hk_196 rfl rfl rfl ?_
  refine kg_push (x := 1) hk_196 rfl (by decide) rfl ?_
  refine kg_bin (z := ((9 * (h2 1076 72)) + 1)) hk_196 rfl rfl rfl ?_
  refine kg_iload hk_196 rfl rfl rfl ?_
  refine wf_gd hF (fun g3 hF => ?_)
  refine wf_let hF (fun h4 hh4 hF => ?_)
  refine kg_ast hk_196 rfl wc_1130 g3 (by rw [j_nar50]; exact hh4) rfl ?_
  refine kg_aload hk_196 rfl rfl rfl ?_
  refine kg_dup hk_196 rfl rfl rfl ?_
  refine kg_get (v := .int (h4 1076 72)) hk_196 rfl wk_1076_72 rfl rfl ?_
  refine kg_push (x := 1) hk_196 rfl (by decide) rfl ?_
  refine kg_bin (z := ((h4 1076 72) + 1)) hk_196 rfl rfl rfl ?_
  refine wf_let hF (fun h5 hh5 hF => ?_)
  refine kg_put hk_196 rfl wk_1076_72 rfl rfl hh5 rfl ?_
  have hF := Option.some.inj hF
  subst hF
  exact kg_ret hk_196 rfl rfl
-- NotebookWeirModel.pushesName(I)V
theorem hk_197 : jP[197]? = some (jc_197, 2, [], []) := by rfl
def p_197 (h : Hp) (x1 : Int32) : Option (Hp) :=
  if ((h 1076 74) &&& (v_162 x1)) = 0 then
    ((p_194 h (h 1076 77) x1).bind fun v2 =>
    if v2.1 = 0 then
      ((p_195 v2.2 1 (v2.2 1076 80)).bind fun v4 =>
      some v4)
    else
      ((p_193 v2.2 1132 0 1130 (9 * (v2.2 1076 72))).bind fun v5 =>
      w_let (w_up v5 1076 72 ((v5 1076 72) + 1)) fun h6 =>
      some h6))
  else
    ((p_193 h 1131 (9 * (x1 - 97)) 1130 (9 * (h 1076 72))).bind fun v7 =>
    w_let (w_up v7 1076 72 ((v7 1076 72) + 1)) fun h8 =>
    some h8)
theorem p_197_ok {X : List Int32}  {h : Hp} {x1 : Int32}  {r : Hp} (hF : p_197 h x1 = some r) : k_Ev X 5 197 [.ref (1076 + 1), .int x1] h (.inl none, r) := by
  refine k_of hk_197 ?_
  show k_Go X 5 197 (0, [.ref (1076 + 1), .int x1], []) h _
  unfold p_197 at hF
  refine kg_aload hk_197 rfl rfl rfl ?_
  refine kg_get (v := .int (h 1076 74)) hk_197 rfl wk_1076_74 rfl rfl ?_
  refine kg_iload hk_197 rfl rfl rfl ?_
  refine kg_call (as := [.int x1]) (rest := [.int (h 1076 74)]) hk_197 rfl (Or.inl rfl) rfl rfl rfl (Nat.not_lt.mpr (Nat.le_of_ble_eq_true rfl)) (v_162_ok) (by decide) rfl ?_
  refine kg_bin (z := ((h 1076 74) &&& (v_162 x1))) hk_197 rfl rfl rfl ?_
  refine wf_if hF (fun c1 hF => ?_) (fun c1 hF => ?_)
  · refine kg_ifT hk_197 rfl (jc_T0 c1) ?_
    refine kg_aload hk_197 rfl rfl rfl ?_
    refine kg_aload hk_197 rfl rfl rfl ?_
    refine kg_get (v := .int (h 1076 77)) hk_197 rfl wk_1076_77 rfl rfl ?_
    refine kg_iload hk_197 rfl rfl rfl ?_
    refine wf_bind hF (fun v2 hv2 hF => ?_)
    refine kg_call (as := [.ref (1076 + 1), .int (h 1076 77), .int x1]) (rest := []) hk_197 rfl (Or.inr (Or.inr (Or.inr ⟨Or.inl rfl, _, _, rfl, wc_1076⟩))) rfl rfl rfl (Nat.not_lt.mpr (Nat.le_of_ble_eq_true rfl)) (p_194_ok hv2) (by decide) rfl ?_
    refine wf_if hF (fun c3 hF => ?_) (fun c3 hF => ?_)
    · refine kg_ifT hk_197 rfl (jc_T0 c3) ?_
      refine kg_aload hk_197 rfl rfl rfl ?_
      refine kg_push (x := 1) hk_197 rfl (by decide) rfl ?_
      refine kg_aload hk_197 rfl rfl rfl ?_
      refine kg_get (v := .int (v2.2 1076 80)) hk_197 rfl wk_1076_80 rfl rfl ?_
      refine wf_bind hF (fun v4 hv4 hF => ?_)
      refine kg_call (as := [.ref (1076 + 1), .int 1, .int (v2.2 1076 80)]) (rest := []) hk_197 rfl (Or.inr (Or.inr (Or.inr ⟨Or.inl rfl, _, _, rfl, wc_1076⟩))) rfl rfl rfl (Nat.not_lt.mpr (Nat.le_of_ble_eq_true rfl)) (p_195_ok hv4) (by decide) rfl ?_
      have hF := Option.some.inj hF
      subst hF
      exact kg_ret hk_197 rfl rfl
    · refine kg_ifF hk_197 rfl (jc_F0 c3) rfl ?_
      refine kg_aload hk_197 rfl rfl rfl ?_
      refine kg_aload hk_197 rfl rfl rfl ?_
      refine kg_get (v := .ref (1132 + 1)) hk_197 rfl wk_1076_78 rfl rfl ?_
      refine kg_push (x := 0) hk_197 rfl (by decide) rfl ?_
      refine kg_aload hk_197 rfl rfl rfl ?_
      refine kg_get (v := .ref (1130 + 1)) hk_197 rfl wk_1076_71 rfl rfl ?_
      refine kg_push (x := 9) hk_197 rfl (by decide) rfl ?_
      refine kg_aload hk_197 rfl rfl rfl ?_
      refine kg_get (v := .int (v2.2 1076 72)) hk_197 rfl wk_1076_72 rfl rfl ?_
      refine kg_bin (z := (9 * (v2.2 1076 72))) hk_197 rfl rfl rfl ?_
      refine wf_bind hF (fun v5 hv5 hF => ?_)
      refine kg_call (as := [.ref (1076 + 1), .ref (1132 + 1), .int 0, .ref (1130 + 1), .int (9 * (v2.2 1076 72))]) (rest := []) hk_197 rfl (Or.inr (Or.inr (Or.inr ⟨Or.inl rfl, _, _, rfl, wc_1076⟩))) rfl rfl rfl (Nat.not_lt.mpr (Nat.le_of_ble_eq_true rfl)) (p_193_ok wc_1132 wc_1130 hv5) (by decide) rfl ?_
      refine kg_aload hk_197 rfl rfl rfl ?_
      refine kg_dup hk_197 rfl rfl rfl ?_
      refine kg_get (v := .int (v5 1076 72)) hk_197 rfl wk_1076_72 rfl rfl ?_
      refine kg_push (x := 1) hk_197 rfl (by decide) rfl ?_
      refine kg_bin (z := ((v5 1076 72) + 1)) hk_197 rfl rfl rfl ?_
      refine wf_let hF (fun h6 hh6 hF => ?_)
      refine kg_put hk_197 rfl wk_1076_72 rfl rfl hh6 rfl ?_
      refine kg_goto hk_197 rfl ?_
      have hF := Option.some.inj hF
      subst hF
      exact kg_ret hk_197 rfl rfl
  · refine kg_ifF hk_197 rfl (jc_F0 c1) rfl ?_
    refine kg_aload hk_197 rfl rfl rfl ?_
    refine kg_aload hk_197 rfl rfl rfl ?_
    refine kg_get (v := .ref (1131 + 1)) hk_197 rfl wk_1076_73 rfl rfl ?_
    refine kg_push (x := 9) hk_197 rfl (by decide) rfl ?_
    refine kg_iload hk_197 rfl rfl rfl ?_
    refine kg_push (x := 97) hk_197 rfl (by decide) rfl ?_
    refine kg_bin (z := (x1 - 97)) hk_197 rfl rfl rfl ?_
    refine kg_bin (z := (9 * (x1 - 97))) hk_197 rfl rfl rfl ?_
    refine kg_aload hk_197 rfl rfl rfl ?_
    refine kg_get (v := .ref (1130 + 1)) hk_197 rfl wk_1076_71 rfl rfl ?_
    refine kg_push (x := 9) hk_197 rfl (by decide) rfl ?_
    refine kg_aload hk_197 rfl rfl rfl ?_
    refine kg_get (v := .int (h 1076 72)) hk_197 rfl wk_1076_72 rfl rfl ?_
    refine kg_bin (z := (9 * (h 1076 72))) hk_197 rfl rfl rfl ?_
    refine wf_bind hF (fun v7 hv7 hF => ?_)
    refine kg_call (as := [.ref (1076 + 1), .ref (1131 + 1), .int (9 * (x1 - 97)), .ref (1130 + 1), .int (9 * (h 1076 72))]) (rest := []) hk_197 rfl (Or.inr (Or.inr (Or.inr ⟨Or.inl rfl, _, _, rfl, wc_1076⟩))) rfl rfl rfl (Nat.not_lt.mpr (Nat.le_of_ble_eq_true rfl)) (p_193_ok wc_1131 wc_1130 hv7) (by decide) rfl ?_
    refine kg_aload hk_197 rfl rfl rfl ?_
    refine kg_dup hk_197 rfl rfl rfl ?_
    refine kg_get (v := .int (v7 1076 72)) hk_197 rfl wk_1076_72 rfl rfl ?_
    refine kg_push (x := 1) hk_197 rfl (by decide) rfl ?_
    refine kg_bin (z := ((v7 1076 72) + 1)) hk_197 rfl rfl rfl ?_
    refine wf_let hF (fun h8 hh8 hF => ?_)
    refine kg_put hk_197 rfl wk_1076_72 rfl rfl hh8 rfl ?_
    refine kg_goto hk_197 rfl ?_
    have hF := Option.some.inj hF
    subst hF
    exact kg_ret hk_197 rfl rfl
-- NotebookWeirModel.draws1(I)I
theorem hk_198 : jP[198]? = some (jc_198, 4, [], []) := by rfl
def q_198_64 (h : Hp) (x2 : Int32) : Option (Int32 × Hp) :=
  w_let (w_up h 1076 30 ((h 1076 30) + 1)) fun h6 =>
  some (x2, h6)
theorem q_198_64_ok {X : List Int32}   {h : Hp} {x2 : Int32}  {r : Int32 × Hp} (hF : q_198_64 h x2 = some r)  : ∀ (u1 : Value) (u3 : Value), k_Go X 0 198 (64, [.ref (1076 + 1), u1, .int x2, u3], []) h (.inl (some (.int r.1)), r.2) := by
  intro u1 u3
  unfold q_198_64 at hF
  refine kg_aload hk_198 rfl rfl rfl ?_
  refine kg_dup hk_198 rfl rfl rfl ?_
  refine kg_get (v := .int (h 1076 30)) hk_198 rfl wk_1076_30 rfl rfl ?_
  refine kg_push (x := 1) hk_198 rfl (by decide) rfl ?_
  refine kg_bin (z := ((h 1076 30) + 1)) hk_198 rfl rfl rfl ?_
  refine wf_let hF (fun h6 hh6 hF => ?_)
  refine kg_put hk_198 rfl wk_1076_30 rfl rfl hh6 rfl ?_
  refine kg_iload hk_198 rfl rfl rfl ?_
  have hF := Option.some.inj hF
  subst hF
  exact kg_iret hk_198 rfl (Or.inl rfl) rfl
def q_198_49 (h : Hp) (x2 : Int32) : Option (Int32 × Hp) :=
  if (h 1076 29) = 2 then
    (q_198_64 h x2)
  else
    (w_gd (w_ix ((40 * (h 1076 77)) + (h 1076 30)) 640) <|
    w_let (w_up h 1095 (((40 * (h 1076 77)) + (h 1076 30)).toNatClampNeg) x2) fun h8 =>
    q_198_64 h8 x2)
theorem q_198_49_ok {X : List Int32}   {h : Hp} {x2 : Int32}  {r : Int32 × Hp} (hF : q_198_49 h x2 = some r)  : ∀ (u1 : Value) (u3 : Value), k_Go X 0 198 (49, [.ref (1076 + 1), u1, .int x2, u3], []) h (.inl (some (.int r.1)), r.2) := by
  intro u1 u3
  unfold q_198_49 at hF
  refine kg_aload hk_198 rfl rfl rfl ?_
  refine kg_get (v := .int (h 1076 29)) hk_198 rfl wk_1076_29 rfl rfl ?_
  refine kg_push (x := 2) hk_198 rfl (by decide) rfl ?_
  refine wf_if hF (fun c5 hF => ?_) (fun c5 hF => ?_)
  · refine kg_icT hk_198 rfl (jc_T0 c5) ?_
    exact q_198_64_ok hF _ _
  · refine kg_icF hk_198 rfl (jc_F0 c5) rfl ?_
    refine kg_aload hk_198 rfl rfl rfl ?_
    refine kg_get (v := .ref (1095 + 1)) hk_198 rfl wk_1076_23 rfl rfl ?_
    refine kg_push (x := 40) hk_198 rfl (by decide) rfl ?_
    refine kg_aload hk_198 rfl rfl rfl ?_
    refine kg_get (v := .int (h 1076 77)) hk_198 rfl wk_1076_77 rfl rfl ?_
    refine kg_bin (z := (40 * (h 1076 77))) hk_198 rfl rfl rfl ?_
    refine kg_aload hk_198 rfl rfl rfl ?_
    refine kg_get (v := .int (h 1076 30)) hk_198 rfl wk_1076_30 rfl rfl ?_
    refine kg_bin (z := ((40 * (h 1076 77)) + (h 1076 30))) hk_198 rfl rfl rfl ?_
    refine kg_iload hk_198 rfl rfl rfl ?_
    refine wf_gd hF (fun g7 hF => ?_)
    refine wf_let hF (fun h8 hh8 hF => ?_)
    refine kg_ast hk_198 rfl wc_1095 g7 (by rw [j_nar50]; exact hh8) rfl ?_
    exact q_198_64_ok hF _ _
def q_198_48 (h : Hp) (s0 : Int32) : Option (Int32 × Hp) :=
  q_198_49 h s0
theorem q_198_48_ok {X : List Int32}   {h : Hp} {s0 : Int32}  {r : Int32 × Hp} (hF : q_198_48 h s0 = some r)  : ∀ (u1 : Value) (u2 : Value) (u3 : Value), k_Go X 0 198 (48, [.ref (1076 + 1), u1, u2, u3], [.int s0]) h (.inl (some (.int r.1)), r.2) := by
  intro u1 u2 u3
  unfold q_198_48 at hF
  refine kg_istore (L2 := [.ref (1076 + 1), u1, .int s0, u3]) hk_198 rfl (Nat.le_of_ble_eq_true rfl) rfl rfl ?_
  exact q_198_49_ok hF _ _
def q_198_40 (h : Hp) (x1 : Int32) : Option (Int32 × Hp) :=
  q_198_48 h (if x1 = 63 then (h 1076 31) else (h 1076 32))
theorem q_198_40_ok {X : List Int32}   {h : Hp} {x1 : Int32}  {r : Int32 × Hp} (hF : q_198_40 h x1 = some r)  : ∀ (u2 : Value) (u3 : Value), k_Go X 0 198 (40, [.ref (1076 + 1), .int x1, u2, u3], []) h (.inl (some (.int r.1)), r.2) := by
  intro u2 u3
  unfold q_198_40 at hF
  refine kg_iload hk_198 rfl rfl rfl ?_
  refine kg_push (x := 63) hk_198 rfl (by decide) rfl ?_
  refine kv_mid (p := 48) (L := [.ref (1076 + 1), .int x1, u2, u3]) (S := [.int (if x1 = 63 then (h 1076 31) else (h 1076 32))]) ?_ (fun hK => ?_)
  · exact q_198_48_ok hF _ _ _
  · by_cases c11 : x1 = 63
    · have hK := kv_T c11 hK
      refine kg_icF hk_198 rfl (jc_F1 c11) rfl ?_
      refine kg_aload hk_198 rfl rfl rfl ?_
      refine kg_get (v := .int (h 1076 31)) hk_198 rfl wk_1076_31 rfl rfl ?_
      refine kg_goto hk_198 rfl ?_
      exact hK
    · have hK := kv_F c11 hK
      refine kg_icT hk_198 rfl (jc_T1 c11) ?_
      refine kg_aload hk_198 rfl rfl rfl ?_
      refine kg_get (v := .int (h 1076 32)) hk_198 rfl wk_1076_32 rfl rfl ?_
      exact hK
def q_198_13 (h : Hp) (x1 : Int32) (x2 : Int32) (s0 : Int32) : Option (Int32 × Hp) :=
  if s0 = 0 then
    (if (h 1076 29) = 2 then
      (q_198_49 h x2)
    else
      (if x1 = 63 then
        (w_let (w_up h 1076 31 (((75 * (h 1076 31)) + 74) - ((75 * (h 1076 31)) + 74) / 65537 * 65537)) fun h10 =>
        q_198_40 h10 x1)
      else
        (q_198_40 h x1)))
  else
    (w_gd (w_ix (h 1076 30) 40) <|
    q_198_49 h (h 1099 (h 1076 30).toNatClampNeg))
theorem q_198_13_ok {X : List Int32}   {h : Hp} {s0 : Int32} {x1 : Int32} {x2 : Int32}  {r : Int32 × Hp} (hF : q_198_13 h x1 x2 s0 = some r)  : ∀ (u3 : Value), k_Go X 0 198 (13, [.ref (1076 + 1), .int x1, .int x2, u3], [.int s0]) h (.inl (some (.int r.1)), r.2) := by
  intro u3
  unfold q_198_13 at hF
  refine kg_istore (L2 := [.ref (1076 + 1), .int x1, .int x2, .int s0]) hk_198 rfl (Nat.le_of_ble_eq_true rfl) rfl rfl ?_
  refine kg_iload hk_198 rfl rfl rfl ?_
  refine wf_if hF (fun c3 hF => ?_) (fun c3 hF => ?_)
  · refine kg_ifT hk_198 rfl (jc_T0 c3) ?_
    refine kg_aload hk_198 rfl rfl rfl ?_
    refine kg_get (v := .int (h 1076 29)) hk_198 rfl wk_1076_29 rfl rfl ?_
    refine kg_push (x := 2) hk_198 rfl (by decide) rfl ?_
    refine wf_if hF (fun c4 hF => ?_) (fun c4 hF => ?_)
    · refine kg_icT hk_198 rfl (jc_T0 c4) ?_
      exact q_198_49_ok hF _ _
    · refine kg_icF hk_198 rfl (jc_F0 c4) rfl ?_
      refine kg_iload hk_198 rfl rfl rfl ?_
      refine kg_push (x := 63) hk_198 rfl (by decide) rfl ?_
      refine wf_if hF (fun c9 hF => ?_) (fun c9 hF => ?_)
      · refine kg_icF hk_198 rfl (jc_F1 c9) rfl ?_
        refine kg_aload hk_198 rfl rfl rfl ?_
        refine kg_push (x := 75) hk_198 rfl (by decide) rfl ?_
        refine kg_aload hk_198 rfl rfl rfl ?_
        refine kg_get (v := .int (h 1076 31)) hk_198 rfl wk_1076_31 rfl rfl ?_
        refine kg_bin (z := (75 * (h 1076 31))) hk_198 rfl rfl rfl ?_
        refine kg_push (x := 74) hk_198 rfl (by decide) rfl ?_
        refine kg_bin (z := ((75 * (h 1076 31)) + 74)) hk_198 rfl rfl rfl ?_
        refine kg_push (x := 65537) hk_198 rfl (by decide) rfl ?_
        refine kg_bin (z := (((75 * (h 1076 31)) + 74) - ((75 * (h 1076 31)) + 74) / 65537 * 65537)) hk_198 rfl (j_rem (by decide)) rfl ?_
        refine wf_let hF (fun h10 hh10 hF => ?_)
        refine kg_put hk_198 rfl wk_1076_31 rfl rfl hh10 rfl ?_
        exact q_198_40_ok hF _ _
      · refine kg_icT hk_198 rfl (jc_T1 c9) ?_
        exact q_198_40_ok hF _ _
  · refine kg_ifF hk_198 rfl (jc_F0 c3) rfl ?_
    refine kg_aload hk_198 rfl rfl rfl ?_
    refine kg_get (v := .ref (1099 + 1)) hk_198 rfl wk_1076_27 rfl rfl ?_
    refine kg_aload hk_198 rfl rfl rfl ?_
    refine kg_get (v := .int (h 1076 30)) hk_198 rfl wk_1076_30 rfl rfl ?_
    refine wf_gd hF (fun g12 hF => ?_)
    refine kg_ald (y := (h 1099 (h 1076 30).toNatClampNeg)) hk_198 rfl wc_1099 g12 rfl rfl ?_
    refine kg_istore (L2 := [.ref (1076 + 1), .int x1, .int (h 1099 (h 1076 30).toNatClampNeg), .int s0]) hk_198 rfl (Nat.le_of_ble_eq_true rfl) rfl rfl ?_
    refine kg_goto hk_198 rfl ?_
    exact q_198_49_ok hF _ _
def p_198 (h : Hp) (x1 : Int32) : Option (Int32 × Hp) :=
  q_198_13 h x1 0 (if (h 1076 29) = 0 then 0 else (if (h 1076 30) < (h 1076 28) then 1 else 0))
theorem p_198_ok {X : List Int32}  {h : Hp} {x1 : Int32}  {r : Int32 × Hp} (hF : p_198 h x1 = some r) : k_Ev X 0 198 [.ref (1076 + 1), .int x1] h (.inl (some (.int r.1)), r.2) := by
  refine k_of hk_198 ?_
  show k_Go X 0 198 (0, [.ref (1076 + 1), .int x1, (.retAddr 0), (.retAddr 0)], []) h _
  unfold p_198 at hF
  refine kg_push (x := 0) hk_198 rfl (by decide) rfl ?_
  refine kg_istore (L2 := [.ref (1076 + 1), .int x1, .int 0, (.retAddr 0)]) hk_198 rfl (Nat.le_of_ble_eq_true rfl) rfl rfl ?_
  refine kg_aload hk_198 rfl rfl rfl ?_
  refine kg_get (v := .int (h 1076 29)) hk_198 rfl wk_1076_29 rfl rfl ?_
  refine kv_mid (p := 13) (L := [.ref (1076 + 1), .int x1, .int 0, (.retAddr 0)]) (S := [.int (if (h 1076 29) = 0 then 0 else (if (h 1076 30) < (h 1076 28) then 1 else 0))]) ?_ (fun hK => ?_)
  · exact q_198_13_ok hF _
  · by_cases c1 : (h 1076 29) = 0
    · have hK := kv_T c1 hK
      refine kg_ifT hk_198 rfl (jc_T0 c1) ?_
      refine kg_push (x := 0) hk_198 rfl (by decide) rfl ?_
      exact hK
    · have hK := kv_F c1 hK
      refine kg_ifF hk_198 rfl (jc_F0 c1) rfl ?_
      refine kg_aload hk_198 rfl rfl rfl ?_
      refine kg_get (v := .int (h 1076 30)) hk_198 rfl wk_1076_30 rfl rfl ?_
      refine kg_aload hk_198 rfl rfl rfl ?_
      refine kg_get (v := .int (h 1076 28)) hk_198 rfl wk_1076_28 rfl rfl ?_
      by_cases c2 : (h 1076 30) < (h 1076 28)
      · have hK := kv_T c2 hK
        refine kg_icF hk_198 rfl (jc_F3 c2) rfl ?_
        refine kg_push (x := 1) hk_198 rfl (by decide) rfl ?_
        refine kg_goto hk_198 rfl ?_
        exact hK
      · have hK := kv_F c2 hK
        refine kg_icT hk_198 rfl (jc_T3 c2) ?_
        refine kg_push (x := 0) hk_198 rfl (by decide) rfl ?_
        exact hK
-- NotebookWeirModel.part(I)V
theorem hk_204 : jP[204]? = some (jc_204, 3, [], []) := by rfl
def q_204_51 (h : Hp) (x1 : Int32) : Option (Hp) :=
  (p_198 h x1).bind fun v5 =>
  (p_196 v5.2 v5.1).bind fun v6 =>
  some v6
theorem q_204_51_ok {X : List Int32}   {h : Hp} {x1 : Int32}  {r : Hp} (hF : q_204_51 h x1 = some r)  : ∀ (u2 : Value), k_Go X 6 204 (51, [.ref (1076 + 1), .int x1, u2], []) h (.inl none, r) := by
  intro u2
  unfold q_204_51 at hF
  refine kg_aload hk_204 rfl rfl rfl ?_
  refine kg_aload hk_204 rfl rfl rfl ?_
  refine kg_iload hk_204 rfl rfl rfl ?_
  refine wf_bind hF (fun v5 hv5 hF => ?_)
  refine kg_call (as := [.ref (1076 + 1), .int x1]) (rest := [.ref (1076 + 1)]) hk_204 rfl (Or.inr (Or.inr (Or.inr ⟨Or.inl rfl, _, _, rfl, wc_1076⟩))) rfl rfl rfl (Nat.not_lt.mpr (Nat.le_of_ble_eq_true rfl)) (p_198_ok hv5) (by decide) rfl ?_
  refine wf_bind hF (fun v6 hv6 hF => ?_)
  refine kg_call (as := [.ref (1076 + 1), .int v5.1]) (rest := []) hk_204 rfl (Or.inr (Or.inr (Or.inr ⟨Or.inl rfl, _, _, rfl, wc_1076⟩))) rfl rfl rfl (Nat.not_lt.mpr (Nat.le_of_ble_eq_true rfl)) (p_196_ok hv6) (by decide) rfl ?_
  refine kg_goto hk_204 rfl ?_
  have hF := Option.some.inj hF
  subst hF
  exact kg_ret hk_204 rfl rfl
def l_204_5 (x2 : Int32) (h : Hp) : Option ((Int32 × Hp) ⊕ Int32 × Hp) :=
  w_gd (g_150 h) <|
  if (v_149 (v_150 h)) = 0 then
    (some (.inr (x2, h)))
  else
    (w_gd (w_ix (h 1076 67) 40) <|
    w_let (w_up h 1076 67 ((h 1076 67) + 1)) fun h13 =>
    some (.inl ((((10 * x2) + (h 1127 (h 1076 67).toNatClampNeg)) - 48), h13)))
theorem l_204_5_st {X : List Int32} {o : kO}  {h : Hp} {x2 : Int32}  {r : (Int32 × Hp) ⊕ Int32 × Hp} (hF : l_204_5 x2 h = some r) (hK : ∀ s' : Int32 × Hp, r = .inl s' → ∀ (u1 : Value), k_Go X 6 204 (5, [.ref (1076 + 1), u1, .int (s'.1)], []) s'.2 o) (hX0 : ∀ e : Int32 × Hp, r = .inr e → ∀ (u1 : Value), k_Go X 6 204 (28, [.ref (1076 + 1), u1, .int e.1], []) e.2 o) : ∀ (u1 : Value), k_Go X 6 204 (5, [.ref (1076 + 1), u1, .int x2], []) h o := by
  intro u1
  refine kg_aload hk_204 rfl rfl rfl ?_
  refine wf_gd hF (fun g10 hF => ?_)
  refine kg_call (as := [.ref (1076 + 1)]) (rest := []) hk_204 rfl (Or.inr (Or.inr (Or.inr ⟨Or.inl rfl, _, _, rfl, wc_1076⟩))) rfl rfl rfl (Nat.not_lt.mpr (Nat.le_of_ble_eq_true rfl)) (v_150_ok g10) (by decide) rfl ?_
  refine kg_call (as := [.int (v_150 h)]) (rest := []) hk_204 rfl (Or.inl rfl) rfl rfl rfl (Nat.not_lt.mpr (Nat.le_of_ble_eq_true rfl)) (v_149_ok) (by decide) rfl ?_
  refine wf_if hF (fun c11 hF => ?_) (fun c11 hF => ?_)
  · refine kg_ifT hk_204 rfl (jc_T0 c11) ?_
    have hF := Option.some.inj hF
    exact hX0 _ hF.symm _
  · refine kg_ifF hk_204 rfl (jc_F0 c11) rfl ?_
    refine kg_push (x := 10) hk_204 rfl (by decide) rfl ?_
    refine kg_iload hk_204 rfl rfl rfl ?_
    refine kg_bin (z := (10 * x2)) hk_204 rfl rfl rfl ?_
    refine kg_aload hk_204 rfl rfl rfl ?_
    refine kg_get (v := .ref (1127 + 1)) hk_204 rfl wk_1076_65 rfl rfl ?_
    refine kg_aload hk_204 rfl rfl rfl ?_
    refine kg_get (v := .int (h 1076 67)) hk_204 rfl wk_1076_67 rfl rfl ?_
    refine wf_gd hF (fun g12 hF => ?_)
    refine kg_ald (y := (h 1127 (h 1076 67).toNatClampNeg)) hk_204 rfl wc_1127 g12 rfl rfl ?_
    refine kg_bin (z := ((10 * x2) + (h 1127 (h 1076 67).toNatClampNeg))) hk_204 rfl rfl rfl ?_
    refine kg_push (x := 48) hk_204 rfl (by decide) rfl ?_
    refine kg_bin (z := (((10 * x2) + (h 1127 (h 1076 67).toNatClampNeg)) - 48)) hk_204 rfl rfl rfl ?_
    refine kg_istore (L2 := [.ref (1076 + 1), u1, .int (((10 * x2) + (h 1127 (h 1076 67).toNatClampNeg)) - 48)]) hk_204 rfl (Nat.le_of_ble_eq_true rfl) rfl rfl ?_
    refine kg_aload hk_204 rfl rfl rfl ?_
    refine kg_dup hk_204 rfl rfl rfl ?_
    refine kg_get (v := .int (h 1076 67)) hk_204 rfl wk_1076_67 rfl rfl ?_
    refine kg_push (x := 1) hk_204 rfl (by decide) rfl ?_
    refine kg_bin (z := ((h 1076 67) + 1)) hk_204 rfl rfl rfl ?_
    refine wf_let hF (fun h13 hh13 hF => ?_)
    refine kg_put hk_204 rfl wk_1076_67 rfl rfl hh13 rfl ?_
    refine kg_goto hk_204 rfl ?_
    have hF := Option.some.inj hF
    exact hK _ hF.symm _
theorem l_204_5_ok {X : List Int32} {o : kO}    {n : Nat} {s : Int32 × Hp} {e : Int32 × Hp} (hF : w_lp (fun (s : Int32 × Hp) => l_204_5 s.1 s.2) n s = some e) (hX0 : ∀ (u1 : Value), k_Go X 6 204 (28, [.ref (1076 + 1), u1, .int e.1], []) e.2 o) : ∀ (u1 : Value), k_Go X 6 204 (5, [.ref (1076 + 1), u1, .int s.1], []) s.2 o := by
  exact w_lp_ok (P := (fun (s : Int32 × Hp) => ∀ (u1 : Value), k_Go X 6 204 (5, [.ref (1076 + 1), u1, .int s.1], []) s.2 o)) (Q := (fun (e : Int32 × Hp) => (∀ (u1 : Value), k_Go X 6 204 (28, [.ref (1076 + 1), u1, .int e.1], []) e.2 o))) (fun s r hF hK hX => l_204_5_st hF hK (fun x hx => (hX _ hx))) n s e hF hX0
def p_204 (h : Hp) (x1 : Int32) : Option (Hp) :=
  if (v_149 x1) = 0 then
    (w_let (w_up h 1076 67 ((h 1076 67) + 1)) fun h2 =>
    if (v_148 x1) = 0 then
      (if x1 = 63 then
        (q_204_51 h2 x1)
      else
        (if x1 = 64 then
          (q_204_51 h2 x1)
        else
          ((p_203 h2 x1).bind fun v8 =>
          some v8)))
    else
      ((p_197 h2 x1).bind fun v9 =>
      some v9))
  else
    ((w_lp (fun (s : Int32 × Hp) => l_204_5 s.1 s.2) w_N (0, h)).bind fun e14 =>
    (p_196 e14.2 e14.1).bind fun v15 =>
    some v15)
theorem p_204_ok {X : List Int32}  {h : Hp} {x1 : Int32}  {r : Hp} (hF : p_204 h x1 = some r) : k_Ev X 6 204 [.ref (1076 + 1), .int x1] h (.inl none, r) := by
  refine k_of hk_204 ?_
  show k_Go X 6 204 (0, [.ref (1076 + 1), .int x1, (.retAddr 0)], []) h _
  unfold p_204 at hF
  refine kg_iload hk_204 rfl rfl rfl ?_
  refine kg_call (as := [.int x1]) (rest := []) hk_204 rfl (Or.inl rfl) rfl rfl rfl (Nat.not_lt.mpr (Nat.le_of_ble_eq_true rfl)) (v_149_ok) (by decide) rfl ?_
  refine wf_if hF (fun c1 hF => ?_) (fun c1 hF => ?_)
  · refine kg_ifT hk_204 rfl (jc_T0 c1) ?_
    refine kg_aload hk_204 rfl rfl rfl ?_
    refine kg_dup hk_204 rfl rfl rfl ?_
    refine kg_get (v := .int (h 1076 67)) hk_204 rfl wk_1076_67 rfl rfl ?_
    refine kg_push (x := 1) hk_204 rfl (by decide) rfl ?_
    refine kg_bin (z := ((h 1076 67) + 1)) hk_204 rfl rfl rfl ?_
    refine wf_let hF (fun h2 hh2 hF => ?_)
    refine kg_put hk_204 rfl wk_1076_67 rfl rfl hh2 rfl ?_
    refine kg_iload hk_204 rfl rfl rfl ?_
    refine kg_call (as := [.int x1]) (rest := []) hk_204 rfl (Or.inl rfl) rfl rfl rfl (Nat.not_lt.mpr (Nat.le_of_ble_eq_true rfl)) (v_148_ok) (by decide) rfl ?_
    refine wf_if hF (fun c3 hF => ?_) (fun c3 hF => ?_)
    · refine kg_ifT hk_204 rfl (jc_T0 c3) ?_
      refine kg_iload hk_204 rfl rfl rfl ?_
      refine kg_push (x := 63) hk_204 rfl (by decide) rfl ?_
      refine wf_if hF (fun c4 hF => ?_) (fun c4 hF => ?_)
      · refine kg_icT hk_204 rfl (jc_T0 c4) ?_
        exact q_204_51_ok hF _
      · refine kg_icF hk_204 rfl (jc_F0 c4) rfl ?_
        refine kg_iload hk_204 rfl rfl rfl ?_
        refine kg_push (x := 64) hk_204 rfl (by decide) rfl ?_
        refine wf_if hF (fun c7 hF => ?_) (fun c7 hF => ?_)
        · refine kg_icF hk_204 rfl (jc_F1 c7) rfl ?_
          exact q_204_51_ok hF _
        · refine kg_icT hk_204 rfl (jc_T1 c7) ?_
          refine kg_aload hk_204 rfl rfl rfl ?_
          refine kg_iload hk_204 rfl rfl rfl ?_
          refine wf_bind hF (fun v8 hv8 hF => ?_)
          refine kg_call (as := [.ref (1076 + 1), .int x1]) (rest := []) hk_204 rfl (Or.inr (Or.inr (Or.inr ⟨Or.inl rfl, _, _, rfl, wc_1076⟩))) rfl rfl rfl (Nat.not_lt.mpr (Nat.le_of_ble_eq_true rfl)) (p_203_ok hv8) (by decide) rfl ?_
          have hF := Option.some.inj hF
          subst hF
          exact kg_ret hk_204 rfl rfl
    · refine kg_ifF hk_204 rfl (jc_F0 c3) rfl ?_
      refine kg_aload hk_204 rfl rfl rfl ?_
      refine kg_iload hk_204 rfl rfl rfl ?_
      refine wf_bind hF (fun v9 hv9 hF => ?_)
      refine kg_call (as := [.ref (1076 + 1), .int x1]) (rest := []) hk_204 rfl (Or.inr (Or.inr (Or.inr ⟨Or.inl rfl, _, _, rfl, wc_1076⟩))) rfl rfl rfl (Nat.not_lt.mpr (Nat.le_of_ble_eq_true rfl)) (p_197_ok hv9) (by decide) rfl ?_
      refine kg_goto hk_204 rfl ?_
      have hF := Option.some.inj hF
      subst hF
      exact kg_ret hk_204 rfl rfl
  · refine kg_ifF hk_204 rfl (jc_F0 c1) rfl ?_
    refine kg_push (x := 0) hk_204 rfl (by decide) rfl ?_
    refine kg_istore (L2 := [.ref (1076 + 1), .int x1, .int 0]) hk_204 rfl (Nat.le_of_ble_eq_true rfl) rfl rfl ?_
    refine wf_bind hF (fun e14 he14 hF => ?_)
    refine l_204_5_ok he14 ?_ _
    intro u1
    refine kg_aload hk_204 rfl rfl rfl ?_
    refine kg_iload hk_204 rfl rfl rfl ?_
    refine wf_bind hF (fun v15 hv15 hF => ?_)
    refine kg_call (as := [.ref (1076 + 1), .int e14.1]) (rest := []) hk_204 rfl (Or.inr (Or.inr (Or.inr ⟨Or.inl rfl, _, _, rfl, wc_1076⟩))) rfl rfl rfl (Nat.not_lt.mpr (Nat.le_of_ble_eq_true rfl)) (p_196_ok hv15) (by decide) rfl ?_
    have hF := Option.some.inj hF
    subst hF
    exact kg_ret hk_204 rfl rfl
-- NotebookWeirModel.item()V
theorem hk_205 : jP[205]? = some (jc_205, 3, [], []) := by rfl
def p_205 (h : Hp) : Option (Hp) :=
  w_gd (w_ix ((h 1076 67) + 1) 40) <|
  w_let (w_up h 1076 67 ((h 1076 67) + 2)) fun h2 =>
  w_gd (g_199 ((h2 1076 72) - 1)) <|
  if (v_199 h2 ((h2 1076 72) - 1)) = 0 then
    (w_gd (w_ix (9 * ((h2 1076 72) - 1)) 400) <|
    if ((h 1127 ((h 1076 67) + 1).toNatClampNeg) - 48) < (h2 1130 (9 * ((h2 1076 72) - 1)).toNatClampNeg) then
      (w_gd (w_ix (((9 * ((h2 1076 72) - 1)) + 1) + ((h 1127 ((h 1076 67) + 1).toNatClampNeg) - 48)) 400) <|
      w_gd (w_ix ((9 * ((h2 1076 72) - 1)) + 1) 400) <|
      w_let (w_up h2 1130 (((9 * ((h2 1076 72) - 1)) + 1).toNatClampNeg) (h2 1130 (((9 * ((h2 1076 72) - 1)) + 1) + ((h 1127 ((h 1076 67) + 1).toNatClampNeg) - 48)).toNatClampNeg)) fun h9 =>
      w_gd (w_ix (9 * ((h2 1076 72) - 1)) 400) <|
      w_let (w_up h9 1130 ((9 * ((h2 1076 72) - 1)).toNatClampNeg) (-1)) fun h11 =>
      some h11)
    else
      ((p_195 h2 3 (h2 1076 80)).bind fun v12 =>
      some v12))
  else
    ((p_195 h2 2 (h2 1076 80)).bind fun v13 =>
    some v13)
theorem p_205_ok {X : List Int32}  {h : Hp}   {r : Hp} (hF : p_205 h = some r) : k_Ev X 1 205 [.ref (1076 + 1)] h (.inl none, r) := by
  refine k_of hk_205 ?_
  show k_Go X 1 205 (0, [.ref (1076 + 1), (.retAddr 0), (.retAddr 0)], []) h _
  unfold p_205 at hF
  refine kg_aload hk_205 rfl rfl rfl ?_
  refine kg_get (v := .ref (1127 + 1)) hk_205 rfl wk_1076_65 rfl rfl ?_
  refine kg_aload hk_205 rfl rfl rfl ?_
  refine kg_get (v := .int (h 1076 67)) hk_205 rfl wk_1076_67 rfl rfl ?_
  refine kg_push (x := 1) hk_205 rfl (by decide) rfl ?_
  refine kg_bin (z := ((h 1076 67) + 1)) hk_205 rfl rfl rfl ?_
  refine wf_gd hF (fun g1 hF => ?_)
  refine kg_ald (y := (h 1127 ((h 1076 67) + 1).toNatClampNeg)) hk_205 rfl wc_1127 g1 rfl rfl ?_
  refine kg_push (x := 48) hk_205 rfl (by decide) rfl ?_
  refine kg_bin (z := ((h 1127 ((h 1076 67) + 1).toNatClampNeg) - 48)) hk_205 rfl rfl rfl ?_
  refine kg_istore (L2 := [.ref (1076 + 1), .int ((h 1127 ((h 1076 67) + 1).toNatClampNeg) - 48), (.retAddr 0)]) hk_205 rfl (Nat.le_of_ble_eq_true rfl) rfl rfl ?_
  refine kg_aload hk_205 rfl rfl rfl ?_
  refine kg_dup hk_205 rfl rfl rfl ?_
  refine kg_get (v := .int (h 1076 67)) hk_205 rfl wk_1076_67 rfl rfl ?_
  refine kg_push (x := 2) hk_205 rfl (by decide) rfl ?_
  refine kg_bin (z := ((h 1076 67) + 2)) hk_205 rfl rfl rfl ?_
  refine wf_let hF (fun h2 hh2 hF => ?_)
  refine kg_put hk_205 rfl wk_1076_67 rfl rfl hh2 rfl ?_
  refine kg_push (x := 9) hk_205 rfl (by decide) rfl ?_
  refine kg_aload hk_205 rfl rfl rfl ?_
  refine kg_get (v := .int (h2 1076 72)) hk_205 rfl wk_1076_72 rfl rfl ?_
  refine kg_push (x := 1) hk_205 rfl (by decide) rfl ?_
  refine kg_bin (z := ((h2 1076 72) - 1)) hk_205 rfl rfl rfl ?_
  refine kg_bin (z := (9 * ((h2 1076 72) - 1))) hk_205 rfl rfl rfl ?_
  refine kg_istore (L2 := [.ref (1076 + 1), .int ((h 1127 ((h 1076 67) + 1).toNatClampNeg) - 48), .int (9 * ((h2 1076 72) - 1))]) hk_205 rfl (Nat.le_of_ble_eq_true rfl) rfl rfl ?_
  refine kg_aload hk_205 rfl rfl rfl ?_
  refine kg_aload hk_205 rfl rfl rfl ?_
  refine kg_get (v := .int (h2 1076 72)) hk_205 rfl wk_1076_72 rfl rfl ?_
  refine kg_push (x := 1) hk_205 rfl (by decide) rfl ?_
  refine kg_bin (z := ((h2 1076 72) - 1)) hk_205 rfl rfl rfl ?_
  refine wf_gd hF (fun g3 hF => ?_)
  refine kg_call (as := [.ref (1076 + 1), .int ((h2 1076 72) - 1)]) (rest := []) hk_205 rfl (Or.inr (Or.inr (Or.inr ⟨Or.inl rfl, _, _, rfl, wc_1076⟩))) rfl rfl rfl (Nat.not_lt.mpr (Nat.le_of_ble_eq_true rfl)) (v_199_ok g3) (by decide) rfl ?_
  refine wf_if hF (fun c4 hF => ?_) (fun c4 hF => ?_)
  · refine kg_ifT hk_205 rfl (jc_T0 c4) ?_
    refine kg_iload hk_205 rfl rfl rfl ?_
    refine kg_aload hk_205 rfl rfl rfl ?_
    refine kg_get (v := .ref (1130 + 1)) hk_205 rfl wk_1076_71 rfl rfl ?_
    refine kg_iload hk_205 rfl rfl rfl ?_
    refine wf_gd hF (fun g5 hF => ?_)
    refine kg_ald (y := (h2 1130 (9 * ((h2 1076 72) - 1)).toNatClampNeg)) hk_205 rfl wc_1130 g5 rfl rfl ?_
    refine wf_if hF (fun c6 hF => ?_) (fun c6 hF => ?_)
    · refine kg_icT hk_205 rfl (jc_T2 c6) ?_
      refine kg_aload hk_205 rfl rfl rfl ?_
      refine kg_get (v := .ref (1130 + 1)) hk_205 rfl wk_1076_71 rfl rfl ?_
      refine kg_iload hk_205 rfl rfl rfl ?_
      refine kg_push (x := 1) hk_205 rfl (by decide) rfl ?_
      refine kg_bin (z := ((9 * ((h2 1076 72) - 1)) + 1)) hk_205 rfl rfl rfl ?_
      refine kg_aload hk_205 rfl rfl rfl ?_
      refine kg_get (v := .ref (1130 + 1)) hk_205 rfl wk_1076_71 rfl rfl ?_
      refine kg_iload hk_205 rfl rfl rfl ?_
      refine kg_push (x := 1) hk_205 rfl (by decide) rfl ?_
      refine kg_bin (z := ((9 * ((h2 1076 72) - 1)) + 1)) hk_205 rfl rfl rfl ?_
      refine kg_iload hk_205 rfl rfl rfl ?_
      refine kg_bin (z := (((9 * ((h2 1076 72) - 1)) + 1) + ((h 1127 ((h 1076 67) + 1).toNatClampNeg) - 48))) hk_205 rfl rfl rfl ?_
      refine wf_gd hF (fun g7 hF => ?_)
      refine kg_ald (y := (h2 1130 (((9 * ((h2 1076 72) - 1)) + 1) + ((h 1127 ((h 1076 67) + 1).toNatClampNeg) - 48)).toNatClampNeg)) hk_205 rfl wc_1130 g7 rfl rfl ?_
      refine wf_gd hF (fun g8 hF => ?_)
      refine wf_let hF (fun h9 hh9 hF => ?_)
      refine kg_ast hk_205 rfl wc_1130 g8 (by rw [j_nar50]; exact hh9) rfl ?_
      refine kg_aload hk_205 rfl rfl rfl ?_
      refine kg_get (v := .ref (1130 + 1)) hk_205 rfl wk_1076_71 rfl rfl ?_
      refine kg_iload hk_205 rfl rfl rfl ?_
      refine kg_push (x := (-1)) hk_205 rfl (by decide) rfl ?_
      refine wf_gd hF (fun g10 hF => ?_)
      refine wf_let hF (fun h11 hh11 hF => ?_)
      refine kg_ast hk_205 rfl wc_1130 g10 (by rw [j_nar50]; exact hh11) rfl ?_
      have hF := Option.some.inj hF
      subst hF
      exact kg_ret hk_205 rfl rfl
    · refine kg_icF hk_205 rfl (jc_F2 c6) rfl ?_
      refine kg_aload hk_205 rfl rfl rfl ?_
      refine kg_push (x := 3) hk_205 rfl (by decide) rfl ?_
      refine kg_aload hk_205 rfl rfl rfl ?_
      refine kg_get (v := .int (h2 1076 80)) hk_205 rfl wk_1076_80 rfl rfl ?_
      refine wf_bind hF (fun v12 hv12 hF => ?_)
      refine kg_call (as := [.ref (1076 + 1), .int 3, .int (h2 1076 80)]) (rest := []) hk_205 rfl (Or.inr (Or.inr (Or.inr ⟨Or.inl rfl, _, _, rfl, wc_1076⟩))) rfl rfl rfl (Nat.not_lt.mpr (Nat.le_of_ble_eq_true rfl)) (p_195_ok hv12) (by decide) rfl ?_
      refine kg_goto hk_205 rfl ?_
      have hF := Option.some.inj hF
      subst hF
      exact kg_ret hk_205 rfl rfl
  · refine kg_ifF hk_205 rfl (jc_F0 c4) rfl ?_
    refine kg_aload hk_205 rfl rfl rfl ?_
    refine kg_push (x := 2) hk_205 rfl (by decide) rfl ?_
    refine kg_aload hk_205 rfl rfl rfl ?_
    refine kg_get (v := .int (h2 1076 80)) hk_205 rfl wk_1076_80 rfl rfl ?_
    refine wf_bind hF (fun v13 hv13 hF => ?_)
    refine kg_call (as := [.ref (1076 + 1), .int 2, .int (h2 1076 80)]) (rest := []) hk_205 rfl (Or.inr (Or.inr (Or.inr ⟨Or.inl rfl, _, _, rfl, wc_1076⟩))) rfl rfl rfl (Nat.not_lt.mpr (Nat.le_of_ble_eq_true rfl)) (p_195_ok hv13) (by decide) rfl ?_
    refine kg_goto hk_205 rfl ?_
    have hF := Option.some.inj hF
    subst hF
    exact kg_ret hk_205 rfl rfl
-- NotebookWeirModel.closes(I)V
theorem hk_206 : jP[206]? = some (jc_206, 4, [], []) := by rfl
def l_206_67 (x2 : Int32) (x3 : Int32) (h : Hp) : Option ((Int32 × Hp) ⊕ Hp) :=
  if x3 < x2 then
    (w_gd (w_ix ((9 * ((h 1076 72) + x3)) + 1) 400) <|
    w_gd (w_ix (x3 + 1) 9) <|
    w_let (w_up h 1132 ((x3 + 1).toNatClampNeg) (h 1130 ((9 * ((h 1076 72) + x3)) + 1).toNatClampNeg)) fun h16 =>
    some (.inl ((x3 + 1), h16)))
  else
    (some (.inr h))
theorem l_206_67_st {X : List Int32} {o : kO}  {h : Hp} {x2 : Int32} {x3 : Int32}  {r : (Int32 × Hp) ⊕ Hp} (hF : l_206_67 x2 x3 h = some r) (hK : ∀ s' : Int32 × Hp, r = .inl s' → ∀ (u1 : Value), k_Go X 3 206 (67, [.ref (1076 + 1), u1, .int x2, .int (s'.1)], []) s'.2 o) (hX0 : ∀ e : Hp, r = .inr e → ∀ (u1 : Value) (u3 : Value), k_Go X 3 206 (89, [.ref (1076 + 1), u1, .int x2, u3], []) e o) : ∀ (u1 : Value), k_Go X 3 206 (67, [.ref (1076 + 1), u1, .int x2, .int x3], []) h o := by
  intro u1
  refine kg_iload hk_206 rfl rfl rfl ?_
  refine kg_iload hk_206 rfl rfl rfl ?_
  refine wf_if hF (fun c13 hF => ?_) (fun c13 hF => ?_)
  · refine kg_icF hk_206 rfl (jc_F3 c13) rfl ?_
    refine kg_aload hk_206 rfl rfl rfl ?_
    refine kg_get (v := .ref (1132 + 1)) hk_206 rfl wk_1076_78 rfl rfl ?_
    refine kg_iload hk_206 rfl rfl rfl ?_
    refine kg_push (x := 1) hk_206 rfl (by decide) rfl ?_
    refine kg_bin (z := (x3 + 1)) hk_206 rfl rfl rfl ?_
    refine kg_aload hk_206 rfl rfl rfl ?_
    refine kg_get (v := .ref (1130 + 1)) hk_206 rfl wk_1076_71 rfl rfl ?_
    refine kg_push (x := 9) hk_206 rfl (by decide) rfl ?_
    refine kg_aload hk_206 rfl rfl rfl ?_
    refine kg_get (v := .int (h 1076 72)) hk_206 rfl wk_1076_72 rfl rfl ?_
    refine kg_iload hk_206 rfl rfl rfl ?_
    refine kg_bin (z := ((h 1076 72) + x3)) hk_206 rfl rfl rfl ?_
    refine kg_bin (z := (9 * ((h 1076 72) + x3))) hk_206 rfl rfl rfl ?_
    refine kg_push (x := 1) hk_206 rfl (by decide) rfl ?_
    refine kg_bin (z := ((9 * ((h 1076 72) + x3)) + 1)) hk_206 rfl rfl rfl ?_
    refine wf_gd hF (fun g14 hF => ?_)
    refine kg_ald (y := (h 1130 ((9 * ((h 1076 72) + x3)) + 1).toNatClampNeg)) hk_206 rfl wc_1130 g14 rfl rfl ?_
    refine wf_gd hF (fun g15 hF => ?_)
    refine wf_let hF (fun h16 hh16 hF => ?_)
    refine kg_ast hk_206 rfl wc_1132 g15 (by rw [j_nar50]; exact hh16) rfl ?_
    refine kg_iinc (y := (x3 + 1)) (L2 := [.ref (1076 + 1), u1, .int x2, .int (x3 + 1)]) hk_206 rfl rfl rfl rfl rfl ?_
    refine kg_goto hk_206 rfl ?_
    have hF := Option.some.inj hF
    exact hK _ hF.symm _
  · refine kg_icT hk_206 rfl (jc_T3 c13) ?_
    have hF := Option.some.inj hF
    exact hX0 _ hF.symm _ _
theorem l_206_67_ok {X : List Int32} {o : kO}  {x2 : Int32}  {n : Nat} {s : Int32 × Hp} {e : Hp} (hF : w_lp (fun (s : Int32 × Hp) => l_206_67 x2 s.1 s.2) n s = some e) (hX0 : ∀ (u1 : Value) (u3 : Value), k_Go X 3 206 (89, [.ref (1076 + 1), u1, .int x2, u3], []) e o) : ∀ (u1 : Value), k_Go X 3 206 (67, [.ref (1076 + 1), u1, .int x2, .int s.1], []) s.2 o := by
  exact w_lp_ok (P := (fun (s : Int32 × Hp) => ∀ (u1 : Value), k_Go X 3 206 (67, [.ref (1076 + 1), u1, .int x2, .int s.1], []) s.2 o)) (Q := (fun (e : Hp) => (∀ (u1 : Value) (u3 : Value), k_Go X 3 206 (89, [.ref (1076 + 1), u1, .int x2, u3], []) e o))) (fun s r hF hK hX => l_206_67_st hF hK (fun x hx => (hX _ hx))) n s e hF hX0
def q_206_29 (h : Hp) (x1 : Int32) : Option (Hp) :=
  if x1 = 44 then
    (w_gd (w_ix ((h 1076 70) - 1) 80) <|
    w_gd (w_ix ((h 1076 70) - 1) 80) <|
    w_let (w_up h 1129 (((h 1076 70) - 1).toNatClampNeg) ((h 1129 ((h 1076 70) - 1).toNatClampNeg) + 1)) fun h8 =>
    some h8)
  else
    (w_let (w_up h 1076 70 ((h 1076 70) - 1)) fun h9 =>
    if x1 = 93 then
      (w_gd (w_ix (h9 1076 70) 80) <|
      w_let (w_up h9 1076 72 ((h9 1076 72) - (h9 1129 (h9 1076 70).toNatClampNeg))) fun h12 =>
      (w_lp (fun (s : Int32 × Hp) => l_206_67 (h9 1129 (h9 1076 70).toNatClampNeg) s.1 s.2) w_N (0, h12)).bind fun e17 =>
      w_let (w_up e17 1132 0 (h9 1129 (h9 1076 70).toNatClampNeg)) fun h18 =>
      (p_193 h18 1132 0 1130 (9 * (h18 1076 72))).bind fun v19 =>
      w_let (w_up v19 1076 72 ((v19 1076 72) + 1)) fun h20 =>
      some h20)
    else
      (some h9))
theorem q_206_29_ok {X : List Int32}   {h : Hp} {x1 : Int32}  {r : Hp} (hF : q_206_29 h x1 = some r)  : ∀ (u2 : Value) (u3 : Value), k_Go X 3 206 (29, [.ref (1076 + 1), .int x1, u2, u3], []) h (.inl none, r) := by
  intro u2 u3
  unfold q_206_29 at hF
  refine kg_iload hk_206 rfl rfl rfl ?_
  refine kg_push (x := 44) hk_206 rfl (by decide) rfl ?_
  refine wf_if hF (fun c5 hF => ?_) (fun c5 hF => ?_)
  · refine kg_icF hk_206 rfl (jc_F1 c5) rfl ?_
    refine kg_aload hk_206 rfl rfl rfl ?_
    refine kg_get (v := .ref (1129 + 1)) hk_206 rfl wk_1076_69 rfl rfl ?_
    refine kg_aload hk_206 rfl rfl rfl ?_
    refine kg_get (v := .int (h 1076 70)) hk_206 rfl wk_1076_70 rfl rfl ?_
    refine kg_push (x := 1) hk_206 rfl (by decide) rfl ?_
    refine kg_bin (z := ((h 1076 70) - 1)) hk_206 rfl rfl rfl ?_
    refine kg_dup2 hk_206 rfl ⟨rfl, rfl⟩ rfl ?_
    refine wf_gd hF (fun g6 hF => ?_)
    refine kg_ald (y := (h 1129 ((h 1076 70) - 1).toNatClampNeg)) hk_206 rfl wc_1129 g6 rfl rfl ?_
    refine kg_push (x := 1) hk_206 rfl (by decide) rfl ?_
    refine kg_bin (z := ((h 1129 ((h 1076 70) - 1).toNatClampNeg) + 1)) hk_206 rfl rfl rfl ?_
    refine wf_gd hF (fun g7 hF => ?_)
    refine wf_let hF (fun h8 hh8 hF => ?_)
    refine kg_ast hk_206 rfl wc_1129 g7 (by rw [j_nar50]; exact hh8) rfl ?_
    have hF := Option.some.inj hF
    subst hF
    exact kg_ret hk_206 rfl rfl
  · refine kg_icT hk_206 rfl (jc_T1 c5) ?_
    refine kg_aload hk_206 rfl rfl rfl ?_
    refine kg_dup hk_206 rfl rfl rfl ?_
    refine kg_get (v := .int (h 1076 70)) hk_206 rfl wk_1076_70 rfl rfl ?_
    refine kg_push (x := 1) hk_206 rfl (by decide) rfl ?_
    refine kg_bin (z := ((h 1076 70) - 1)) hk_206 rfl rfl rfl ?_
    refine wf_let hF (fun h9 hh9 hF => ?_)
    refine kg_put hk_206 rfl wk_1076_70 rfl rfl hh9 rfl ?_
    refine kg_iload hk_206 rfl rfl rfl ?_
    refine kg_push (x := 93) hk_206 rfl (by decide) rfl ?_
    refine wf_if hF (fun c10 hF => ?_) (fun c10 hF => ?_)
    · refine kg_icF hk_206 rfl (jc_F1 c10) rfl ?_
      refine kg_aload hk_206 rfl rfl rfl ?_
      refine kg_get (v := .ref (1129 + 1)) hk_206 rfl wk_1076_69 rfl rfl ?_
      refine kg_aload hk_206 rfl rfl rfl ?_
      refine kg_get (v := .int (h9 1076 70)) hk_206 rfl wk_1076_70 rfl rfl ?_
      refine wf_gd hF (fun g11 hF => ?_)
      refine kg_ald (y := (h9 1129 (h9 1076 70).toNatClampNeg)) hk_206 rfl wc_1129 g11 rfl rfl ?_
      refine kg_istore (L2 := [.ref (1076 + 1), .int x1, .int (h9 1129 (h9 1076 70).toNatClampNeg), u3]) hk_206 rfl (Nat.le_of_ble_eq_true rfl) rfl rfl ?_
      refine kg_aload hk_206 rfl rfl rfl ?_
      refine kg_dup hk_206 rfl rfl rfl ?_
      refine kg_get (v := .int (h9 1076 72)) hk_206 rfl wk_1076_72 rfl rfl ?_
      refine kg_iload hk_206 rfl rfl rfl ?_
      refine kg_bin (z := ((h9 1076 72) - (h9 1129 (h9 1076 70).toNatClampNeg))) hk_206 rfl rfl rfl ?_
      refine wf_let hF (fun h12 hh12 hF => ?_)
      refine kg_put hk_206 rfl wk_1076_72 rfl rfl hh12 rfl ?_
      refine kg_push (x := 0) hk_206 rfl (by decide) rfl ?_
      refine kg_istore (L2 := [.ref (1076 + 1), .int x1, .int (h9 1129 (h9 1076 70).toNatClampNeg), .int 0]) hk_206 rfl (Nat.le_of_ble_eq_true rfl) rfl rfl ?_
      refine wf_bind hF (fun e17 he17 hF => ?_)
      refine l_206_67_ok he17 ?_ _
      intro u1 u3
      refine kg_aload hk_206 rfl rfl rfl ?_
      refine kg_get (v := .ref (1132 + 1)) hk_206 rfl wk_1076_78 rfl rfl ?_
      refine kg_push (x := 0) hk_206 rfl (by decide) rfl ?_
      refine kg_iload hk_206 rfl rfl rfl ?_
      refine wf_let hF (fun h18 hh18 hF => ?_)
      refine kg_ast hk_206 rfl wc_1132 (by decide) (by rw [j_nar50]; exact hh18) rfl ?_
      refine kg_aload hk_206 rfl rfl rfl ?_
      refine kg_aload hk_206 rfl rfl rfl ?_
      refine kg_get (v := .ref (1132 + 1)) hk_206 rfl wk_1076_78 rfl rfl ?_
      refine kg_push (x := 0) hk_206 rfl (by decide) rfl ?_
      refine kg_aload hk_206 rfl rfl rfl ?_
      refine kg_get (v := .ref (1130 + 1)) hk_206 rfl wk_1076_71 rfl rfl ?_
      refine kg_push (x := 9) hk_206 rfl (by decide) rfl ?_
      refine kg_aload hk_206 rfl rfl rfl ?_
      refine kg_get (v := .int (h18 1076 72)) hk_206 rfl wk_1076_72 rfl rfl ?_
      refine kg_bin (z := (9 * (h18 1076 72))) hk_206 rfl rfl rfl ?_
      refine wf_bind hF (fun v19 hv19 hF => ?_)
      refine kg_call (as := [.ref (1076 + 1), .ref (1132 + 1), .int 0, .ref (1130 + 1), .int (9 * (h18 1076 72))]) (rest := []) hk_206 rfl (Or.inr (Or.inr (Or.inr ⟨Or.inl rfl, _, _, rfl, wc_1076⟩))) rfl rfl rfl (Nat.not_lt.mpr (Nat.le_of_ble_eq_true rfl)) (p_193_ok wc_1132 wc_1130 hv19) (by decide) rfl ?_
      refine kg_aload hk_206 rfl rfl rfl ?_
      refine kg_dup hk_206 rfl rfl rfl ?_
      refine kg_get (v := .int (v19 1076 72)) hk_206 rfl wk_1076_72 rfl rfl ?_
      refine kg_push (x := 1) hk_206 rfl (by decide) rfl ?_
      refine kg_bin (z := ((v19 1076 72) + 1)) hk_206 rfl rfl rfl ?_
      refine wf_let hF (fun h20 hh20 hF => ?_)
      refine kg_put hk_206 rfl wk_1076_72 rfl rfl hh20 rfl ?_
      have hF := Option.some.inj hF
      subst hF
      exact kg_ret hk_206 rfl rfl
    · refine kg_icT hk_206 rfl (jc_T1 c10) ?_
      have hF := Option.some.inj hF
      subst hF
      exact kg_ret hk_206 rfl rfl
def p_206 (h : Hp) (x1 : Int32) : Option (Hp) :=
  (p_202 h 1).bind fun v1 =>
  w_let (w_up v1 1076 67 ((v1 1076 67) + 1)) fun h2 =>
  if (h2 1076 75) = 0 then
    (if x1 = 41 then
      (q_206_29 h2 x1)
    else
      (w_gd (g_199 ((h2 1076 72) - 1)) <|
      if (v_199 h2 ((h2 1076 72) - 1)) = 0 then
        ((p_195 h2 2 (h2 1076 80)).bind fun v23 =>
        some v23)
      else
        (q_206_29 h2 x1)))
  else
    (some h2)
theorem p_206_ok {X : List Int32}  {h : Hp} {x1 : Int32}  {r : Hp} (hF : p_206 h x1 = some r) : k_Ev X 3 206 [.ref (1076 + 1), .int x1] h (.inl none, r) := by
  refine k_of hk_206 ?_
  show k_Go X 3 206 (0, [.ref (1076 + 1), .int x1, (.retAddr 0), (.retAddr 0)], []) h _
  unfold p_206 at hF
  refine kg_aload hk_206 rfl rfl rfl ?_
  refine kg_push (x := 1) hk_206 rfl (by decide) rfl ?_
  refine wf_bind hF (fun v1 hv1 hF => ?_)
  refine kg_call (as := [.ref (1076 + 1), .int 1]) (rest := []) hk_206 rfl (Or.inr (Or.inr (Or.inr ⟨Or.inl rfl, _, _, rfl, wc_1076⟩))) rfl rfl rfl (Nat.not_lt.mpr (Nat.le_of_ble_eq_true rfl)) (p_202_ok hv1) (by decide) rfl ?_
  refine kg_aload hk_206 rfl rfl rfl ?_
  refine kg_dup hk_206 rfl rfl rfl ?_
  refine kg_get (v := .int (v1 1076 67)) hk_206 rfl wk_1076_67 rfl rfl ?_
  refine kg_push (x := 1) hk_206 rfl (by decide) rfl ?_
  refine kg_bin (z := ((v1 1076 67) + 1)) hk_206 rfl rfl rfl ?_
  refine wf_let hF (fun h2 hh2 hF => ?_)
  refine kg_put hk_206 rfl wk_1076_67 rfl rfl hh2 rfl ?_
  refine kg_aload hk_206 rfl rfl rfl ?_
  refine kg_get (v := .int (h2 1076 75)) hk_206 rfl wk_1076_75 rfl rfl ?_
  refine wf_if hF (fun c3 hF => ?_) (fun c3 hF => ?_)
  · refine kg_ifT hk_206 rfl (jc_T0 c3) ?_
    refine kg_iload hk_206 rfl rfl rfl ?_
    refine kg_push (x := 41) hk_206 rfl (by decide) rfl ?_
    refine wf_if hF (fun c4 hF => ?_) (fun c4 hF => ?_)
    · refine kg_icT hk_206 rfl (jc_T0 c4) ?_
      exact q_206_29_ok hF _ _
    · refine kg_icF hk_206 rfl (jc_F0 c4) rfl ?_
      refine kg_aload hk_206 rfl rfl rfl ?_
      refine kg_aload hk_206 rfl rfl rfl ?_
      refine kg_get (v := .int (h2 1076 72)) hk_206 rfl wk_1076_72 rfl rfl ?_
      refine kg_push (x := 1) hk_206 rfl (by decide) rfl ?_
      refine kg_bin (z := ((h2 1076 72) - 1)) hk_206 rfl rfl rfl ?_
      refine wf_gd hF (fun g21 hF => ?_)
      refine kg_call (as := [.ref (1076 + 1), .int ((h2 1076 72) - 1)]) (rest := []) hk_206 rfl (Or.inr (Or.inr (Or.inr ⟨Or.inl rfl, _, _, rfl, wc_1076⟩))) rfl rfl rfl (Nat.not_lt.mpr (Nat.le_of_ble_eq_true rfl)) (v_199_ok g21) (by decide) rfl ?_
      refine wf_if hF (fun c22 hF => ?_) (fun c22 hF => ?_)
      · refine kg_ifF hk_206 rfl (jc_F1 c22) rfl ?_
        refine kg_aload hk_206 rfl rfl rfl ?_
        refine kg_push (x := 2) hk_206 rfl (by decide) rfl ?_
        refine kg_aload hk_206 rfl rfl rfl ?_
        refine kg_get (v := .int (h2 1076 80)) hk_206 rfl wk_1076_80 rfl rfl ?_
        refine wf_bind hF (fun v23 hv23 hF => ?_)
        refine kg_call (as := [.ref (1076 + 1), .int 2, .int (h2 1076 80)]) (rest := []) hk_206 rfl (Or.inr (Or.inr (Or.inr ⟨Or.inl rfl, _, _, rfl, wc_1076⟩))) rfl rfl rfl (Nat.not_lt.mpr (Nat.le_of_ble_eq_true rfl)) (p_195_ok hv23) (by decide) rfl ?_
        have hF := Option.some.inj hF
        subst hF
        exact kg_ret hk_206 rfl rfl
      · refine kg_ifT hk_206 rfl (jc_T1 c22) ?_
        exact q_206_29_ok hF _ _
  · refine kg_ifF hk_206 rfl (jc_F0 c3) rfl ?_
    have hF := Option.some.inj hF
    subst hF
    exact kg_ret hk_206 rfl rfl
-- NotebookWeirModel.reckons()V
theorem hk_207 : jP[207]? = some (jc_207, 3, [], []) := by rfl
def q_207_65 (h : Hp) (x2 : Int32) : Option ((Int32 × Hp) ⊕ Hp) :=
  (p_202 h (v_201 x2)).bind fun v14 =>
  (p_203 v14 x2).bind fun v15 =>
  w_let (w_up v15 1076 67 ((v15 1076 67) + 1)) fun h16 =>
  some (.inl (1, h16))
theorem q_207_65_ok {X : List Int32} {o : kO}  {h : Hp} {x2 : Int32}  {r : (Int32 × Hp) ⊕ Hp} (hF : q_207_65 h x2 = some r) (hK : ∀ s' : Int32 × Hp, r = .inl s' → ∀ (u2 : Value), k_Go X 7 207 (8, [.ref (1076 + 1), .int (s'.1), u2], []) s'.2 o) (hX0 : ∀ e : Hp, r = .inr e → (.inl none, e) = o) : ∀ (u1 : Value), k_Go X 7 207 (65, [.ref (1076 + 1), u1, .int x2], []) h o := by
  intro u1
  unfold q_207_65 at hF
  refine kg_aload hk_207 rfl rfl rfl ?_
  refine kg_iload hk_207 rfl rfl rfl ?_
  refine kg_call (as := [.int x2]) (rest := [.ref (1076 + 1)]) hk_207 rfl (Or.inl rfl) rfl rfl rfl (Nat.not_lt.mpr (Nat.le_of_ble_eq_true rfl)) (v_201_ok) (by decide) rfl ?_
  refine wf_bind hF (fun v14 hv14 hF => ?_)
  refine kg_call (as := [.ref (1076 + 1), .int (v_201 x2)]) (rest := []) hk_207 rfl (Or.inr (Or.inr (Or.inr ⟨Or.inl rfl, _, _, rfl, wc_1076⟩))) rfl rfl rfl (Nat.not_lt.mpr (Nat.le_of_ble_eq_true rfl)) (p_202_ok hv14) (by decide) rfl ?_
  refine kg_aload hk_207 rfl rfl rfl ?_
  refine kg_iload hk_207 rfl rfl rfl ?_
  refine wf_bind hF (fun v15 hv15 hF => ?_)
  refine kg_call (as := [.ref (1076 + 1), .int x2]) (rest := []) hk_207 rfl (Or.inr (Or.inr (Or.inr ⟨Or.inl rfl, _, _, rfl, wc_1076⟩))) rfl rfl rfl (Nat.not_lt.mpr (Nat.le_of_ble_eq_true rfl)) (p_203_ok hv15) (by decide) rfl ?_
  refine kg_aload hk_207 rfl rfl rfl ?_
  refine kg_dup hk_207 rfl rfl rfl ?_
  refine kg_get (v := .int (v15 1076 67)) hk_207 rfl wk_1076_67 rfl rfl ?_
  refine kg_push (x := 1) hk_207 rfl (by decide) rfl ?_
  refine kg_bin (z := ((v15 1076 67) + 1)) hk_207 rfl rfl rfl ?_
  refine wf_let hF (fun h16 hh16 hF => ?_)
  refine kg_put hk_207 rfl wk_1076_67 rfl rfl hh16 rfl ?_
  refine kg_push (x := 1) hk_207 rfl (by decide) rfl ?_
  refine kg_istore (L2 := [.ref (1076 + 1), .int 1, .int x2]) hk_207 rfl (Nat.le_of_ble_eq_true rfl) rfl rfl ?_
  refine kg_goto hk_207 rfl ?_
  refine kg_goto hk_207 rfl ?_
  have hF := Option.some.inj hF
  exact hK _ hF.symm _
def q_207_90 (h : Hp) (x2 : Int32) : Option ((Int32 × Hp) ⊕ Hp) :=
  (p_206 h x2).bind fun v20 =>
  some (.inl ((if x2 = 44 then 1 else 0), v20))
theorem q_207_90_ok {X : List Int32} {o : kO}  {h : Hp} {x2 : Int32}  {r : (Int32 × Hp) ⊕ Hp} (hF : q_207_90 h x2 = some r) (hK : ∀ s' : Int32 × Hp, r = .inl s' → ∀ (u2 : Value), k_Go X 7 207 (8, [.ref (1076 + 1), .int (s'.1), u2], []) s'.2 o) (hX0 : ∀ e : Hp, r = .inr e → (.inl none, e) = o) : ∀ (u1 : Value), k_Go X 7 207 (90, [.ref (1076 + 1), u1, .int x2], []) h o := by
  intro u1
  unfold q_207_90 at hF
  refine kg_aload hk_207 rfl rfl rfl ?_
  refine kg_iload hk_207 rfl rfl rfl ?_
  refine wf_bind hF (fun v20 hv20 hF => ?_)
  refine kg_call (as := [.ref (1076 + 1), .int x2]) (rest := []) hk_207 rfl (Or.inr (Or.inr (Or.inr ⟨Or.inl rfl, _, _, rfl, wc_1076⟩))) rfl rfl rfl (Nat.not_lt.mpr (Nat.le_of_ble_eq_true rfl)) (p_206_ok hv20) (by decide) rfl ?_
  refine kg_iload hk_207 rfl rfl rfl ?_
  refine kg_push (x := 44) hk_207 rfl (by decide) rfl ?_
  refine kv_mid (p := 99) (L := [.ref (1076 + 1), u1, .int x2]) (S := [.int (if x2 = 44 then 1 else 0)]) ?_ (fun hK => ?_)
  · refine kg_istore (L2 := [.ref (1076 + 1), .int (if x2 = 44 then 1 else 0), .int x2]) hk_207 rfl (Nat.le_of_ble_eq_true rfl) rfl rfl ?_
    refine kg_goto hk_207 rfl ?_
    refine kg_goto hk_207 rfl ?_
    have hF := Option.some.inj hF
    exact hK _ hF.symm _
  · by_cases c21 : x2 = 44
    · have hK := kv_T c21 hK
      refine kg_icF hk_207 rfl (jc_F1 c21) rfl ?_
      refine kg_push (x := 1) hk_207 rfl (by decide) rfl ?_
      refine kg_goto hk_207 rfl ?_
      exact hK
    · have hK := kv_F c21 hK
      refine kg_icT hk_207 rfl (jc_T1 c21) ?_
      refine kg_push (x := 0) hk_207 rfl (by decide) rfl ?_
      exact hK
def q_207_28 (h : Hp) (x1 : Int32) : Option ((Int32 × Hp) ⊕ Hp) :=
  w_gd (g_150 h) <|
  if x1 = 0 then
    (if (v_150 h) = 46 then
      ((p_205 h).bind fun v12 =>
      some (.inl (x1, v12)))
    else
      (if (v_150 h) = 43 then
        (q_207_65 h (v_150 h))
      else
        (if (v_150 h) = 45 then
          (q_207_65 h (v_150 h))
        else
          (if (v_150 h) = 42 then
            (q_207_65 h (v_150 h))
          else
            (if (v_150 h) = 41 then
              (q_207_90 h (v_150 h))
            else
              (if (v_150 h) = 93 then
                (q_207_90 h (v_150 h))
              else
                (if (v_150 h) = 44 then
                  (q_207_90 h (v_150 h))
                else
                  ((p_202 h 1).bind fun v24 =>
                  some (.inl (x1, v24))))))))))
  else
    ((p_204 h (v_150 h)).bind fun v25 =>
    some (.inl ((if (v_150 h) = 35 then 1 else (if (v_150 h) = 40 then 1 else (if (v_150 h) = 91 then 1 else 0))), v25)))
theorem q_207_28_ok {X : List Int32} {o : kO}  {h : Hp} {x1 : Int32}  {r : (Int32 × Hp) ⊕ Hp} (hF : q_207_28 h x1 = some r) (hK : ∀ s' : Int32 × Hp, r = .inl s' → ∀ (u2 : Value), k_Go X 7 207 (8, [.ref (1076 + 1), .int (s'.1), u2], []) s'.2 o) (hX0 : ∀ e : Hp, r = .inr e → (.inl none, e) = o) : ∀ (u2 : Value), k_Go X 7 207 (28, [.ref (1076 + 1), .int x1, u2], []) h o := by
  intro u2
  unfold q_207_28 at hF
  refine kg_aload hk_207 rfl rfl rfl ?_
  refine wf_gd hF (fun g9 hF => ?_)
  refine kg_call (as := [.ref (1076 + 1)]) (rest := []) hk_207 rfl (Or.inr (Or.inr (Or.inr ⟨Or.inl rfl, _, _, rfl, wc_1076⟩))) rfl rfl rfl (Nat.not_lt.mpr (Nat.le_of_ble_eq_true rfl)) (v_150_ok g9) (by decide) rfl ?_
  refine kg_istore (L2 := [.ref (1076 + 1), .int x1, .int (v_150 h)]) hk_207 rfl (Nat.le_of_ble_eq_true rfl) rfl rfl ?_
  refine kg_iload hk_207 rfl rfl rfl ?_
  refine wf_if hF (fun c10 hF => ?_) (fun c10 hF => ?_)
  · refine kg_ifT hk_207 rfl (jc_T0 c10) ?_
    refine kg_iload hk_207 rfl rfl rfl ?_
    refine kg_push (x := 46) hk_207 rfl (by decide) rfl ?_
    refine wf_if hF (fun c11 hF => ?_) (fun c11 hF => ?_)
    · refine kg_icF hk_207 rfl (jc_F1 c11) rfl ?_
      refine kg_aload hk_207 rfl rfl rfl ?_
      refine wf_bind hF (fun v12 hv12 hF => ?_)
      refine kg_call (as := [.ref (1076 + 1)]) (rest := []) hk_207 rfl (Or.inr (Or.inr (Or.inr ⟨Or.inl rfl, _, _, rfl, wc_1076⟩))) rfl rfl rfl (Nat.not_lt.mpr (Nat.le_of_ble_eq_true rfl)) (p_205_ok hv12) (by decide) rfl ?_
      refine kg_goto hk_207 rfl ?_
      refine kg_goto hk_207 rfl ?_
      have hF := Option.some.inj hF
      exact hK _ hF.symm _
    · refine kg_icT hk_207 rfl (jc_T1 c11) ?_
      refine kg_iload hk_207 rfl rfl rfl ?_
      refine kg_push (x := 43) hk_207 rfl (by decide) rfl ?_
      refine wf_if hF (fun c13 hF => ?_) (fun c13 hF => ?_)
      · refine kg_icT hk_207 rfl (jc_T0 c13) ?_
        exact q_207_65_ok hF hK hX0 _
      · refine kg_icF hk_207 rfl (jc_F0 c13) rfl ?_
        refine kg_iload hk_207 rfl rfl rfl ?_
        refine kg_push (x := 45) hk_207 rfl (by decide) rfl ?_
        refine wf_if hF (fun c17 hF => ?_) (fun c17 hF => ?_)
        · refine kg_icT hk_207 rfl (jc_T0 c17) ?_
          exact q_207_65_ok hF hK hX0 _
        · refine kg_icF hk_207 rfl (jc_F0 c17) rfl ?_
          refine kg_iload hk_207 rfl rfl rfl ?_
          refine kg_push (x := 42) hk_207 rfl (by decide) rfl ?_
          refine wf_if hF (fun c18 hF => ?_) (fun c18 hF => ?_)
          · refine kg_icF hk_207 rfl (jc_F1 c18) rfl ?_
            exact q_207_65_ok hF hK hX0 _
          · refine kg_icT hk_207 rfl (jc_T1 c18) ?_
            refine kg_iload hk_207 rfl rfl rfl ?_
            refine kg_push (x := 41) hk_207 rfl (by decide) rfl ?_
            refine wf_if hF (fun c19 hF => ?_) (fun c19 hF => ?_)
            · refine kg_icT hk_207 rfl (jc_T0 c19) ?_
              exact q_207_90_ok hF hK hX0 _
            · refine kg_icF hk_207 rfl (jc_F0 c19) rfl ?_
              refine kg_iload hk_207 rfl rfl rfl ?_
              refine kg_push (x := 93) hk_207 rfl (by decide) rfl ?_
              refine wf_if hF (fun c22 hF => ?_) (fun c22 hF => ?_)
              · refine kg_icT hk_207 rfl (jc_T0 c22) ?_
                exact q_207_90_ok hF hK hX0 _
              · refine kg_icF hk_207 rfl (jc_F0 c22) rfl ?_
                refine kg_iload hk_207 rfl rfl rfl ?_
                refine kg_push (x := 44) hk_207 rfl (by decide) rfl ?_
                refine wf_if hF (fun c23 hF => ?_) (fun c23 hF => ?_)
                · refine kg_icF hk_207 rfl (jc_F1 c23) rfl ?_
                  exact q_207_90_ok hF hK hX0 _
                · refine kg_icT hk_207 rfl (jc_T1 c23) ?_
                  refine kg_aload hk_207 rfl rfl rfl ?_
                  refine kg_push (x := 1) hk_207 rfl (by decide) rfl ?_
                  refine wf_bind hF (fun v24 hv24 hF => ?_)
                  refine kg_call (as := [.ref (1076 + 1), .int 1]) (rest := []) hk_207 rfl (Or.inr (Or.inr (Or.inr ⟨Or.inl rfl, _, _, rfl, wc_1076⟩))) rfl rfl rfl (Nat.not_lt.mpr (Nat.le_of_ble_eq_true rfl)) (p_202_ok hv24) (by decide) rfl ?_
                  refine kg_goto hk_207 rfl ?_
                  have hF := Option.some.inj hF
                  exact hK _ hF.symm _
  · refine kg_ifF hk_207 rfl (jc_F0 c10) rfl ?_
    refine kg_aload hk_207 rfl rfl rfl ?_
    refine kg_iload hk_207 rfl rfl rfl ?_
    refine wf_bind hF (fun v25 hv25 hF => ?_)
    refine kg_call (as := [.ref (1076 + 1), .int (v_150 h)]) (rest := []) hk_207 rfl (Or.inr (Or.inr (Or.inr ⟨Or.inl rfl, _, _, rfl, wc_1076⟩))) rfl rfl rfl (Nat.not_lt.mpr (Nat.le_of_ble_eq_true rfl)) (p_204_ok hv25) (by decide) rfl ?_
    refine kg_iload hk_207 rfl rfl rfl ?_
    refine kg_push (x := 35) hk_207 rfl (by decide) rfl ?_
    refine kv_mid (p := 48) (L := [.ref (1076 + 1), .int x1, .int (v_150 h)]) (S := [.int (if (v_150 h) = 35 then 1 else (if (v_150 h) = 40 then 1 else (if (v_150 h) = 91 then 1 else 0)))]) ?_ (fun hK => ?_)
    · refine kg_istore (L2 := [.ref (1076 + 1), .int (if (v_150 h) = 35 then 1 else (if (v_150 h) = 40 then 1 else (if (v_150 h) = 91 then 1 else 0))), .int (v_150 h)]) hk_207 rfl (Nat.le_of_ble_eq_true rfl) rfl rfl ?_
      refine kg_goto hk_207 rfl ?_
      refine kg_goto hk_207 rfl ?_
      have hF := Option.some.inj hF
      exact hK _ hF.symm _
    · by_cases c26 : (v_150 h) = 35
      · have hK := kv_T c26 hK
        refine kg_icT hk_207 rfl (jc_T0 c26) ?_
        refine kg_push (x := 1) hk_207 rfl (by decide) rfl ?_
        refine kg_goto hk_207 rfl ?_
        exact hK
      · have hK := kv_F c26 hK
        refine kg_icF hk_207 rfl (jc_F0 c26) rfl ?_
        refine kg_iload hk_207 rfl rfl rfl ?_
        refine kg_push (x := 40) hk_207 rfl (by decide) rfl ?_
        by_cases c27 : (v_150 h) = 40
        · have hK := kv_T c27 hK
          refine kg_icT hk_207 rfl (jc_T0 c27) ?_
          refine kg_push (x := 1) hk_207 rfl (by decide) rfl ?_
          refine kg_goto hk_207 rfl ?_
          exact hK
        · have hK := kv_F c27 hK
          refine kg_icF hk_207 rfl (jc_F0 c27) rfl ?_
          refine kg_iload hk_207 rfl rfl rfl ?_
          refine kg_push (x := 91) hk_207 rfl (by decide) rfl ?_
          by_cases c28 : (v_150 h) = 91
          · have hK := kv_T c28 hK
            refine kg_icF hk_207 rfl (jc_F1 c28) rfl ?_
            refine kg_push (x := 1) hk_207 rfl (by decide) rfl ?_
            refine kg_goto hk_207 rfl ?_
            exact hK
          · have hK := kv_F c28 hK
            refine kg_icT hk_207 rfl (jc_T1 c28) ?_
            refine kg_push (x := 0) hk_207 rfl (by decide) rfl ?_
            exact hK
def l_207_8 (x1 : Int32) (h : Hp) : Option ((Int32 × Hp) ⊕ Hp) :=
  if (h 1076 75) = 0 then
    (if x1 = 0 then
      (if (h 1076 70) ≤ 0 then
        (if (h 1076 67) < (h 1076 66) then
          (w_gd (w_ix (h 1076 67) 40) <|
          if (h 1127 (h 1076 67).toNatClampNeg) = 59 then
            (some (.inr h))
          else
            (q_207_28 h x1))
        else
          (some (.inr h)))
      else
        (q_207_28 h x1))
    else
      (q_207_28 h x1))
  else
    (some (.inr h))
theorem l_207_8_st {X : List Int32} {o : kO}  {h : Hp} {x1 : Int32}  {r : (Int32 × Hp) ⊕ Hp} (hF : l_207_8 x1 h = some r) (hK : ∀ s' : Int32 × Hp, r = .inl s' → ∀ (u2 : Value), k_Go X 7 207 (8, [.ref (1076 + 1), .int (s'.1), u2], []) s'.2 o) (hX0 : ∀ e : Hp, r = .inr e → (.inl none, e) = o) : ∀ (u2 : Value), k_Go X 7 207 (8, [.ref (1076 + 1), .int x1, u2], []) h o := by
  intro u2
  refine kg_aload hk_207 rfl rfl rfl ?_
  refine kg_get (v := .int (h 1076 75)) hk_207 rfl wk_1076_75 rfl rfl ?_
  refine wf_if hF (fun c3 hF => ?_) (fun c3 hF => ?_)
  · refine kg_ifF hk_207 rfl (jc_F1 c3) rfl ?_
    refine kg_iload hk_207 rfl rfl rfl ?_
    refine wf_if hF (fun c4 hF => ?_) (fun c4 hF => ?_)
    · refine kg_ifF hk_207 rfl (jc_F1 c4) rfl ?_
      refine kg_aload hk_207 rfl rfl rfl ?_
      refine kg_get (v := .int (h 1076 70)) hk_207 rfl wk_1076_70 rfl rfl ?_
      refine wf_if hF (fun c5 hF => ?_) (fun c5 hF => ?_)
      · refine kg_ifF hk_207 rfl (jc_F4 c5) rfl ?_
        refine kg_aload hk_207 rfl rfl rfl ?_
        refine kg_get (v := .int (h 1076 67)) hk_207 rfl wk_1076_67 rfl rfl ?_
        refine kg_aload hk_207 rfl rfl rfl ?_
        refine kg_get (v := .int (h 1076 66)) hk_207 rfl wk_1076_66 rfl rfl ?_
        refine wf_if hF (fun c6 hF => ?_) (fun c6 hF => ?_)
        · refine kg_icF hk_207 rfl (jc_F3 c6) rfl ?_
          refine kg_aload hk_207 rfl rfl rfl ?_
          refine kg_get (v := .ref (1127 + 1)) hk_207 rfl wk_1076_65 rfl rfl ?_
          refine kg_aload hk_207 rfl rfl rfl ?_
          refine kg_get (v := .int (h 1076 67)) hk_207 rfl wk_1076_67 rfl rfl ?_
          refine wf_gd hF (fun g7 hF => ?_)
          refine kg_ald (y := (h 1127 (h 1076 67).toNatClampNeg)) hk_207 rfl wc_1127 g7 rfl rfl ?_
          refine kg_push (x := 59) hk_207 rfl (by decide) rfl ?_
          refine wf_if hF (fun c8 hF => ?_) (fun c8 hF => ?_)
          · refine kg_icT hk_207 rfl (jc_T0 c8) ?_
            have hF := Option.some.inj hF
            exact kg_ret hk_207 rfl (hX0 _ hF.symm)
          · refine kg_icF hk_207 rfl (jc_F0 c8) rfl ?_
            exact q_207_28_ok hF hK hX0 _
        · refine kg_icT hk_207 rfl (jc_T3 c6) ?_
          have hF := Option.some.inj hF
          exact kg_ret hk_207 rfl (hX0 _ hF.symm)
      · refine kg_ifT hk_207 rfl (jc_T4 c5) ?_
        exact q_207_28_ok hF hK hX0 _
    · refine kg_ifT hk_207 rfl (jc_T1 c4) ?_
      exact q_207_28_ok hF hK hX0 _
  · refine kg_ifT hk_207 rfl (jc_T1 c3) ?_
    have hF := Option.some.inj hF
    exact kg_ret hk_207 rfl (hX0 _ hF.symm)
theorem l_207_8_ok {X : List Int32} {o : kO}    {n : Nat} {s : Int32 × Hp} {e : Hp} (hF : w_lp (fun (s : Int32 × Hp) => l_207_8 s.1 s.2) n s = some e) (hX0 : (.inl none, e) = o) : ∀ (u2 : Value), k_Go X 7 207 (8, [.ref (1076 + 1), .int s.1, u2], []) s.2 o := by
  exact w_lp_ok (P := (fun (s : Int32 × Hp) => ∀ (u2 : Value), k_Go X 7 207 (8, [.ref (1076 + 1), .int s.1, u2], []) s.2 o)) (Q := (fun (e : Hp) => ((.inl none, e) = o))) (fun s r hF hK hX => l_207_8_st hF hK (fun x hx => (hX _ hx))) n s e hF hX0
def p_207 (h : Hp) : Option (Hp) :=
  w_let (w_up h 1076 70 0) fun h1 =>
  w_let (w_up h1 1076 72 0) fun h2 =>
  w_lp (fun (s : Int32 × Hp) => l_207_8 s.1 s.2) w_N (1, h2)
theorem p_207_ok {X : List Int32}  {h : Hp}   {r : Hp} (hF : p_207 h = some r) : k_Ev X 7 207 [.ref (1076 + 1)] h (.inl none, r) := by
  refine k_of hk_207 ?_
  show k_Go X 7 207 (0, [.ref (1076 + 1), (.retAddr 0), (.retAddr 0)], []) h _
  unfold p_207 at hF
  refine kg_aload hk_207 rfl rfl rfl ?_
  refine kg_push (x := 0) hk_207 rfl (by decide) rfl ?_
  refine wf_let hF (fun h1 hh1 hF => ?_)
  refine kg_put hk_207 rfl wk_1076_70 rfl rfl hh1 rfl ?_
  refine kg_aload hk_207 rfl rfl rfl ?_
  refine kg_push (x := 0) hk_207 rfl (by decide) rfl ?_
  refine wf_let hF (fun h2 hh2 hF => ?_)
  refine kg_put hk_207 rfl wk_1076_72 rfl rfl hh2 rfl ?_
  refine kg_push (x := 1) hk_207 rfl (by decide) rfl ?_
  refine kg_istore (L2 := [.ref (1076 + 1), .int 1, (.retAddr 0)]) hk_207 rfl (Nat.le_of_ble_eq_true rfl) rfl rfl ?_
  exact l_207_8_ok hF rfl _
-- NotebookWeirModel.changesName(I)V
theorem hk_209 : jP[209]? = some (jc_209, 2, [], []) := by rfl
def q_209_35 (h : Hp) : Option (Hp) :=
  (p_195 h 2 (h 1076 80)).bind fun v6 =>
  some v6
theorem q_209_35_ok {X : List Int32}   {h : Hp}  {r : Hp} (hF : q_209_35 h = some r)  : ∀ (u1 : Value), k_Go X 5 209 (35, [.ref (1076 + 1), u1], []) h (.inl none, r) := by
  intro u1
  unfold q_209_35 at hF
  refine kg_aload hk_209 rfl rfl rfl ?_
  refine kg_push (x := 2) hk_209 rfl (by decide) rfl ?_
  refine kg_aload hk_209 rfl rfl rfl ?_
  refine kg_get (v := .int (h 1076 80)) hk_209 rfl wk_1076_80 rfl rfl ?_
  refine wf_bind hF (fun v6 hv6 hF => ?_)
  refine kg_call (as := [.ref (1076 + 1), .int 2, .int (h 1076 80)]) (rest := []) hk_209 rfl (Or.inr (Or.inr (Or.inr ⟨Or.inl rfl, _, _, rfl, wc_1076⟩))) rfl rfl rfl (Nat.not_lt.mpr (Nat.le_of_ble_eq_true rfl)) (p_195_ok hv6) (by decide) rfl ?_
  refine kg_goto hk_209 rfl ?_
  have hF := Option.some.inj hF
  subst hF
  exact kg_ret hk_209 rfl rfl
def q_209_25 (h : Hp) : Option (Hp) :=
  if (h 1132 0) = (-1) then
    (w_gd (g_199 0) <|
    if (v_199 h 0) = 0 then
      (q_209_35 h)
    else
      (w_let (w_up h 1130 1 ((h 1130 1) + (h 1132 1))) fun h7 =>
      some h7))
  else
    (q_209_35 h)
theorem q_209_25_ok {X : List Int32}   {h : Hp}  {r : Hp} (hF : q_209_25 h = some r)  : ∀ (u1 : Value), k_Go X 5 209 (25, [.ref (1076 + 1), u1], []) h (.inl none, r) := by
  intro u1
  unfold q_209_25 at hF
  refine kg_aload hk_209 rfl rfl rfl ?_
  refine kg_get (v := .ref (1132 + 1)) hk_209 rfl wk_1076_78 rfl rfl ?_
  refine kg_push (x := 0) hk_209 rfl (by decide) rfl ?_
  refine kg_ald (y := (h 1132 0)) hk_209 rfl wc_1132 (by decide) rfl rfl ?_
  refine kg_push (x := (-1)) hk_209 rfl (by decide) rfl ?_
  refine wf_if hF (fun c3 hF => ?_) (fun c3 hF => ?_)
  · refine kg_icF hk_209 rfl (jc_F1 c3) rfl ?_
    refine kg_aload hk_209 rfl rfl rfl ?_
    refine kg_push (x := 0) hk_209 rfl (by decide) rfl ?_
    refine wf_gd hF (fun g4 hF => ?_)
    refine kg_call (as := [.ref (1076 + 1), .int 0]) (rest := []) hk_209 rfl (Or.inr (Or.inr (Or.inr ⟨Or.inl rfl, _, _, rfl, wc_1076⟩))) rfl rfl rfl (Nat.not_lt.mpr (Nat.le_of_ble_eq_true rfl)) (v_199_ok g4) (by decide) rfl ?_
    refine wf_if hF (fun c5 hF => ?_) (fun c5 hF => ?_)
    · refine kg_ifF hk_209 rfl (jc_F1 c5) rfl ?_
      exact q_209_35_ok hF _
    · refine kg_ifT hk_209 rfl (jc_T1 c5) ?_
      refine kg_aload hk_209 rfl rfl rfl ?_
      refine kg_get (v := .ref (1130 + 1)) hk_209 rfl wk_1076_71 rfl rfl ?_
      refine kg_push (x := 1) hk_209 rfl (by decide) rfl ?_
      refine kg_dup2 hk_209 rfl ⟨rfl, rfl⟩ rfl ?_
      refine kg_ald (y := (h 1130 1)) hk_209 rfl wc_1130 (by decide) rfl rfl ?_
      refine kg_aload hk_209 rfl rfl rfl ?_
      refine kg_get (v := .ref (1132 + 1)) hk_209 rfl wk_1076_78 rfl rfl ?_
      refine kg_push (x := 1) hk_209 rfl (by decide) rfl ?_
      refine kg_ald (y := (h 1132 1)) hk_209 rfl wc_1132 (by decide) rfl rfl ?_
      refine kg_bin (z := ((h 1130 1) + (h 1132 1))) hk_209 rfl rfl rfl ?_
      refine wf_let hF (fun h7 hh7 hF => ?_)
      refine kg_ast hk_209 rfl wc_1130 (by decide) (by rw [j_nar50]; exact hh7) rfl ?_
      have hF := Option.some.inj hF
      subst hF
      exact kg_ret hk_209 rfl rfl
  · refine kg_icT hk_209 rfl (jc_T1 c3) ?_
    exact q_209_35_ok hF _
def p_209 (h : Hp) (x1 : Int32) : Option (Hp) :=
  if ((h 1076 74) &&& (v_162 x1)) = 0 then
    ((p_194 h (h 1076 77) x1).bind fun v2 =>
    q_209_25 v2.2)
  else
    ((p_193 h 1131 (9 * (x1 - 97)) 1132 0).bind fun v8 =>
    q_209_25 v8)
theorem p_209_ok {X : List Int32}  {h : Hp} {x1 : Int32}  {r : Hp} (hF : p_209 h x1 = some r) : k_Ev X 5 209 [.ref (1076 + 1), .int x1] h (.inl none, r) := by
  refine k_of hk_209 ?_
  show k_Go X 5 209 (0, [.ref (1076 + 1), .int x1], []) h _
  unfold p_209 at hF
  refine kg_aload hk_209 rfl rfl rfl ?_
  refine kg_get (v := .int (h 1076 74)) hk_209 rfl wk_1076_74 rfl rfl ?_
  refine kg_iload hk_209 rfl rfl rfl ?_
  refine kg_call (as := [.int x1]) (rest := [.int (h 1076 74)]) hk_209 rfl (Or.inl rfl) rfl rfl rfl (Nat.not_lt.mpr (Nat.le_of_ble_eq_true rfl)) (v_162_ok) (by decide) rfl ?_
  refine kg_bin (z := ((h 1076 74) &&& (v_162 x1))) hk_209 rfl rfl rfl ?_
  refine wf_if hF (fun c1 hF => ?_) (fun c1 hF => ?_)
  · refine kg_ifT hk_209 rfl (jc_T0 c1) ?_
    refine kg_aload hk_209 rfl rfl rfl ?_
    refine kg_aload hk_209 rfl rfl rfl ?_
    refine kg_get (v := .int (h 1076 77)) hk_209 rfl wk_1076_77 rfl rfl ?_
    refine kg_iload hk_209 rfl rfl rfl ?_
    refine wf_bind hF (fun v2 hv2 hF => ?_)
    refine kg_call (as := [.ref (1076 + 1), .int (h 1076 77), .int x1]) (rest := []) hk_209 rfl (Or.inr (Or.inr (Or.inr ⟨Or.inl rfl, _, _, rfl, wc_1076⟩))) rfl rfl rfl (Nat.not_lt.mpr (Nat.le_of_ble_eq_true rfl)) (p_194_ok hv2) (by decide) rfl ?_
    refine kg_pop hk_209 rfl rfl rfl ?_
    exact q_209_25_ok hF _
  · refine kg_ifF hk_209 rfl (jc_F0 c1) rfl ?_
    refine kg_aload hk_209 rfl rfl rfl ?_
    refine kg_aload hk_209 rfl rfl rfl ?_
    refine kg_get (v := .ref (1131 + 1)) hk_209 rfl wk_1076_73 rfl rfl ?_
    refine kg_push (x := 9) hk_209 rfl (by decide) rfl ?_
    refine kg_iload hk_209 rfl rfl rfl ?_
    refine kg_push (x := 97) hk_209 rfl (by decide) rfl ?_
    refine kg_bin (z := (x1 - 97)) hk_209 rfl rfl rfl ?_
    refine kg_bin (z := (9 * (x1 - 97))) hk_209 rfl rfl rfl ?_
    refine kg_aload hk_209 rfl rfl rfl ?_
    refine kg_get (v := .ref (1132 + 1)) hk_209 rfl wk_1076_78 rfl rfl ?_
    refine kg_push (x := 0) hk_209 rfl (by decide) rfl ?_
    refine wf_bind hF (fun v8 hv8 hF => ?_)
    refine kg_call (as := [.ref (1076 + 1), .ref (1131 + 1), .int (9 * (x1 - 97)), .ref (1132 + 1), .int 0]) (rest := []) hk_209 rfl (Or.inr (Or.inr (Or.inr ⟨Or.inl rfl, _, _, rfl, wc_1076⟩))) rfl rfl rfl (Nat.not_lt.mpr (Nat.le_of_ble_eq_true rfl)) (p_193_ok wc_1131 wc_1132 hv8) (by decide) rfl ?_
    refine kg_goto hk_209 rfl ?_
    exact q_209_25_ok hF _
-- NotebookWeirModel.runsStatements([I)V
theorem hk_208 : jP[208]? = some (jc_208, 5, [], []) := by rfl
def q_208_106 (h : Hp) (q1 : Nat) : Option ((Hp) ⊕ Hp) :=
  if (h 1076 75) = 0 then
    ((p_193 h 1130 0 q1 (9 * (h 1076 77))).bind fun v20 =>
    some (.inl v20))
  else
    (some (.inl h))
theorem q_208_106_ok {X : List Int32} {o : kO}  {h : Hp} {q1 : Nat} (t1 : w_tab[q1]? = some (50, (w_len q1), [])) {r : (Hp) ⊕ Hp} (hF : q_208_106 h q1 = some r) (hK : ∀ s' : Hp, r = .inl s' → ∀ (u2 : Value) (u3 : Value) (u4 : Value), k_Go X 8 208 (0, [.ref (1076 + 1), .ref (q1 + 1), u2, u3, u4], []) s' o) (hX0 : ∀ e : Hp, r = .inr e → (.inl none, e) = o) : ∀ (u2 : Value) (u3 : Value) (u4 : Value), k_Go X 8 208 (106, [.ref (1076 + 1), .ref (q1 + 1), u2, u3, u4], []) h o := by
  intro u2 u3 u4
  unfold q_208_106 at hF
  refine kg_aload hk_208 rfl rfl rfl ?_
  refine kg_get (v := .int (h 1076 75)) hk_208 rfl wk_1076_75 rfl rfl ?_
  refine wf_if hF (fun c19 hF => ?_) (fun c19 hF => ?_)
  · refine kg_ifF hk_208 rfl (jc_F1 c19) rfl ?_
    refine kg_aload hk_208 rfl rfl rfl ?_
    refine kg_aload hk_208 rfl rfl rfl ?_
    refine kg_get (v := .ref (1130 + 1)) hk_208 rfl wk_1076_71 rfl rfl ?_
    refine kg_push (x := 0) hk_208 rfl (by decide) rfl ?_
    refine kg_aload hk_208 rfl rfl rfl ?_
    refine kg_push (x := 9) hk_208 rfl (by decide) rfl ?_
    refine kg_aload hk_208 rfl rfl rfl ?_
    refine kg_get (v := .int (h 1076 77)) hk_208 rfl wk_1076_77 rfl rfl ?_
    refine kg_bin (z := (9 * (h 1076 77))) hk_208 rfl rfl rfl ?_
    refine wf_bind hF (fun v20 hv20 hF => ?_)
    refine kg_call (as := [.ref (1076 + 1), .ref (1130 + 1), .int 0, .ref (q1 + 1), .int (9 * (h 1076 77))]) (rest := []) hk_208 rfl (Or.inr (Or.inr (Or.inr ⟨Or.inl rfl, _, _, rfl, wc_1076⟩))) rfl rfl rfl (Nat.not_lt.mpr (Nat.le_of_ble_eq_true rfl)) (p_193_ok wc_1130 t1 hv20) (by decide) rfl ?_
    refine kg_goto hk_208 rfl ?_
    have hF := Option.some.inj hF
    exact hK _ hF.symm _ _ _
  · refine kg_ifT hk_208 rfl (jc_T1 c19) ?_
    refine kg_goto hk_208 rfl ?_
    have hF := Option.some.inj hF
    exact hK _ hF.symm _ _ _
def q_208_81 (h : Hp) (q1 : Nat) (x2 : Int32) (x3 : Int32) : Option ((Hp) ⊕ Hp) :=
  if (h 1076 75) = 0 then
    (if x2 = 0 then
      (q_208_106 h q1)
    else
      ((p_193 h 1130 0 1131 (9 * (x3 - 97))).bind fun v21 =>
      w_let (w_up v21 1076 74 ((v21 1076 74) ||| (v_162 x3))) fun h22 =>
      some (.inl h22)))
  else
    (q_208_106 h q1)
theorem q_208_81_ok {X : List Int32} {o : kO}  {h : Hp} {q1 : Nat} {x2 : Int32} {x3 : Int32} (t1 : w_tab[q1]? = some (50, (w_len q1), [])) {r : (Hp) ⊕ Hp} (hF : q_208_81 h q1 x2 x3 = some r) (hK : ∀ s' : Hp, r = .inl s' → ∀ (u2 : Value) (u3 : Value) (u4 : Value), k_Go X 8 208 (0, [.ref (1076 + 1), .ref (q1 + 1), u2, u3, u4], []) s' o) (hX0 : ∀ e : Hp, r = .inr e → (.inl none, e) = o) : ∀ (u4 : Value), k_Go X 8 208 (81, [.ref (1076 + 1), .ref (q1 + 1), .int x2, .int x3, u4], []) h o := by
  intro u4
  unfold q_208_81 at hF
  refine kg_aload hk_208 rfl rfl rfl ?_
  refine kg_get (v := .int (h 1076 75)) hk_208 rfl wk_1076_75 rfl rfl ?_
  refine wf_if hF (fun c17 hF => ?_) (fun c17 hF => ?_)
  · refine kg_ifF hk_208 rfl (jc_F1 c17) rfl ?_
    refine kg_iload hk_208 rfl rfl rfl ?_
    refine wf_if hF (fun c18 hF => ?_) (fun c18 hF => ?_)
    · refine kg_ifT hk_208 rfl (jc_T0 c18) ?_
      exact q_208_106_ok t1 hF hK hX0 _ _ _
    · refine kg_ifF hk_208 rfl (jc_F0 c18) rfl ?_
      refine kg_aload hk_208 rfl rfl rfl ?_
      refine kg_aload hk_208 rfl rfl rfl ?_
      refine kg_get (v := .ref (1130 + 1)) hk_208 rfl wk_1076_71 rfl rfl ?_
      refine kg_push (x := 0) hk_208 rfl (by decide) rfl ?_
      refine kg_aload hk_208 rfl rfl rfl ?_
      refine kg_get (v := .ref (1131 + 1)) hk_208 rfl wk_1076_73 rfl rfl ?_
      refine kg_push (x := 9) hk_208 rfl (by decide) rfl ?_
      refine kg_iload hk_208 rfl rfl rfl ?_
      refine kg_push (x := 97) hk_208 rfl (by decide) rfl ?_
      refine kg_bin (z := (x3 - 97)) hk_208 rfl rfl rfl ?_
      refine kg_bin (z := (9 * (x3 - 97))) hk_208 rfl rfl rfl ?_
      refine wf_bind hF (fun v21 hv21 hF => ?_)
      refine kg_call (as := [.ref (1076 + 1), .ref (1130 + 1), .int 0, .ref (1131 + 1), .int (9 * (x3 - 97))]) (rest := []) hk_208 rfl (Or.inr (Or.inr (Or.inr ⟨Or.inl rfl, _, _, rfl, wc_1076⟩))) rfl rfl rfl (Nat.not_lt.mpr (Nat.le_of_ble_eq_true rfl)) (p_193_ok wc_1130 wc_1131 hv21) (by decide) rfl ?_
      refine kg_aload hk_208 rfl rfl rfl ?_
      refine kg_dup hk_208 rfl rfl rfl ?_
      refine kg_get (v := .int (v21 1076 74)) hk_208 rfl wk_1076_74 rfl rfl ?_
      refine kg_iload hk_208 rfl rfl rfl ?_
      refine kg_call (as := [.int x3]) (rest := [.int (v21 1076 74), .ref (1076 + 1)]) hk_208 rfl (Or.inl rfl) rfl rfl rfl (Nat.not_lt.mpr (Nat.le_of_ble_eq_true rfl)) (v_162_ok) (by decide) rfl ?_
      refine kg_bin (z := ((v21 1076 74) ||| (v_162 x3))) hk_208 rfl rfl rfl ?_
      refine wf_let hF (fun h22 hh22 hF => ?_)
      refine kg_put hk_208 rfl wk_1076_74 rfl rfl hh22 rfl ?_
      refine kg_goto hk_208 rfl ?_
      refine kg_goto hk_208 rfl ?_
      have hF := Option.some.inj hF
      exact hK _ hF.symm _ _ _
  · refine kg_ifT hk_208 rfl (jc_T1 c17) ?_
    exact q_208_106_ok t1 hF hK hX0 _ _ _
def q_208_65 (h : Hp) (q1 : Nat) (x2 : Int32) (x3 : Int32) (x4 : Int32) : Option ((Hp) ⊕ Hp) :=
  (p_207 h).bind fun v13 =>
  w_let (w_up v13 1076 67 ((v13 1076 67) + 1)) fun h14 =>
  if (h14 1076 75) = 0 then
    (if x4 = 0 then
      (q_208_81 h14 q1 x2 x3)
    else
      ((p_209 h14 x3).bind fun v23 =>
      q_208_81 v23 q1 x2 x3))
  else
    (q_208_81 h14 q1 x2 x3)
theorem q_208_65_ok {X : List Int32} {o : kO}  {h : Hp} {q1 : Nat} {x2 : Int32} {x3 : Int32} {x4 : Int32} (t1 : w_tab[q1]? = some (50, (w_len q1), [])) {r : (Hp) ⊕ Hp} (hF : q_208_65 h q1 x2 x3 x4 = some r) (hK : ∀ s' : Hp, r = .inl s' → ∀ (u2 : Value) (u3 : Value) (u4 : Value), k_Go X 8 208 (0, [.ref (1076 + 1), .ref (q1 + 1), u2, u3, u4], []) s' o) (hX0 : ∀ e : Hp, r = .inr e → (.inl none, e) = o) : k_Go X 8 208 (65, [.ref (1076 + 1), .ref (q1 + 1), .int x2, .int x3, .int x4], []) h o := by
  unfold q_208_65 at hF
  refine kg_aload hk_208 rfl rfl rfl ?_
  refine wf_bind hF (fun v13 hv13 hF => ?_)
  refine kg_call (as := [.ref (1076 + 1)]) (rest := []) hk_208 rfl (Or.inr (Or.inr (Or.inr ⟨Or.inl rfl, _, _, rfl, wc_1076⟩))) rfl rfl rfl (Nat.not_lt.mpr (Nat.le_of_ble_eq_true rfl)) (p_207_ok hv13) (by decide) rfl ?_
  refine kg_aload hk_208 rfl rfl rfl ?_
  refine kg_dup hk_208 rfl rfl rfl ?_
  refine kg_get (v := .int (v13 1076 67)) hk_208 rfl wk_1076_67 rfl rfl ?_
  refine kg_push (x := 1) hk_208 rfl (by decide) rfl ?_
  refine kg_bin (z := ((v13 1076 67) + 1)) hk_208 rfl rfl rfl ?_
  refine wf_let hF (fun h14 hh14 hF => ?_)
  refine kg_put hk_208 rfl wk_1076_67 rfl rfl hh14 rfl ?_
  refine kg_aload hk_208 rfl rfl rfl ?_
  refine kg_get (v := .int (h14 1076 75)) hk_208 rfl wk_1076_75 rfl rfl ?_
  refine wf_if hF (fun c15 hF => ?_) (fun c15 hF => ?_)
  · refine kg_ifF hk_208 rfl (jc_F1 c15) rfl ?_
    refine kg_iload hk_208 rfl rfl rfl ?_
    refine wf_if hF (fun c16 hF => ?_) (fun c16 hF => ?_)
    · refine kg_ifT hk_208 rfl (jc_T0 c16) ?_
      exact q_208_81_ok t1 hF hK hX0 _
    · refine kg_ifF hk_208 rfl (jc_F0 c16) rfl ?_
      refine kg_aload hk_208 rfl rfl rfl ?_
      refine kg_iload hk_208 rfl rfl rfl ?_
      refine wf_bind hF (fun v23 hv23 hF => ?_)
      refine kg_call (as := [.ref (1076 + 1), .int x3]) (rest := []) hk_208 rfl (Or.inr (Or.inr (Or.inr ⟨Or.inl rfl, _, _, rfl, wc_1076⟩))) rfl rfl rfl (Nat.not_lt.mpr (Nat.le_of_ble_eq_true rfl)) (p_209_ok hv23) (by decide) rfl ?_
      exact q_208_81_ok t1 hF hK hX0 _
  · refine kg_ifT hk_208 rfl (jc_T1 c15) ?_
    exact q_208_81_ok t1 hF hK hX0 _
def q_208_44 (h : Hp) (q1 : Nat) (x2 : Int32) (x3 : Int32) (x4 : Int32) (s0 : Int32) (s1 : Int32) : Option ((Hp) ⊕ Hp) :=
  w_let (w_up h 1076 67 (s1 + s0)) fun h11 =>
  if x4 = 0 then
    (q_208_65 h11 q1 x2 x3 x4)
  else
    (if ((h11 1076 74) &&& (v_162 x3)) = 0 then
      ((p_194 h11 (h11 1076 77) x3).bind fun v25 =>
      if v25.1 = 0 then
        ((p_195 v25.2 1 (v25.2 1076 80)).bind fun v27 =>
        q_208_65 v27 q1 x2 x3 x4)
      else
        (q_208_65 v25.2 q1 x2 x3 x4))
    else
      (q_208_65 h11 q1 x2 x3 x4))
theorem q_208_44_ok {X : List Int32} {o : kO}  {h : Hp} {q1 : Nat} {s0 : Int32} {s1 : Int32} {x2 : Int32} {x3 : Int32} {x4 : Int32} (t1 : w_tab[q1]? = some (50, (w_len q1), [])) {r : (Hp) ⊕ Hp} (hF : q_208_44 h q1 x2 x3 x4 s0 s1 = some r) (hK : ∀ s' : Hp, r = .inl s' → ∀ (u2 : Value) (u3 : Value) (u4 : Value), k_Go X 8 208 (0, [.ref (1076 + 1), .ref (q1 + 1), u2, u3, u4], []) s' o) (hX0 : ∀ e : Hp, r = .inr e → (.inl none, e) = o) : k_Go X 8 208 (44, [.ref (1076 + 1), .ref (q1 + 1), .int x2, .int x3, .int x4], [.int s0, .int s1, .ref (1076 + 1)]) h o := by
  unfold q_208_44 at hF
  refine kg_bin (z := (s1 + s0)) hk_208 rfl rfl rfl ?_
  refine wf_let hF (fun h11 hh11 hF => ?_)
  refine kg_put hk_208 rfl wk_1076_67 rfl rfl hh11 rfl ?_
  refine kg_iload hk_208 rfl rfl rfl ?_
  refine wf_if hF (fun c12 hF => ?_) (fun c12 hF => ?_)
  · refine kg_ifT hk_208 rfl (jc_T0 c12) ?_
    exact q_208_65_ok t1 hF hK hX0
  · refine kg_ifF hk_208 rfl (jc_F0 c12) rfl ?_
    refine kg_aload hk_208 rfl rfl rfl ?_
    refine kg_get (v := .int (h11 1076 74)) hk_208 rfl wk_1076_74 rfl rfl ?_
    refine kg_iload hk_208 rfl rfl rfl ?_
    refine kg_call (as := [.int x3]) (rest := [.int (h11 1076 74)]) hk_208 rfl (Or.inl rfl) rfl rfl rfl (Nat.not_lt.mpr (Nat.le_of_ble_eq_true rfl)) (v_162_ok) (by decide) rfl ?_
    refine kg_bin (z := ((h11 1076 74) &&& (v_162 x3))) hk_208 rfl rfl rfl ?_
    refine wf_if hF (fun c24 hF => ?_) (fun c24 hF => ?_)
    · refine kg_ifF hk_208 rfl (jc_F1 c24) rfl ?_
      refine kg_aload hk_208 rfl rfl rfl ?_
      refine kg_aload hk_208 rfl rfl rfl ?_
      refine kg_get (v := .int (h11 1076 77)) hk_208 rfl wk_1076_77 rfl rfl ?_
      refine kg_iload hk_208 rfl rfl rfl ?_
      refine wf_bind hF (fun v25 hv25 hF => ?_)
      refine kg_call (as := [.ref (1076 + 1), .int (h11 1076 77), .int x3]) (rest := []) hk_208 rfl (Or.inr (Or.inr (Or.inr ⟨Or.inl rfl, _, _, rfl, wc_1076⟩))) rfl rfl rfl (Nat.not_lt.mpr (Nat.le_of_ble_eq_true rfl)) (p_194_ok hv25) (by decide) rfl ?_
      refine wf_if hF (fun c26 hF => ?_) (fun c26 hF => ?_)
      · refine kg_ifF hk_208 rfl (jc_F1 c26) rfl ?_
        refine kg_aload hk_208 rfl rfl rfl ?_
        refine kg_push (x := 1) hk_208 rfl (by decide) rfl ?_
        refine kg_aload hk_208 rfl rfl rfl ?_
        refine kg_get (v := .int (v25.2 1076 80)) hk_208 rfl wk_1076_80 rfl rfl ?_
        refine wf_bind hF (fun v27 hv27 hF => ?_)
        refine kg_call (as := [.ref (1076 + 1), .int 1, .int (v25.2 1076 80)]) (rest := []) hk_208 rfl (Or.inr (Or.inr (Or.inr ⟨Or.inl rfl, _, _, rfl, wc_1076⟩))) rfl rfl rfl (Nat.not_lt.mpr (Nat.le_of_ble_eq_true rfl)) (p_195_ok hv27) (by decide) rfl ?_
        exact q_208_65_ok t1 hF hK hX0
      · refine kg_ifT hk_208 rfl (jc_T1 c26) ?_
        exact q_208_65_ok t1 hF hK hX0
    · refine kg_ifT hk_208 rfl (jc_T1 c24) ?_
      exact q_208_65_ok t1 hF hK hX0
def q_208_35 (h : Hp) (q1 : Nat) (x2 : Int32) (x3 : Int32) (s0 : Int32) : Option ((Hp) ⊕ Hp) :=
  q_208_44 h q1 x2 x3 s0 (if x2 = 0 then 0 else 2) (h 1076 67)
theorem q_208_35_ok {X : List Int32} {o : kO}  {h : Hp} {q1 : Nat} {s0 : Int32} {x2 : Int32} {x3 : Int32} (t1 : w_tab[q1]? = some (50, (w_len q1), [])) {r : (Hp) ⊕ Hp} (hF : q_208_35 h q1 x2 x3 s0 = some r) (hK : ∀ s' : Hp, r = .inl s' → ∀ (u2 : Value) (u3 : Value) (u4 : Value), k_Go X 8 208 (0, [.ref (1076 + 1), .ref (q1 + 1), u2, u3, u4], []) s' o) (hX0 : ∀ e : Hp, r = .inr e → (.inl none, e) = o) : ∀ (u4 : Value), k_Go X 8 208 (35, [.ref (1076 + 1), .ref (q1 + 1), .int x2, .int x3, u4], [.int s0]) h o := by
  intro u4
  unfold q_208_35 at hF
  refine kg_istore (L2 := [.ref (1076 + 1), .ref (q1 + 1), .int x2, .int x3, .int s0]) hk_208 rfl (Nat.le_of_ble_eq_true rfl) rfl rfl ?_
  refine kg_aload hk_208 rfl rfl rfl ?_
  refine kg_dup hk_208 rfl rfl rfl ?_
  refine kg_get (v := .int (h 1076 67)) hk_208 rfl wk_1076_67 rfl rfl ?_
  refine kg_iload hk_208 rfl rfl rfl ?_
  refine kv_mid (p := 44) (L := [.ref (1076 + 1), .ref (q1 + 1), .int x2, .int x3, .int s0]) (S := [.int (if x2 = 0 then 0 else 2), .int (h 1076 67), .ref (1076 + 1)]) ?_ (fun hK => ?_)
  · exact q_208_44_ok t1 hF hK hX0
  · by_cases c10 : x2 = 0
    · have hK := kv_T c10 hK
      refine kg_ifT hk_208 rfl (jc_T0 c10) ?_
      refine kg_push (x := 0) hk_208 rfl (by decide) rfl ?_
      exact hK
    · have hK := kv_F c10 hK
      refine kg_ifF hk_208 rfl (jc_F0 c10) rfl ?_
      refine kg_push (x := 2) hk_208 rfl (by decide) rfl ?_
      refine kg_goto hk_208 rfl ?_
      exact hK
def l_208_0 (q1 : Nat) (h : Hp) : Option ((Hp) ⊕ Hp) :=
  if (h 1076 67) < (h 1076 66) then
    (if (h 1076 75) = 0 then
      (w_let (w_up h 1076 80 (h 1076 67)) fun h3 =>
      w_gd (g_151 h3) <|
      w_gd (w_ix (h3 1076 67) 40) <|
      w_gd ((if (v_151 h3) = 0 then true else w_ix ((h3 1076 67) + 1) 40)) <|
      q_208_35 h3 q1 (v_151 h3) (h3 1127 (h3 1076 67).toNatClampNeg) (if (v_151 h3) = 0 then 0 else (if (h3 1127 ((h3 1076 67) + 1).toNatClampNeg) = 33 then 1 else 0)))
    else
      (some (.inr h)))
  else
    (some (.inr h))
theorem l_208_0_st {X : List Int32} {o : kO}  {h : Hp} {q1 : Nat} (t1 : w_tab[q1]? = some (50, (w_len q1), [])) {r : (Hp) ⊕ Hp} (hF : l_208_0 q1 h = some r) (hK : ∀ s' : Hp, r = .inl s' → ∀ (u2 : Value) (u3 : Value) (u4 : Value), k_Go X 8 208 (0, [.ref (1076 + 1), .ref (q1 + 1), u2, u3, u4], []) s' o) (hX0 : ∀ e : Hp, r = .inr e → (.inl none, e) = o) : ∀ (u2 : Value) (u3 : Value) (u4 : Value), k_Go X 8 208 (0, [.ref (1076 + 1), .ref (q1 + 1), u2, u3, u4], []) h o := by
  intro u2 u3 u4
  refine kg_aload hk_208 rfl rfl rfl ?_
  refine kg_get (v := .int (h 1076 67)) hk_208 rfl wk_1076_67 rfl rfl ?_
  refine kg_aload hk_208 rfl rfl rfl ?_
  refine kg_get (v := .int (h 1076 66)) hk_208 rfl wk_1076_66 rfl rfl ?_
  refine wf_if hF (fun c1 hF => ?_) (fun c1 hF => ?_)
  · refine kg_icF hk_208 rfl (jc_F3 c1) rfl ?_
    refine kg_aload hk_208 rfl rfl rfl ?_
    refine kg_get (v := .int (h 1076 75)) hk_208 rfl wk_1076_75 rfl rfl ?_
    refine wf_if hF (fun c2 hF => ?_) (fun c2 hF => ?_)
    · refine kg_ifF hk_208 rfl (jc_F1 c2) rfl ?_
      refine kg_aload hk_208 rfl rfl rfl ?_
      refine kg_aload hk_208 rfl rfl rfl ?_
      refine kg_get (v := .int (h 1076 67)) hk_208 rfl wk_1076_67 rfl rfl ?_
      refine wf_let hF (fun h3 hh3 hF => ?_)
      refine kg_put hk_208 rfl wk_1076_80 rfl rfl hh3 rfl ?_
      refine kg_aload hk_208 rfl rfl rfl ?_
      refine wf_gd hF (fun g4 hF => ?_)
      refine kg_call (as := [.ref (1076 + 1)]) (rest := []) hk_208 rfl (Or.inr (Or.inr (Or.inr ⟨Or.inl rfl, _, _, rfl, wc_1076⟩))) rfl rfl rfl (Nat.not_lt.mpr (Nat.le_of_ble_eq_true rfl)) (v_151_ok g4) (by decide) rfl ?_
      refine kg_istore (L2 := [.ref (1076 + 1), .ref (q1 + 1), .int (v_151 h3), u3, u4]) hk_208 rfl (Nat.le_of_ble_eq_true rfl) rfl rfl ?_
      refine kg_aload hk_208 rfl rfl rfl ?_
      refine kg_get (v := .ref (1127 + 1)) hk_208 rfl wk_1076_65 rfl rfl ?_
      refine kg_aload hk_208 rfl rfl rfl ?_
      refine kg_get (v := .int (h3 1076 67)) hk_208 rfl wk_1076_67 rfl rfl ?_
      refine wf_gd hF (fun g5 hF => ?_)
      refine kg_ald (y := (h3 1127 (h3 1076 67).toNatClampNeg)) hk_208 rfl wc_1127 g5 rfl rfl ?_
      refine kg_istore (L2 := [.ref (1076 + 1), .ref (q1 + 1), .int (v_151 h3), .int (h3 1127 (h3 1076 67).toNatClampNeg), u4]) hk_208 rfl (Nat.le_of_ble_eq_true rfl) rfl rfl ?_
      refine kg_iload hk_208 rfl rfl rfl ?_
      refine wf_gd hF (fun g9 hF => ?_)
      refine kv_mid (p := 35) (L := [.ref (1076 + 1), .ref (q1 + 1), .int (v_151 h3), .int (h3 1127 (h3 1076 67).toNatClampNeg), u4]) (S := [.int (if (v_151 h3) = 0 then 0 else (if (h3 1127 ((h3 1076 67) + 1).toNatClampNeg) = 33 then 1 else 0))]) ?_ (fun hK => ?_)
      · exact q_208_35_ok t1 hF hK hX0 _
      · have hg := g9
        by_cases c6 : (v_151 h3) = 0
        · have hK := kv_T c6 hK
          refine kg_ifT hk_208 rfl (jc_T0 c6) ?_
          refine kg_push (x := 0) hk_208 rfl (by decide) rfl ?_
          exact hK
        · have hg := wv_F c6 hg
          have hK := kv_F c6 hK
          have g7 := hg
          refine kg_ifF hk_208 rfl (jc_F0 c6) rfl ?_
          refine kg_aload hk_208 rfl rfl rfl ?_
          refine kg_get (v := .ref (1127 + 1)) hk_208 rfl wk_1076_65 rfl rfl ?_
          refine kg_aload hk_208 rfl rfl rfl ?_
          refine kg_get (v := .int (h3 1076 67)) hk_208 rfl wk_1076_67 rfl rfl ?_
          refine kg_push (x := 1) hk_208 rfl (by decide) rfl ?_
          refine kg_bin (z := ((h3 1076 67) + 1)) hk_208 rfl rfl rfl ?_
          refine kg_ald (y := (h3 1127 ((h3 1076 67) + 1).toNatClampNeg)) hk_208 rfl wc_1127 g7 rfl rfl ?_
          refine kg_push (x := 33) hk_208 rfl (by decide) rfl ?_
          by_cases c8 : (h3 1127 ((h3 1076 67) + 1).toNatClampNeg) = 33
          · have hK := kv_T c8 hK
            refine kg_icF hk_208 rfl (jc_F1 c8) rfl ?_
            refine kg_push (x := 1) hk_208 rfl (by decide) rfl ?_
            refine kg_goto hk_208 rfl ?_
            exact hK
          · have hK := kv_F c8 hK
            refine kg_icT hk_208 rfl (jc_T1 c8) ?_
            refine kg_push (x := 0) hk_208 rfl (by decide) rfl ?_
            exact hK
    · refine kg_ifT hk_208 rfl (jc_T1 c2) ?_
      have hF := Option.some.inj hF
      exact kg_ret hk_208 rfl (hX0 _ hF.symm)
  · refine kg_icT hk_208 rfl (jc_T3 c1) ?_
    have hF := Option.some.inj hF
    exact kg_ret hk_208 rfl (hX0 _ hF.symm)
theorem l_208_0_ok {X : List Int32} {o : kO}  {q1 : Nat} (t1 : w_tab[q1]? = some (50, (w_len q1), [])) {n : Nat} {s : Hp} {e : Hp} (hF : w_lp (fun (s : Hp) => l_208_0 q1 s) n s = some e) (hX0 : (.inl none, e) = o) : ∀ (u2 : Value) (u3 : Value) (u4 : Value), k_Go X 8 208 (0, [.ref (1076 + 1), .ref (q1 + 1), u2, u3, u4], []) s o := by
  exact w_lp_ok (P := (fun (s : Hp) => ∀ (u2 : Value) (u3 : Value) (u4 : Value), k_Go X 8 208 (0, [.ref (1076 + 1), .ref (q1 + 1), u2, u3, u4], []) s o)) (Q := (fun (e : Hp) => ((.inl none, e) = o))) (fun s r hF hK hX => l_208_0_st t1 hF hK (fun x hx => (hX _ hx))) n s e hF hX0
def p_208 (h : Hp) (q1 : Nat) : Option (Hp) :=
  w_lp (fun (s : Hp) => l_208_0 q1 s) w_N h
theorem p_208_ok {X : List Int32}  {h : Hp} {q1 : Nat} (t1 : w_tab[q1]? = some (50, w_len q1, [])) {r : Hp} (hF : p_208 h q1 = some r) : k_Ev X 8 208 [.ref (1076 + 1), .ref (q1 + 1)] h (.inl none, r) := by
  refine k_of hk_208 ?_
  show k_Go X 8 208 (0, [.ref (1076 + 1), .ref (q1 + 1), (.retAddr 0), (.retAddr 0), (.retAddr 0)], []) h _
  unfold p_208 at hF
  exact l_208_0_ok t1 hF rfl _ _ _
-- NotebookWeirModel.isSo(III)Z
theorem hk_210 : jP[210]? = some (jc_210, 3, [], []) := by rfl
def v_210 (x0 : Int32) (x1 : Int32) (x2 : Int32) : Int32 := (if x1 = 60 then (if x0 < x2 then 1 else 0) else (if x1 = 62 then (if x0 ≤ x2 then 0 else 1) else (if x0 = x2 then 1 else 0)))
theorem v_210_bo (x0 : Int32) (x1 : Int32) (x2 : Int32) : w_bo (v_210 x0 x1 x2) = true := by
  unfold v_210
  exact (w_boi (w_boi rfl rfl) (w_boi (w_boi rfl rfl) (w_boi rfl rfl)))
theorem v_210_ok {X : List Int32} {h : Hp} {x0 : Int32} {x1 : Int32} {x2 : Int32}  : k_Ev X 0 210 [.int x0, .int x1, .int x2] h (.inl (some (.int (v_210 x0 x1 x2))), h) := by
  refine k_of hk_210 ?_
  show k_Go X 0 210 (0, [.int x0, .int x1, .int x2], []) h _
  generalize hv : v_210 x0 x1 x2 = z
  unfold v_210 at hv
  refine kg_iload hk_210 rfl rfl rfl ?_
  refine kg_push (x := 60) hk_210 rfl (by decide) rfl ?_
  refine kv_mid (p := 26) (L := [.int x0, .int x1, .int x2]) (S := [.int (if x1 = 60 then (if x0 < x2 then 1 else 0) else (if x1 = 62 then (if x0 ≤ x2 then 0 else 1) else (if x0 = x2 then 1 else 0)))]) ?_ (fun hK => ?_)
  · exact kg_iret hk_210 rfl (Or.inr (w_boi (w_boi rfl rfl) (w_boi (w_boi rfl rfl) (w_boi rfl rfl)))) (by rw [hv])
  · by_cases c1 : x1 = 60
    · have hK := kv_T c1 hK
      refine kg_icF hk_210 rfl (jc_F1 c1) rfl ?_
      refine kg_iload hk_210 rfl rfl rfl ?_
      refine kg_iload hk_210 rfl rfl rfl ?_
      by_cases c2 : x0 < x2
      · have hK := kv_T c2 hK
        refine kg_icF hk_210 rfl (jc_F3 c2) rfl ?_
        refine kg_push (x := 1) hk_210 rfl (by decide) rfl ?_
        refine kg_goto hk_210 rfl ?_
        exact hK
      · have hK := kv_F c2 hK
        refine kg_icT hk_210 rfl (jc_T3 c2) ?_
        refine kg_push (x := 0) hk_210 rfl (by decide) rfl ?_
        refine kg_goto hk_210 rfl ?_
        exact hK
    · have hK := kv_F c1 hK
      refine kg_icT hk_210 rfl (jc_T1 c1) ?_
      refine kg_iload hk_210 rfl rfl rfl ?_
      refine kg_push (x := 62) hk_210 rfl (by decide) rfl ?_
      by_cases c3 : x1 = 62
      · have hK := kv_T c3 hK
        refine kg_icF hk_210 rfl (jc_F1 c3) rfl ?_
        refine kg_iload hk_210 rfl rfl rfl ?_
        refine kg_iload hk_210 rfl rfl rfl ?_
        by_cases c4 : x0 ≤ x2
        · have hK := kv_T c4 hK
          refine kg_icT hk_210 rfl (jc_T5 c4) ?_
          refine kg_push (x := 0) hk_210 rfl (by decide) rfl ?_
          refine kg_goto hk_210 rfl ?_
          exact hK
        · have hK := kv_F c4 hK
          refine kg_icF hk_210 rfl (jc_F5 c4) rfl ?_
          refine kg_push (x := 1) hk_210 rfl (by decide) rfl ?_
          refine kg_goto hk_210 rfl ?_
          exact hK
      · have hK := kv_F c3 hK
        refine kg_icT hk_210 rfl (jc_T1 c3) ?_
        refine kg_iload hk_210 rfl rfl rfl ?_
        refine kg_iload hk_210 rfl rfl rfl ?_
        by_cases c5 : x0 = x2
        · have hK := kv_T c5 hK
          refine kg_icF hk_210 rfl (jc_F1 c5) rfl ?_
          refine kg_push (x := 1) hk_210 rfl (by decide) rfl ?_
          refine kg_goto hk_210 rfl ?_
          exact hK
        · have hK := kv_F c5 hK
          refine kg_icT hk_210 rfl (jc_T1 c5) ?_
          refine kg_push (x := 0) hk_210 rfl (by decide) rfl ?_
          exact hK
