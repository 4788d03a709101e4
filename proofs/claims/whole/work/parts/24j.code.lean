/-! ===== the methods as functions over the flat heap, and that the interpreter does what they say (printed by wip/whole/dec.py) ===== -/
-- NotebookWeirModel.fails(II)V
theorem hk_195 : jP[195]? = some (jc_195, 3, [], []) := by rfl
def q_195_8 (h : Hp) (x1 : Int32) (x2 : Int32) (s0 : Int32) : Option (Hp) :=
  w_let (w_up h 1076 75 s0) fun hz2 =>
  w_let (w_up hz2 1076 76 (if (hz2 1076 75) = x1 then (if (hz2 1076 76) < 0 then x2 else (hz2 1076 76) : Int32) else (hz2 1076 76) : Int32)) fun hz5 =>
  some hz5
theorem q_195_8_ok {X : List Int32}   {h : Hp} {s0 : Int32} {x1 : Int32} {x2 : Int32}  {r : Hp} (hF : q_195_8 h x1 x2 s0 = some r)  : k_Go X 0 195 (8, [.ref (1076 + 1), .int x1, .int x2], [.int s0, .ref (1076 + 1)]) h (.inl none, r) := by
  unfold q_195_8 at hF
  refine wf_let hF (fun hz2 hhz2 hF => ?_)
  refine kg_put hk_195 rfl wk_1076_75 rfl rfl hhz2 rfl ?_
  refine kg_aload hk_195 rfl rfl rfl ?_
  refine kg_aload hk_195 rfl rfl rfl ?_
  refine kg_get (v := .int (hz2 1076 75)) hk_195 rfl wk_1076_75 rfl rfl ?_
  refine kg_iload hk_195 rfl rfl rfl ?_
  refine kv_mid (p := 21) (L := [.ref (1076 + 1), .int x1, .int x2]) (S := [.int (if (hz2 1076 75) = x1 then (if (hz2 1076 76) < 0 then x2 else (hz2 1076 76) : Int32) else (hz2 1076 76) : Int32), .ref (1076 + 1)]) ?_ (fun hK => ?_)
  · refine wf_let hF (fun hz5 hhz5 hF => ?_)
    refine kg_put hk_195 rfl wk_1076_76 rfl rfl hhz5 rfl ?_
    have hF := Option.some.inj hF
    subst hF
    exact kg_ret hk_195 rfl rfl
  · by_cases cz3 : (hz2 1076 75) = x1
    · have hK := kv_T cz3 hK
      refine kg_icF hk_195 rfl (jc_F1 cz3) rfl ?_
      refine kg_aload hk_195 rfl rfl rfl ?_
      refine kg_get (v := .int (hz2 1076 76)) hk_195 rfl wk_1076_76 rfl rfl ?_
      by_cases cz4 : (hz2 1076 76) < 0
      · have hK := kv_T cz4 hK
        refine kg_ifF hk_195 rfl (jc_F3 cz4) rfl ?_
        refine kg_iload hk_195 rfl rfl rfl ?_
        refine kg_goto hk_195 rfl ?_
        exact hK
      · have hK := kv_F cz4 hK
        refine kg_ifT hk_195 rfl (jc_T3 cz4) ?_
        refine kg_aload hk_195 rfl rfl rfl ?_
        refine kg_get (v := .int (hz2 1076 76)) hk_195 rfl wk_1076_76 rfl rfl ?_
        exact hK
    · have hK := kv_F cz3 hK
      refine kg_icT hk_195 rfl (jc_T1 cz3) ?_
      refine kg_aload hk_195 rfl rfl rfl ?_
      refine kg_get (v := .int (hz2 1076 76)) hk_195 rfl wk_1076_76 rfl rfl ?_
      exact hK
def p_195 (h : Hp) (x1 : Int32) (x2 : Int32) : Option (Hp) :=
  q_195_8 h x1 x2 (if (h 1076 75) = 0 then x1 else (h 1076 75) : Int32)
theorem p_195_ok {X : List Int32}  {h : Hp} {x1 : Int32} {x2 : Int32}  {r : Hp} (hF : p_195 h x1 x2 = some r) : k_Ev X 0 195 [.ref (1076 + 1), .int x1, .int x2] h (.inl none, r) := by
  refine k_of hk_195 ?_
  show k_Go X 0 195 (0, [.ref (1076 + 1), .int x1, .int x2], []) h _
  unfold p_195 at hF
  refine kg_aload hk_195 rfl rfl rfl ?_
  refine kg_aload hk_195 rfl rfl rfl ?_
  refine kg_get (v := .int (h 1076 75)) hk_195 rfl wk_1076_75 rfl rfl ?_
  refine kv_mid (p := 8) (L := [.ref (1076 + 1), .int x1, .int x2]) (S := [.int (if (h 1076 75) = 0 then x1 else (h 1076 75) : Int32), .ref (1076 + 1)]) ?_ (fun hK => ?_)
  · exact q_195_8_ok hF
  · by_cases cz1 : (h 1076 75) = 0
    · have hK := kv_T cz1 hK
      refine kg_ifF hk_195 rfl (jc_F1 cz1) rfl ?_
      refine kg_iload hk_195 rfl rfl rfl ?_
      refine kg_goto hk_195 rfl ?_
      exact hK
    · have hK := kv_F cz1 hK
      refine kg_ifT hk_195 rfl (jc_T1 cz1) ?_
      refine kg_aload hk_195 rfl rfl rfl ?_
      refine kg_get (v := .int (h 1076 75)) hk_195 rfl wk_1076_75 rfl rfl ?_
      exact hK
-- NotebookWeirModel.strength(I)I
theorem hk_201 : jP[201]? = some (jc_201, 1, [], []) := by rfl
def v_201 (x0 : Int32) : Int32 := (if x0 = 35 then 3 else (if x0 = 42 then 2 else (if x0 = 43 then 1 else (if x0 = 45 then 1 else 0 : Int32) : Int32) : Int32) : Int32)
theorem v_201_ok {X : List Int32} {h : Hp} {x0 : Int32}  : k_Ev X 0 201 [.int x0] h (.inl (some (.int (v_201 x0))), h) := by
  refine k_of hk_201 ?_
  show k_Go X 0 201 (0, [.int x0], []) h _
  generalize hv : v_201 x0 = z
  unfold v_201 at hv
  refine kg_iload hk_201 rfl rfl rfl ?_
  refine kg_push (x := 35) hk_201 rfl (by decide) rfl ?_
  refine kv_mid (p := 19) (L := [.int x0]) (S := [.int (if x0 = 35 then 3 else (if x0 = 42 then 2 else (if x0 = 43 then 1 else (if x0 = 45 then 1 else 0 : Int32) : Int32) : Int32) : Int32)]) ?_ (fun hK => ?_)
  · exact kg_iret hk_201 rfl (Or.inl rfl) (by rw [hv])
  · by_cases cz1 : x0 = 35
    · have hK := kv_T cz1 hK
      refine kg_icF hk_201 rfl (jc_F1 cz1) rfl ?_
      refine kg_push (x := 3) hk_201 rfl (by decide) rfl ?_
      refine kg_goto hk_201 rfl ?_
      exact hK
    · have hK := kv_F cz1 hK
      refine kg_icT hk_201 rfl (jc_T1 cz1) ?_
      refine kg_iload hk_201 rfl rfl rfl ?_
      refine kg_push (x := 42) hk_201 rfl (by decide) rfl ?_
      by_cases cz2 : x0 = 42
      · have hK := kv_T cz2 hK
        refine kg_icF hk_201 rfl (jc_F1 cz2) rfl ?_
        refine kg_push (x := 2) hk_201 rfl (by decide) rfl ?_
        refine kg_goto hk_201 rfl ?_
        exact hK
      · have hK := kv_F cz2 hK
        refine kg_icT hk_201 rfl (jc_T1 cz2) ?_
        refine kg_iload hk_201 rfl rfl rfl ?_
        refine kg_push (x := 43) hk_201 rfl (by decide) rfl ?_
        by_cases cz3 : x0 = 43
        · have hK := kv_T cz3 hK
          refine kg_icT hk_201 rfl (jc_T0 cz3) ?_
          refine kg_push (x := 1) hk_201 rfl (by decide) rfl ?_
          refine kg_goto hk_201 rfl ?_
          exact hK
        · have hK := kv_F cz3 hK
          refine kg_icF hk_201 rfl (jc_F0 cz3) rfl ?_
          refine kg_iload hk_201 rfl rfl rfl ?_
          refine kg_push (x := 45) hk_201 rfl (by decide) rfl ?_
          by_cases cz4 : x0 = 45
          · have hK := kv_T cz4 hK
            refine kg_icF hk_201 rfl (jc_F1 cz4) rfl ?_
            refine kg_push (x := 1) hk_201 rfl (by decide) rfl ?_
            refine kg_goto hk_201 rfl ?_
            exact hK
          · have hK := kv_F cz4 hK
            refine kg_icT hk_201 rfl (jc_T1 cz4) ?_
            refine kg_push (x := 0) hk_201 rfl (by decide) rfl ?_
            exact hK
-- NotebookWeirModel.isNumber(I)Z
theorem hk_199 : jP[199]? = some (jc_199, 2, [], []) := by rfl
def v_199 (h : Hp) (x1 : Int32) : Int32 := (if (h 1130 (9 * x1).toNatClampNeg) = (-1) then 1 else 0 : Int32)
def g_199 (x1 : Int32) : Bool := w_ix (9 * x1) 400
theorem v_199_bo (h : Hp) (x1 : Int32) : w_bo (v_199 h x1) = true := by
  unfold v_199
  exact (w_boi rfl rfl)
theorem v_199_ok {X : List Int32} {h : Hp} {x1 : Int32}  (hg : g_199 x1 = true) : k_Ev X 0 199 [.ref (1076 + 1), .int x1] h (.inl (some (.int (v_199 h x1))), h) := by
  refine k_of hk_199 ?_
  show k_Go X 0 199 (0, [.ref (1076 + 1), .int x1], []) h _
  generalize hv : v_199 h x1 = z
  unfold v_199 at hv
  unfold g_199 at hg
  have gz1 := hg
  refine kg_aload hk_199 rfl rfl rfl ?_
  refine kg_get (v := .ref (1130 + 1)) hk_199 rfl wk_1076_71 rfl rfl ?_
  refine kg_push (x := 9) hk_199 rfl (by decide) rfl ?_
  refine kg_iload hk_199 rfl rfl rfl ?_
  refine kg_bin (z := (9 * x1)) hk_199 rfl rfl rfl ?_
  refine kg_ald (y := (h 1130 (9 * x1).toNatClampNeg)) hk_199 rfl wc_1130 gz1 rfl rfl ?_
  refine kg_push (x := (-1)) hk_199 rfl (by decide) rfl ?_
  refine kv_mid (p := 11) (L := [.ref (1076 + 1), .int x1]) (S := [.int (if (h 1130 (9 * x1).toNatClampNeg) = (-1) then 1 else 0 : Int32)]) ?_ (fun hK => ?_)
  · exact kg_iret hk_199 rfl (Or.inr (w_boi rfl rfl)) (by rw [hv])
  · by_cases cz2 : (h 1130 (9 * x1).toNatClampNeg) = (-1)
    · have hK := kv_T cz2 hK
      refine kg_icF hk_199 rfl (jc_F1 cz2) rfl ?_
      refine kg_push (x := 1) hk_199 rfl (by decide) rfl ?_
      refine kg_goto hk_199 rfl ?_
      exact hK
    · have hK := kv_F cz2 hK
      refine kg_icT hk_199 rfl (jc_T1 cz2) ?_
      refine kg_push (x := 0) hk_199 rfl (by decide) rfl ?_
      exact hK
-- NotebookWeirModel.does1()V
theorem hk_200 : jP[200]? = some (jc_200, 4, [], []) := by rfl
def q_200_73 (h : Hp) : Option (Hp) :=
  (p_195 h 2 (h 1076 80)).bind fun vz14 =>
  some vz14
theorem q_200_73_ok {X : List Int32}   {h : Hp}  {r : Hp} (hF : q_200_73 h = some r)  : ∀ (u1 : Value) (u2 : Value) (u3 : Value), k_Go X 1 200 (73, [.ref (1076 + 1), u1, u2, u3], []) h (.inl none, r) := by
  intro u1 u2 u3
  unfold q_200_73 at hF
  refine kg_aload hk_200 rfl rfl rfl ?_
  refine kg_push (x := 2) hk_200 rfl (by decide) rfl ?_
  refine kg_aload hk_200 rfl rfl rfl ?_
  refine kg_get (v := .int (h 1076 80)) hk_200 rfl wk_1076_80 rfl rfl ?_
  refine wf_bind hF (fun vz14 hvz14 hF => ?_)
  refine kg_call (as := [.ref (1076 + 1), .int 2, .int (h 1076 80)]) (rest := []) hk_200 rfl (Or.inr (Or.inr (Or.inr ⟨Or.inl rfl, _, _, rfl, wc_1076⟩))) rfl rfl rfl (Nat.not_lt.mpr (Nat.le_of_ble_eq_true rfl)) (p_195_ok hvz14) (by decide) rfl ?_
  have hF := Option.some.inj hF
  subst hF
  exact kg_ret hk_200 rfl rfl
def p_200 (h : Hp) : Option (Hp) :=
  w_let (w_up h 1076 70 ((h 1076 70) - 1)) fun hz1 =>
  w_gd (w_ix (hz1 1076 70) 80) <|
  if (hz1 1128 (hz1 1076 70).toNatClampNeg) = 35 then
    (w_gd (g_199 ((hz1 1076 72) - 1)) <|
    if (v_199 hz1 ((hz1 1076 72) - 1)) = 0 then
      (w_gd (w_ix (9 * ((hz1 1076 72) - 1)) 400) <|
      w_gd (w_ix ((9 * ((hz1 1076 72) - 1)) + 1) 400) <|
      w_let (w_up hz1 1130 (((9 * ((hz1 1076 72) - 1)) + 1).toNatClampNeg) (hz1 1130 (9 * ((hz1 1076 72) - 1)).toNatClampNeg)) fun hz8 =>
      w_gd (w_ix (9 * ((hz8 1076 72) - 1)) 400) <|
      w_let (w_up hz8 1130 ((9 * ((hz8 1076 72) - 1)).toNatClampNeg) (-1)) fun hz10 =>
      some hz10)
    else
      ((p_195 hz1 2 (hz1 1076 80)).bind fun vz11 =>
      some vz11))
  else
    (w_gd (g_199 ((hz1 1076 72) - 1)) <|
    if (v_199 hz1 ((hz1 1076 72) - 1)) = 0 then
      (q_200_73 hz1)
    else
      (w_gd (g_199 ((hz1 1076 72) - 2)) <|
      if (v_199 hz1 ((hz1 1076 72) - 2)) = 0 then
        (q_200_73 hz1)
      else
        (w_gd (w_ix ((9 * ((hz1 1076 72) - 2)) + 1) 400) <|
        w_gd (w_ix ((9 * ((hz1 1076 72) - 1)) + 1) 400) <|
        w_let (w_up hz1 1076 72 ((hz1 1076 72) - 1)) fun hz19 =>
        w_gd (w_ix ((9 * ((hz19 1076 72) - 1)) + 1) 400) <|
        w_let (w_up hz19 1130 (((9 * ((hz19 1076 72) - 1)) + 1).toNatClampNeg) (if (hz1 1128 (hz1 1076 70).toNatClampNeg) = 43 then ((hz1 1130 ((9 * ((hz1 1076 72) - 2)) + 1).toNatClampNeg) + (hz1 1130 ((9 * ((hz1 1076 72) - 1)) + 1).toNatClampNeg)) else (if (hz1 1128 (hz1 1076 70).toNatClampNeg) = 45 then ((hz1 1130 ((9 * ((hz1 1076 72) - 2)) + 1).toNatClampNeg) - (hz1 1130 ((9 * ((hz1 1076 72) - 1)) + 1).toNatClampNeg)) else ((hz1 1130 ((9 * ((hz1 1076 72) - 2)) + 1).toNatClampNeg) * (hz1 1130 ((9 * ((hz1 1076 72) - 1)) + 1).toNatClampNeg)) : Int32) : Int32)) fun hz23 =>
        some hz23)))
theorem p_200_ok {X : List Int32}  {h : Hp}   {r : Hp} (hF : p_200 h = some r) : k_Ev X 1 200 [.ref (1076 + 1)] h (.inl none, r) := by
  refine k_of hk_200 ?_
  show k_Go X 1 200 (0, [.ref (1076 + 1), (.retAddr 0), (.retAddr 0), (.retAddr 0)], []) h _
  unfold p_200 at hF
  refine kg_aload hk_200 rfl rfl rfl ?_
  refine kg_dup hk_200 rfl rfl rfl ?_
  refine kg_get (v := .int (h 1076 70)) hk_200 rfl wk_1076_70 rfl rfl ?_
  refine kg_push (x := 1) hk_200 rfl (by decide) rfl ?_
  refine kg_bin (z := ((h 1076 70) - 1)) hk_200 rfl rfl rfl ?_
  refine wf_let hF (fun hz1 hhz1 hF => ?_)
  refine kg_put hk_200 rfl wk_1076_70 rfl rfl hhz1 rfl ?_
  refine kg_aload hk_200 rfl rfl rfl ?_
  refine kg_get (v := .ref (1128 + 1)) hk_200 rfl wk_1076_68 rfl rfl ?_
  refine kg_aload hk_200 rfl rfl rfl ?_
  refine kg_get (v := .int (hz1 1076 70)) hk_200 rfl wk_1076_70 rfl rfl ?_
  refine wf_gd hF (fun gz2 hF => ?_)
  refine kg_ald (y := (hz1 1128 (hz1 1076 70).toNatClampNeg)) hk_200 rfl wc_1128 gz2 rfl rfl ?_
  refine kg_istore (L2 := [.ref (1076 + 1), .int (hz1 1128 (hz1 1076 70).toNatClampNeg), (.retAddr 0), (.retAddr 0)]) hk_200 rfl (Nat.le_of_ble_eq_true rfl) rfl rfl ?_
  refine kg_iload hk_200 rfl rfl rfl ?_
  refine kg_push (x := 35) hk_200 rfl (by decide) rfl ?_
  refine wf_if hF (fun cz3 hF => ?_) (fun cz3 hF => ?_)
  · refine kg_icF hk_200 rfl (jc_F1 cz3) rfl ?_
    refine kg_aload hk_200 rfl rfl rfl ?_
    refine kg_aload hk_200 rfl rfl rfl ?_
    refine kg_get (v := .int (hz1 1076 72)) hk_200 rfl wk_1076_72 rfl rfl ?_
    refine kg_push (x := 1) hk_200 rfl (by decide) rfl ?_
    refine kg_bin (z := ((hz1 1076 72) - 1)) hk_200 rfl rfl rfl ?_
    refine wf_gd hF (fun gz4 hF => ?_)
    refine kg_call (as := [.ref (1076 + 1), .int ((hz1 1076 72) - 1)]) (rest := []) hk_200 rfl (Or.inr (Or.inr (Or.inr ⟨Or.inl rfl, _, _, rfl, wc_1076⟩))) rfl rfl rfl (Nat.not_lt.mpr (Nat.le_of_ble_eq_true rfl)) (v_199_ok gz4) (by decide) rfl ?_
    refine wf_if hF (fun cz5 hF => ?_) (fun cz5 hF => ?_)
    · refine kg_ifT hk_200 rfl (jc_T0 cz5) ?_
      refine kg_aload hk_200 rfl rfl rfl ?_
      refine kg_get (v := .ref (1130 + 1)) hk_200 rfl wk_1076_71 rfl rfl ?_
      refine kg_push (x := 9) hk_200 rfl (by decide) rfl ?_
      refine kg_aload hk_200 rfl rfl rfl ?_
      refine kg_get (v := .int (hz1 1076 72)) hk_200 rfl wk_1076_72 rfl rfl ?_
      refine kg_push (x := 1) hk_200 rfl (by decide) rfl ?_
      refine kg_bin (z := ((hz1 1076 72) - 1)) hk_200 rfl rfl rfl ?_
      refine kg_bin (z := (9 * ((hz1 1076 72) - 1))) hk_200 rfl rfl rfl ?_
      refine kg_push (x := 1) hk_200 rfl (by decide) rfl ?_
      refine kg_bin (z := ((9 * ((hz1 1076 72) - 1)) + 1)) hk_200 rfl rfl rfl ?_
      refine kg_aload hk_200 rfl rfl rfl ?_
      refine kg_get (v := .ref (1130 + 1)) hk_200 rfl wk_1076_71 rfl rfl ?_
      refine kg_push (x := 9) hk_200 rfl (by decide) rfl ?_
      refine kg_aload hk_200 rfl rfl rfl ?_
      refine kg_get (v := .int (hz1 1076 72)) hk_200 rfl wk_1076_72 rfl rfl ?_
      refine kg_push (x := 1) hk_200 rfl (by decide) rfl ?_
      refine kg_bin (z := ((hz1 1076 72) - 1)) hk_200 rfl rfl rfl ?_
      refine kg_bin (z := (9 * ((hz1 1076 72) - 1))) hk_200 rfl rfl rfl ?_
      refine wf_gd hF (fun gz6 hF => ?_)
      refine kg_ald (y := (hz1 1130 (9 * ((hz1 1076 72) - 1)).toNatClampNeg)) hk_200 rfl wc_1130 gz6 rfl rfl ?_
      refine wf_gd hF (fun gz7 hF => ?_)
      refine wf_let hF (fun hz8 hhz8 hF => ?_)
      refine kg_ast hk_200 rfl wc_1130 gz7 hhz8 rfl ?_
      refine kg_aload hk_200 rfl rfl rfl ?_
      refine kg_get (v := .ref (1130 + 1)) hk_200 rfl wk_1076_71 rfl rfl ?_
      refine kg_push (x := 9) hk_200 rfl (by decide) rfl ?_
      refine kg_aload hk_200 rfl rfl rfl ?_
      refine kg_get (v := .int (hz8 1076 72)) hk_200 rfl wk_1076_72 rfl rfl ?_
      refine kg_push (x := 1) hk_200 rfl (by decide) rfl ?_
      refine kg_bin (z := ((hz8 1076 72) - 1)) hk_200 rfl rfl rfl ?_
      refine kg_bin (z := (9 * ((hz8 1076 72) - 1))) hk_200 rfl rfl rfl ?_
      refine kg_push (x := (-1)) hk_200 rfl (by decide) rfl ?_
      refine wf_gd hF (fun gz9 hF => ?_)
      refine wf_let hF (fun hz10 hhz10 hF => ?_)
      refine kg_ast hk_200 rfl wc_1130 gz9 hhz10 rfl ?_
      have hF := Option.some.inj hF
      subst hF
      exact kg_ret hk_200 rfl rfl
    · refine kg_ifF hk_200 rfl (jc_F0 cz5) rfl ?_
      refine kg_aload hk_200 rfl rfl rfl ?_
      refine kg_push (x := 2) hk_200 rfl (by decide) rfl ?_
      refine kg_aload hk_200 rfl rfl rfl ?_
      refine kg_get (v := .int (hz1 1076 80)) hk_200 rfl wk_1076_80 rfl rfl ?_
      refine wf_bind hF (fun vz11 hvz11 hF => ?_)
      refine kg_call (as := [.ref (1076 + 1), .int 2, .int (hz1 1076 80)]) (rest := []) hk_200 rfl (Or.inr (Or.inr (Or.inr ⟨Or.inl rfl, _, _, rfl, wc_1076⟩))) rfl rfl rfl (Nat.not_lt.mpr (Nat.le_of_ble_eq_true rfl)) (p_195_ok hvz11) (by decide) rfl ?_
      have hF := Option.some.inj hF
      subst hF
      exact kg_ret hk_200 rfl rfl
  · refine kg_icT hk_200 rfl (jc_T1 cz3) ?_
    refine kg_aload hk_200 rfl rfl rfl ?_
    refine kg_aload hk_200 rfl rfl rfl ?_
    refine kg_get (v := .int (hz1 1076 72)) hk_200 rfl wk_1076_72 rfl rfl ?_
    refine kg_push (x := 1) hk_200 rfl (by decide) rfl ?_
    refine kg_bin (z := ((hz1 1076 72) - 1)) hk_200 rfl rfl rfl ?_
    refine wf_gd hF (fun gz12 hF => ?_)
    refine kg_call (as := [.ref (1076 + 1), .int ((hz1 1076 72) - 1)]) (rest := []) hk_200 rfl (Or.inr (Or.inr (Or.inr ⟨Or.inl rfl, _, _, rfl, wc_1076⟩))) rfl rfl rfl (Nat.not_lt.mpr (Nat.le_of_ble_eq_true rfl)) (v_199_ok gz12) (by decide) rfl ?_
    refine wf_if hF (fun cz13 hF => ?_) (fun cz13 hF => ?_)
    · refine kg_ifT hk_200 rfl (jc_T0 cz13) ?_
      exact q_200_73_ok hF _ _ _
    · refine kg_ifF hk_200 rfl (jc_F0 cz13) rfl ?_
      refine kg_aload hk_200 rfl rfl rfl ?_
      refine kg_aload hk_200 rfl rfl rfl ?_
      refine kg_get (v := .int (hz1 1076 72)) hk_200 rfl wk_1076_72 rfl rfl ?_
      refine kg_push (x := 2) hk_200 rfl (by decide) rfl ?_
      refine kg_bin (z := ((hz1 1076 72) - 2)) hk_200 rfl rfl rfl ?_
      refine wf_gd hF (fun gz15 hF => ?_)
      refine kg_call (as := [.ref (1076 + 1), .int ((hz1 1076 72) - 2)]) (rest := []) hk_200 rfl (Or.inr (Or.inr (Or.inr ⟨Or.inl rfl, _, _, rfl, wc_1076⟩))) rfl rfl rfl (Nat.not_lt.mpr (Nat.le_of_ble_eq_true rfl)) (v_199_ok gz15) (by decide) rfl ?_
      refine wf_if hF (fun cz16 hF => ?_) (fun cz16 hF => ?_)
      · refine kg_ifF hk_200 rfl (jc_F1 cz16) rfl ?_
        exact q_200_73_ok hF _ _ _
      · refine kg_ifT hk_200 rfl (jc_T1 cz16) ?_
        refine kg_aload hk_200 rfl rfl rfl ?_
        refine kg_get (v := .ref (1130 + 1)) hk_200 rfl wk_1076_71 rfl rfl ?_
        refine kg_push (x := 9) hk_200 rfl (by decide) rfl ?_
        refine kg_aload hk_200 rfl rfl rfl ?_
        refine kg_get (v := .int (hz1 1076 72)) hk_200 rfl wk_1076_72 rfl rfl ?_
        refine kg_push (x := 2) hk_200 rfl (by decide) rfl ?_
        refine kg_bin (z := ((hz1 1076 72) - 2)) hk_200 rfl rfl rfl ?_
        refine kg_bin (z := (9 * ((hz1 1076 72) - 2))) hk_200 rfl rfl rfl ?_
        refine kg_push (x := 1) hk_200 rfl (by decide) rfl ?_
        refine kg_bin (z := ((9 * ((hz1 1076 72) - 2)) + 1)) hk_200 rfl rfl rfl ?_
        refine wf_gd hF (fun gz17 hF => ?_)
        refine kg_ald (y := (hz1 1130 ((9 * ((hz1 1076 72) - 2)) + 1).toNatClampNeg)) hk_200 rfl wc_1130 gz17 rfl rfl ?_
        refine kg_istore (L2 := [.ref (1076 + 1), .int (hz1 1128 (hz1 1076 70).toNatClampNeg), .int (hz1 1130 ((9 * ((hz1 1076 72) - 2)) + 1).toNatClampNeg), (.retAddr 0)]) hk_200 rfl (Nat.le_of_ble_eq_true rfl) rfl rfl ?_
        refine kg_aload hk_200 rfl rfl rfl ?_
        refine kg_get (v := .ref (1130 + 1)) hk_200 rfl wk_1076_71 rfl rfl ?_
        refine kg_push (x := 9) hk_200 rfl (by decide) rfl ?_
        refine kg_aload hk_200 rfl rfl rfl ?_
        refine kg_get (v := .int (hz1 1076 72)) hk_200 rfl wk_1076_72 rfl rfl ?_
        refine kg_push (x := 1) hk_200 rfl (by decide) rfl ?_
        refine kg_bin (z := ((hz1 1076 72) - 1)) hk_200 rfl rfl rfl ?_
        refine kg_bin (z := (9 * ((hz1 1076 72) - 1))) hk_200 rfl rfl rfl ?_
        refine kg_push (x := 1) hk_200 rfl (by decide) rfl ?_
        refine kg_bin (z := ((9 * ((hz1 1076 72) - 1)) + 1)) hk_200 rfl rfl rfl ?_
        refine wf_gd hF (fun gz18 hF => ?_)
        refine kg_ald (y := (hz1 1130 ((9 * ((hz1 1076 72) - 1)) + 1).toNatClampNeg)) hk_200 rfl wc_1130 gz18 rfl rfl ?_
        refine kg_istore (L2 := [.ref (1076 + 1), .int (hz1 1128 (hz1 1076 70).toNatClampNeg), .int (hz1 1130 ((9 * ((hz1 1076 72) - 2)) + 1).toNatClampNeg), .int (hz1 1130 ((9 * ((hz1 1076 72) - 1)) + 1).toNatClampNeg)]) hk_200 rfl (Nat.le_of_ble_eq_true rfl) rfl rfl ?_
        refine kg_aload hk_200 rfl rfl rfl ?_
        refine kg_dup hk_200 rfl rfl rfl ?_
        refine kg_get (v := .int (hz1 1076 72)) hk_200 rfl wk_1076_72 rfl rfl ?_
        refine kg_push (x := 1) hk_200 rfl (by decide) rfl ?_
        refine kg_bin (z := ((hz1 1076 72) - 1)) hk_200 rfl rfl rfl ?_
        refine wf_let hF (fun hz19 hhz19 hF => ?_)
        refine kg_put hk_200 rfl wk_1076_72 rfl rfl hhz19 rfl ?_
        refine kg_aload hk_200 rfl rfl rfl ?_
        refine kg_get (v := .ref (1130 + 1)) hk_200 rfl wk_1076_71 rfl rfl ?_
        refine kg_push (x := 9) hk_200 rfl (by decide) rfl ?_
        refine kg_aload hk_200 rfl rfl rfl ?_
        refine kg_get (v := .int (hz19 1076 72)) hk_200 rfl wk_1076_72 rfl rfl ?_
        refine kg_push (x := 1) hk_200 rfl (by decide) rfl ?_
        refine kg_bin (z := ((hz19 1076 72) - 1)) hk_200 rfl rfl rfl ?_
        refine kg_bin (z := (9 * ((hz19 1076 72) - 1))) hk_200 rfl rfl rfl ?_
        refine kg_push (x := 1) hk_200 rfl (by decide) rfl ?_
        refine kg_bin (z := ((9 * ((hz19 1076 72) - 1)) + 1)) hk_200 rfl rfl rfl ?_
        refine kg_iload hk_200 rfl rfl rfl ?_
        refine kg_push (x := 43) hk_200 rfl (by decide) rfl ?_
        refine kv_mid (p := 136) (L := [.ref (1076 + 1), .int (hz1 1128 (hz1 1076 70).toNatClampNeg), .int (hz1 1130 ((9 * ((hz1 1076 72) - 2)) + 1).toNatClampNeg), .int (hz1 1130 ((9 * ((hz1 1076 72) - 1)) + 1).toNatClampNeg)]) (S := [.int (if (hz1 1128 (hz1 1076 70).toNatClampNeg) = 43 then ((hz1 1130 ((9 * ((hz1 1076 72) - 2)) + 1).toNatClampNeg) + (hz1 1130 ((9 * ((hz1 1076 72) - 1)) + 1).toNatClampNeg)) else (if (hz1 1128 (hz1 1076 70).toNatClampNeg) = 45 then ((hz1 1130 ((9 * ((hz1 1076 72) - 2)) + 1).toNatClampNeg) - (hz1 1130 ((9 * ((hz1 1076 72) - 1)) + 1).toNatClampNeg)) else ((hz1 1130 ((9 * ((hz1 1076 72) - 2)) + 1).toNatClampNeg) * (hz1 1130 ((9 * ((hz1 1076 72) - 1)) + 1).toNatClampNeg)) : Int32) : Int32), .int ((9 * ((hz19 1076 72) - 1)) + 1), .ref (1130 + 1)]) ?_ (fun hK => ?_)
        · refine wf_gd hF (fun gz22 hF => ?_)
          refine wf_let hF (fun hz23 hhz23 hF => ?_)
          refine kg_ast hk_200 rfl wc_1130 gz22 hhz23 rfl ?_
          have hF := Option.some.inj hF
          subst hF
          exact kg_ret hk_200 rfl rfl
        · by_cases cz20 : (hz1 1128 (hz1 1076 70).toNatClampNeg) = 43
          · have hK := kv_T cz20 hK
            refine kg_icF hk_200 rfl (jc_F1 cz20) rfl ?_
            refine kg_iload hk_200 rfl rfl rfl ?_
            refine kg_iload hk_200 rfl rfl rfl ?_
            refine kg_bin (z := ((hz1 1130 ((9 * ((hz1 1076 72) - 2)) + 1).toNatClampNeg) + (hz1 1130 ((9 * ((hz1 1076 72) - 1)) + 1).toNatClampNeg))) hk_200 rfl rfl rfl ?_
            refine kg_goto hk_200 rfl ?_
            exact hK
          · have hK := kv_F cz20 hK
            refine kg_icT hk_200 rfl (jc_T1 cz20) ?_
            refine kg_iload hk_200 rfl rfl rfl ?_
            refine kg_push (x := 45) hk_200 rfl (by decide) rfl ?_
            by_cases cz21 : (hz1 1128 (hz1 1076 70).toNatClampNeg) = 45
            · have hK := kv_T cz21 hK
              refine kg_icF hk_200 rfl (jc_F1 cz21) rfl ?_
              refine kg_iload hk_200 rfl rfl rfl ?_
              refine kg_iload hk_200 rfl rfl rfl ?_
              refine kg_bin (z := ((hz1 1130 ((9 * ((hz1 1076 72) - 2)) + 1).toNatClampNeg) - (hz1 1130 ((9 * ((hz1 1076 72) - 1)) + 1).toNatClampNeg))) hk_200 rfl rfl rfl ?_
              refine kg_goto hk_200 rfl ?_
              exact hK
            · have hK := kv_F cz21 hK
              refine kg_icT hk_200 rfl (jc_T1 cz21) ?_
              refine kg_iload hk_200 rfl rfl rfl ?_
              refine kg_iload hk_200 rfl rfl rfl ?_
              refine kg_bin (z := ((hz1 1130 ((9 * ((hz1 1076 72) - 2)) + 1).toNatClampNeg) * (hz1 1130 ((9 * ((hz1 1076 72) - 1)) + 1).toNatClampNeg))) hk_200 rfl rfl rfl ?_
              exact hK
-- NotebookWeirModel.doesDown(I)V
theorem hk_202 : jP[202]? = some (jc_202, 2, [], []) := by rfl
def l_202_0 (x1 : Int32) (h : Hp) : Option ((Hp) ⊕ Hp) :=
  if (h 1076 75) = 0 then
    (if (h 1076 70) ≤ 0 then
      (some (.inr h))
    else
      (w_gd (w_ix ((h 1076 70) - 1) 80) <|
      if (v_201 (h 1128 ((h 1076 70) - 1).toNatClampNeg)) < x1 then
        (some (.inr h))
      else
        ((p_200 h).bind fun vz5 =>
        some (.inl vz5))))
  else
    (some (.inr h))
theorem l_202_0_st {X : List Int32} {o : kO}  {h : Hp} {x1 : Int32}  {r : (Hp) ⊕ Hp} (hF : l_202_0 x1 h = some r) (hK : ∀ s' : Hp, r = .inl s' → k_Go X 2 202 (0, [.ref (1076 + 1), .int x1], []) s' o) (hX0 : ∀ e : Hp, r = .inr e → (.inl none, e) = o) : k_Go X 2 202 (0, [.ref (1076 + 1), .int x1], []) h o := by
  refine kg_aload hk_202 rfl rfl rfl ?_
  refine kg_get (v := .int (h 1076 75)) hk_202 rfl wk_1076_75 rfl rfl ?_
  refine wf_if hF (fun cz1 hF => ?_) (fun cz1 hF => ?_)
  · refine kg_ifF hk_202 rfl (jc_F1 cz1) rfl ?_
    refine kg_aload hk_202 rfl rfl rfl ?_
    refine kg_get (v := .int (h 1076 70)) hk_202 rfl wk_1076_70 rfl rfl ?_
    refine wf_if hF (fun cz2 hF => ?_) (fun cz2 hF => ?_)
    · refine kg_ifT hk_202 rfl (jc_T5 cz2) ?_
      have hF := Option.some.inj hF
      exact kg_ret hk_202 rfl (hX0 _ hF.symm)
    · refine kg_ifF hk_202 rfl (jc_F5 cz2) rfl ?_
      refine kg_aload hk_202 rfl rfl rfl ?_
      refine kg_get (v := .ref (1128 + 1)) hk_202 rfl wk_1076_68 rfl rfl ?_
      refine kg_aload hk_202 rfl rfl rfl ?_
      refine kg_get (v := .int (h 1076 70)) hk_202 rfl wk_1076_70 rfl rfl ?_
      refine kg_push (x := 1) hk_202 rfl (by decide) rfl ?_
      refine kg_bin (z := ((h 1076 70) - 1)) hk_202 rfl rfl rfl ?_
      refine wf_gd hF (fun gz3 hF => ?_)
      refine kg_ald (y := (h 1128 ((h 1076 70) - 1).toNatClampNeg)) hk_202 rfl wc_1128 gz3 rfl rfl ?_
      refine kg_call (as := [.int (h 1128 ((h 1076 70) - 1).toNatClampNeg)]) (rest := []) hk_202 rfl (Or.inl rfl) rfl rfl rfl (Nat.not_lt.mpr (Nat.le_of_ble_eq_true rfl)) (v_201_ok) (by decide) rfl ?_
      refine kg_iload hk_202 rfl rfl rfl ?_
      refine wf_if hF (fun cz4 hF => ?_) (fun cz4 hF => ?_)
      · refine kg_icT hk_202 rfl (jc_T2 cz4) ?_
        have hF := Option.some.inj hF
        exact kg_ret hk_202 rfl (hX0 _ hF.symm)
      · refine kg_icF hk_202 rfl (jc_F2 cz4) rfl ?_
        refine kg_aload hk_202 rfl rfl rfl ?_
        refine wf_bind hF (fun vz5 hvz5 hF => ?_)
        refine kg_call (as := [.ref (1076 + 1)]) (rest := []) hk_202 rfl (Or.inr (Or.inr (Or.inr ⟨Or.inl rfl, _, _, rfl, wc_1076⟩))) rfl rfl rfl (Nat.not_lt.mpr (Nat.le_of_ble_eq_true rfl)) (p_200_ok hvz5) (by decide) rfl ?_
        refine kg_goto hk_202 rfl ?_
        have hF := Option.some.inj hF
        exact hK _ hF.symm
  · refine kg_ifT hk_202 rfl (jc_T1 cz1) ?_
    have hF := Option.some.inj hF
    exact kg_ret hk_202 rfl (hX0 _ hF.symm)
theorem l_202_0_ok {X : List Int32} {o : kO}  {x1 : Int32}  {n : Nat} {s : Hp} {e : Hp} (hF : w_lp (fun (s : Hp) => l_202_0 x1 s) n s = some e) (hX0 : (.inl none, e) = o) : k_Go X 2 202 (0, [.ref (1076 + 1), .int x1], []) s o := by
  exact w_lp_ok (P := (fun (s : Hp) => k_Go X 2 202 (0, [.ref (1076 + 1), .int x1], []) s o)) (Q := (fun (e : Hp) => ((.inl none, e) = o))) (fun s r hF hK hX => l_202_0_st hF hK (fun x hx => (hX _ hx))) n s e hF hX0
def p_202 (h : Hp) (x1 : Int32) : Option (Hp) :=
  w_lp (fun (s : Hp) => l_202_0 x1 s) w_N h
theorem p_202_ok {X : List Int32}  {h : Hp} {x1 : Int32}  {r : Hp} (hF : p_202 h x1 = some r) : k_Ev X 2 202 [.ref (1076 + 1), .int x1] h (.inl none, r) := by
  refine k_of hk_202 ?_
  show k_Go X 2 202 (0, [.ref (1076 + 1), .int x1], []) h _
  unfold p_202 at hF
  exact l_202_0_ok hF rfl
-- NotebookWeirModel.opens(I)V
theorem hk_203 : jP[203]? = some (jc_203, 2, [], []) := by rfl
def p_203 (h : Hp) (x1 : Int32) : Option (Hp) :=
  w_gd (w_ix (h 1076 70) 80) <|
  w_let (w_up h 1128 ((h 1076 70).toNatClampNeg) x1) fun hz2 =>
  w_gd (w_ix (hz2 1076 70) 80) <|
  w_let (w_up hz2 1129 ((hz2 1076 70).toNatClampNeg) 1) fun hz4 =>
  w_let (w_up hz4 1076 70 ((hz4 1076 70) + 1)) fun hz5 =>
  some hz5
theorem p_203_ok {X : List Int32}  {h : Hp} {x1 : Int32}  {r : Hp} (hF : p_203 h x1 = some r) : k_Ev X 0 203 [.ref (1076 + 1), .int x1] h (.inl none, r) := by
  refine k_of hk_203 ?_
  show k_Go X 0 203 (0, [.ref (1076 + 1), .int x1], []) h _
  unfold p_203 at hF
  refine kg_aload hk_203 rfl rfl rfl ?_
  refine kg_get (v := .ref (1128 + 1)) hk_203 rfl wk_1076_68 rfl rfl ?_
  refine kg_aload hk_203 rfl rfl rfl ?_
  refine kg_get (v := .int (h 1076 70)) hk_203 rfl wk_1076_70 rfl rfl ?_
  refine kg_iload hk_203 rfl rfl rfl ?_
  refine wf_gd hF (fun gz1 hF => ?_)
  refine wf_let hF (fun hz2 hhz2 hF => ?_)
  refine kg_ast hk_203 rfl wc_1128 gz1 hhz2 rfl ?_
  refine kg_aload hk_203 rfl rfl rfl ?_
  refine kg_get (v := .ref (1129 + 1)) hk_203 rfl wk_1076_69 rfl rfl ?_
  refine kg_aload hk_203 rfl rfl rfl ?_
  refine kg_get (v := .int (hz2 1076 70)) hk_203 rfl wk_1076_70 rfl rfl ?_
  refine kg_push (x := 1) hk_203 rfl (by decide) rfl ?_
  refine wf_gd hF (fun gz3 hF => ?_)
  refine wf_let hF (fun hz4 hhz4 hF => ?_)
  refine kg_ast hk_203 rfl wc_1129 gz3 hhz4 rfl ?_
  refine kg_aload hk_203 rfl rfl rfl ?_
  refine kg_dup hk_203 rfl rfl rfl ?_
  refine kg_get (v := .int (hz4 1076 70)) hk_203 rfl wk_1076_70 rfl rfl ?_
  refine kg_push (x := 1) hk_203 rfl (by decide) rfl ?_
  refine kg_bin (z := ((hz4 1076 70) + 1)) hk_203 rfl rfl rfl ?_
  refine wf_let hF (fun hz5 hhz5 hF => ?_)
  refine kg_put hk_203 rfl wk_1076_70 rfl rfl hhz5 rfl ?_
  have hF := Option.some.inj hF
  subst hF
  exact kg_ret hk_203 rfl rfl
-- NotebookWeirModel.pushes(I)V
theorem hk_196 : jP[196]? = some (jc_196, 2, [], []) := by rfl
def p_196 (h : Hp) (x1 : Int32) : Option (Hp) :=
  w_gd (w_ix (9 * (h 1076 72)) 400) <|
  w_let (w_up h 1130 ((9 * (h 1076 72)).toNatClampNeg) (-1)) fun hz2 =>
  w_gd (w_ix ((9 * (hz2 1076 72)) + 1) 400) <|
  w_let (w_up hz2 1130 (((9 * (hz2 1076 72)) + 1).toNatClampNeg) x1) fun hz4 =>
  w_let (w_up hz4 1076 72 ((hz4 1076 72) + 1)) fun hz5 =>
  some hz5
theorem p_196_ok {X : List Int32}  {h : Hp} {x1 : Int32}  {r : Hp} (hF : p_196 h x1 = some r) : k_Ev X 0 196 [.ref (1076 + 1), .int x1] h (.inl none, r) := by
  refine k_of hk_196 ?_
  show k_Go X 0 196 (0, [.ref (1076 + 1), .int x1], []) h _
  unfold p_196 at hF
  refine kg_aload hk_196 rfl rfl rfl ?_
  refine kg_get (v := .ref (1130 + 1)) hk_196 rfl wk_1076_71 rfl rfl ?_
  refine kg_push (x := 9) hk_196 rfl (by decide) rfl ?_
  refine kg_aload hk_196 rfl rfl rfl ?_
  refine kg_get (v := .int (h 1076 72)) hk_196 rfl wk_1076_72 rfl rfl ?_
  refine kg_bin (z := (9 * (h 1076 72))) hk_196 rfl rfl rfl ?_
  refine kg_push (x := (-1)) hk_196 rfl (by decide) rfl ?_
  refine wf_gd hF (fun gz1 hF => ?_)
  refine wf_let hF (fun hz2 hhz2 hF => ?_)
  refine kg_ast hk_196 rfl wc_1130 gz1 hhz2 rfl ?_
  refine kg_aload hk_196 rfl rfl rfl ?_
  refine kg_get (v := .ref (1130 + 1)) hk_196 rfl wk_1076_71 rfl rfl ?_
  refine kg_push (x := 9) hk_196 rfl (by decide) rfl ?_
  refine kg_aload hk_196 rfl rfl rfl ?_
  refine kg_get (v := .int (hz2 1076 72)) hk_196 rfl wk_1076_72 rfl rfl ?_
  refine kg_bin (z := (9 * (hz2 1076 72))) hk_196 rfl rfl rfl ?_
  refine kg_push (x := 1) hk_196 rfl (by decide) rfl ?_
  refine kg_bin (z := ((9 * (hz2 1076 72)) + 1)) hk_196 rfl rfl rfl ?_
  refine kg_iload hk_196 rfl rfl rfl ?_
  refine wf_gd hF (fun gz3 hF => ?_)
  refine wf_let hF (fun hz4 hhz4 hF => ?_)
  refine kg_ast hk_196 rfl wc_1130 gz3 hhz4 rfl ?_
  refine kg_aload hk_196 rfl rfl rfl ?_
  refine kg_dup hk_196 rfl rfl rfl ?_
  refine kg_get (v := .int (hz4 1076 72)) hk_196 rfl wk_1076_72 rfl rfl ?_
  refine kg_push (x := 1) hk_196 rfl (by decide) rfl ?_
  refine kg_bin (z := ((hz4 1076 72) + 1)) hk_196 rfl rfl rfl ?_
  refine wf_let hF (fun hz5 hhz5 hF => ?_)
  refine kg_put hk_196 rfl wk_1076_72 rfl rfl hhz5 rfl ?_
  have hF := Option.some.inj hF
  subst hF
  exact kg_ret hk_196 rfl rfl
-- NotebookWeirModel.pushesName(I)V
theorem hk_197 : jP[197]? = some (jc_197, 2, [], []) := by rfl
def p_197 (h : Hp) (x1 : Int32) : Option (Hp) :=
  if ((h 1076 74) &&& (v_162 x1)) = 0 then
    ((p_194 h (h 1076 77) x1).bind fun vz2 =>
    if vz2.1 = 0 then
      ((p_195 vz2.2 1 (vz2.2 1076 80)).bind fun vz4 =>
      some vz4)
    else
      ((p_193 vz2.2 1132 0 1130 (9 * (vz2.2 1076 72))).bind fun vz5 =>
      w_let (w_up vz5 1076 72 ((vz5 1076 72) + 1)) fun hz6 =>
      some hz6))
  else
    ((p_193 h 1131 (9 * (x1 - 97)) 1130 (9 * (h 1076 72))).bind fun vz7 =>
    w_let (w_up vz7 1076 72 ((vz7 1076 72) + 1)) fun hz8 =>
    some hz8)
theorem p_197_ok {X : List Int32}  {h : Hp} {x1 : Int32}  {r : Hp} (hF : p_197 h x1 = some r) : k_Ev X 5 197 [.ref (1076 + 1), .int x1] h (.inl none, r) := by
  refine k_of hk_197 ?_
  show k_Go X 5 197 (0, [.ref (1076 + 1), .int x1], []) h _
  unfold p_197 at hF
  refine kg_aload hk_197 rfl rfl rfl ?_
  refine kg_get (v := .int (h 1076 74)) hk_197 rfl wk_1076_74 rfl rfl ?_
  refine kg_iload hk_197 rfl rfl rfl ?_
  refine kg_call (as := [.int x1]) (rest := [.int (h 1076 74)]) hk_197 rfl (Or.inl rfl) rfl rfl rfl (Nat.not_lt.mpr (Nat.le_of_ble_eq_true rfl)) (v_162_ok) (by decide) rfl ?_
  refine kg_bin (z := ((h 1076 74) &&& (v_162 x1))) hk_197 rfl rfl rfl ?_
  refine wf_if hF (fun cz1 hF => ?_) (fun cz1 hF => ?_)
  · refine kg_ifT hk_197 rfl (jc_T0 cz1) ?_
    refine kg_aload hk_197 rfl rfl rfl ?_
    refine kg_aload hk_197 rfl rfl rfl ?_
    refine kg_get (v := .int (h 1076 77)) hk_197 rfl wk_1076_77 rfl rfl ?_
    refine kg_iload hk_197 rfl rfl rfl ?_
    refine wf_bind hF (fun vz2 hvz2 hF => ?_)
    refine kg_call (as := [.ref (1076 + 1), .int (h 1076 77), .int x1]) (rest := []) hk_197 rfl (Or.inr (Or.inr (Or.inr ⟨Or.inl rfl, _, _, rfl, wc_1076⟩))) rfl rfl rfl (Nat.not_lt.mpr (Nat.le_of_ble_eq_true rfl)) (p_194_ok hvz2) (by decide) rfl ?_
    refine wf_if hF (fun cz3 hF => ?_) (fun cz3 hF => ?_)
    · refine kg_ifT hk_197 rfl (jc_T0 cz3) ?_
      refine kg_aload hk_197 rfl rfl rfl ?_
      refine kg_push (x := 1) hk_197 rfl (by decide) rfl ?_
      refine kg_aload hk_197 rfl rfl rfl ?_
      refine kg_get (v := .int (vz2.2 1076 80)) hk_197 rfl wk_1076_80 rfl rfl ?_
      refine wf_bind hF (fun vz4 hvz4 hF => ?_)
      refine kg_call (as := [.ref (1076 + 1), .int 1, .int (vz2.2 1076 80)]) (rest := []) hk_197 rfl (Or.inr (Or.inr (Or.inr ⟨Or.inl rfl, _, _, rfl, wc_1076⟩))) rfl rfl rfl (Nat.not_lt.mpr (Nat.le_of_ble_eq_true rfl)) (p_195_ok hvz4) (by decide) rfl ?_
      have hF := Option.some.inj hF
      subst hF
      exact kg_ret hk_197 rfl rfl
    · refine kg_ifF hk_197 rfl (jc_F0 cz3) rfl ?_
      refine kg_aload hk_197 rfl rfl rfl ?_
      refine kg_aload hk_197 rfl rfl rfl ?_
      refine kg_get (v := .ref (1132 + 1)) hk_197 rfl wk_1076_78 rfl rfl ?_
      refine kg_push (x := 0) hk_197 rfl (by decide) rfl ?_
      refine kg_aload hk_197 rfl rfl rfl ?_
      refine kg_get (v := .ref (1130 + 1)) hk_197 rfl wk_1076_71 rfl rfl ?_
      refine kg_push (x := 9) hk_197 rfl (by decide) rfl ?_
      refine kg_aload hk_197 rfl rfl rfl ?_
      refine kg_get (v := .int (vz2.2 1076 72)) hk_197 rfl wk_1076_72 rfl rfl ?_
      refine kg_bin (z := (9 * (vz2.2 1076 72))) hk_197 rfl rfl rfl ?_
      refine wf_bind hF (fun vz5 hvz5 hF => ?_)
      refine kg_call (as := [.ref (1076 + 1), .ref (1132 + 1), .int 0, .ref (1130 + 1), .int (9 * (vz2.2 1076 72))]) (rest := []) hk_197 rfl (Or.inr (Or.inr (Or.inr ⟨Or.inl rfl, _, _, rfl, wc_1076⟩))) rfl rfl rfl (Nat.not_lt.mpr (Nat.le_of_ble_eq_true rfl)) (p_193_ok (w_lenE wc_1132) (w_lenE wc_1130) hvz5) (by decide) rfl ?_
      refine kg_aload hk_197 rfl rfl rfl ?_
      refine kg_dup hk_197 rfl rfl rfl ?_
      refine kg_get (v := .int (vz5 1076 72)) hk_197 rfl wk_1076_72 rfl rfl ?_
      refine kg_push (x := 1) hk_197 rfl (by decide) rfl ?_
      refine kg_bin (z := ((vz5 1076 72) + 1)) hk_197 rfl rfl rfl ?_
      refine wf_let hF (fun hz6 hhz6 hF => ?_)
      refine kg_put hk_197 rfl wk_1076_72 rfl rfl hhz6 rfl ?_
      refine kg_goto hk_197 rfl ?_
      have hF := Option.some.inj hF
      subst hF
      exact kg_ret hk_197 rfl rfl
  · refine kg_ifF hk_197 rfl (jc_F0 cz1) rfl ?_
    refine kg_aload hk_197 rfl rfl rfl ?_
    refine kg_aload hk_197 rfl rfl rfl ?_
    refine kg_get (v := .ref (1131 + 1)) hk_197 rfl wk_1076_73 rfl rfl ?_
    refine kg_push (x := 9) hk_197 rfl (by decide) rfl ?_
    refine kg_iload hk_197 rfl rfl rfl ?_
    refine kg_push (x := 97) hk_197 rfl (by decide) rfl ?_
    refine kg_bin (z := (x1 - 97)) hk_197 rfl rfl rfl ?_
    refine kg_bin (z := (9 * (x1 - 97))) hk_197 rfl rfl rfl ?_
    refine kg_aload hk_197 rfl rfl rfl ?_
    refine kg_get (v := .ref (1130 + 1)) hk_197 rfl wk_1076_71 rfl rfl ?_
    refine kg_push (x := 9) hk_197 rfl (by decide) rfl ?_
    refine kg_aload hk_197 rfl rfl rfl ?_
    refine kg_get (v := .int (h 1076 72)) hk_197 rfl wk_1076_72 rfl rfl ?_
    refine kg_bin (z := (9 * (h 1076 72))) hk_197 rfl rfl rfl ?_
    refine wf_bind hF (fun vz7 hvz7 hF => ?_)
    refine kg_call (as := [.ref (1076 + 1), .ref (1131 + 1), .int (9 * (x1 - 97)), .ref (1130 + 1), .int (9 * (h 1076 72))]) (rest := []) hk_197 rfl (Or.inr (Or.inr (Or.inr ⟨Or.inl rfl, _, _, rfl, wc_1076⟩))) rfl rfl rfl (Nat.not_lt.mpr (Nat.le_of_ble_eq_true rfl)) (p_193_ok (w_lenE wc_1131) (w_lenE wc_1130) hvz7) (by decide) rfl ?_
    refine kg_aload hk_197 rfl rfl rfl ?_
    refine kg_dup hk_197 rfl rfl rfl ?_
    refine kg_get (v := .int (vz7 1076 72)) hk_197 rfl wk_1076_72 rfl rfl ?_
    refine kg_push (x := 1) hk_197 rfl (by decide) rfl ?_
    refine kg_bin (z := ((vz7 1076 72) + 1)) hk_197 rfl rfl rfl ?_
    refine wf_let hF (fun hz8 hhz8 hF => ?_)
    refine kg_put hk_197 rfl wk_1076_72 rfl rfl hhz8 rfl ?_
    refine kg_goto hk_197 rfl ?_
    have hF := Option.some.inj hF
    subst hF
    exact kg_ret hk_197 rfl rfl
-- NotebookWeirModel.draws1(I)I
theorem hk_198 : jP[198]? = some (jc_198, 4, [], []) := by rfl
def q_198_64 (h : Hp) (x2 : Int32) : Option (Int32 × Hp) :=
  w_let (w_up h 1076 30 ((h 1076 30) + 1)) fun hz6 =>
  some (x2, hz6)
theorem q_198_64_ok {X : List Int32}   {h : Hp} {x2 : Int32}  {r : Int32 × Hp} (hF : q_198_64 h x2 = some r)  : ∀ (u1 : Value) (u3 : Value), k_Go X 0 198 (64, [.ref (1076 + 1), u1, .int x2, u3], []) h (.inl (some (.int r.1)), r.2) := by
  intro u1 u3
  unfold q_198_64 at hF
  refine kg_aload hk_198 rfl rfl rfl ?_
  refine kg_dup hk_198 rfl rfl rfl ?_
  refine kg_get (v := .int (h 1076 30)) hk_198 rfl wk_1076_30 rfl rfl ?_
  refine kg_push (x := 1) hk_198 rfl (by decide) rfl ?_
  refine kg_bin (z := ((h 1076 30) + 1)) hk_198 rfl rfl rfl ?_
  refine wf_let hF (fun hz6 hhz6 hF => ?_)
  refine kg_put hk_198 rfl wk_1076_30 rfl rfl hhz6 rfl ?_
  refine kg_iload hk_198 rfl rfl rfl ?_
  have hF := Option.some.inj hF
  subst hF
  exact kg_iret hk_198 rfl (Or.inl rfl) rfl
def q_198_49 (h : Hp) (x2 : Int32) : Option (Int32 × Hp) :=
  if (h 1076 29) = 2 then
    (q_198_64 h x2)
  else
    (w_gd (w_ix ((40 * (h 1076 77)) + (h 1076 30)) 640) <|
    w_let (w_up h 1095 (((40 * (h 1076 77)) + (h 1076 30)).toNatClampNeg) x2) fun hz8 =>
    q_198_64 hz8 x2)
theorem q_198_49_ok {X : List Int32}   {h : Hp} {x2 : Int32}  {r : Int32 × Hp} (hF : q_198_49 h x2 = some r)  : ∀ (u1 : Value) (u3 : Value), k_Go X 0 198 (49, [.ref (1076 + 1), u1, .int x2, u3], []) h (.inl (some (.int r.1)), r.2) := by
  intro u1 u3
  unfold q_198_49 at hF
  refine kg_aload hk_198 rfl rfl rfl ?_
  refine kg_get (v := .int (h 1076 29)) hk_198 rfl wk_1076_29 rfl rfl ?_
  refine kg_push (x := 2) hk_198 rfl (by decide) rfl ?_
  refine wf_if hF (fun cz5 hF => ?_) (fun cz5 hF => ?_)
  · refine kg_icT hk_198 rfl (jc_T0 cz5) ?_
    exact q_198_64_ok hF _ _
  · refine kg_icF hk_198 rfl (jc_F0 cz5) rfl ?_
    refine kg_aload hk_198 rfl rfl rfl ?_
    refine kg_get (v := .ref (1095 + 1)) hk_198 rfl wk_1076_23 rfl rfl ?_
    refine kg_push (x := 40) hk_198 rfl (by decide) rfl ?_
    refine kg_aload hk_198 rfl rfl rfl ?_
    refine kg_get (v := .int (h 1076 77)) hk_198 rfl wk_1076_77 rfl rfl ?_
    refine kg_bin (z := (40 * (h 1076 77))) hk_198 rfl rfl rfl ?_
    refine kg_aload hk_198 rfl rfl rfl ?_
    refine kg_get (v := .int (h 1076 30)) hk_198 rfl wk_1076_30 rfl rfl ?_
    refine kg_bin (z := ((40 * (h 1076 77)) + (h 1076 30))) hk_198 rfl rfl rfl ?_
    refine kg_iload hk_198 rfl rfl rfl ?_
    refine wf_gd hF (fun gz7 hF => ?_)
    refine wf_let hF (fun hz8 hhz8 hF => ?_)
    refine kg_ast hk_198 rfl wc_1095 gz7 hhz8 rfl ?_
    exact q_198_64_ok hF _ _
def q_198_48 (h : Hp) (s0 : Int32) : Option (Int32 × Hp) :=
  q_198_49 h s0
theorem q_198_48_ok {X : List Int32}   {h : Hp} {s0 : Int32}  {r : Int32 × Hp} (hF : q_198_48 h s0 = some r)  : ∀ (u1 : Value) (u2 : Value) (u3 : Value), k_Go X 0 198 (48, [.ref (1076 + 1), u1, u2, u3], [.int s0]) h (.inl (some (.int r.1)), r.2) := by
  intro u1 u2 u3
  unfold q_198_48 at hF
  refine kg_istore (L2 := [.ref (1076 + 1), u1, .int s0, u3]) hk_198 rfl (Nat.le_of_ble_eq_true rfl) rfl rfl ?_
  exact q_198_49_ok hF _ _
def q_198_40 (h : Hp) (x1 : Int32) : Option (Int32 × Hp) :=
  q_198_48 h (if x1 = 63 then (h 1076 31) else (h 1076 32) : Int32)
theorem q_198_40_ok {X : List Int32}   {h : Hp} {x1 : Int32}  {r : Int32 × Hp} (hF : q_198_40 h x1 = some r)  : ∀ (u2 : Value) (u3 : Value), k_Go X 0 198 (40, [.ref (1076 + 1), .int x1, u2, u3], []) h (.inl (some (.int r.1)), r.2) := by
  intro u2 u3
  unfold q_198_40 at hF
  refine kg_iload hk_198 rfl rfl rfl ?_
  refine kg_push (x := 63) hk_198 rfl (by decide) rfl ?_
  refine kv_mid (p := 48) (L := [.ref (1076 + 1), .int x1, u2, u3]) (S := [.int (if x1 = 63 then (h 1076 31) else (h 1076 32) : Int32)]) ?_ (fun hK => ?_)
  · exact q_198_48_ok hF _ _ _
  · by_cases cz11 : x1 = 63
    · have hK := kv_T cz11 hK
      refine kg_icF hk_198 rfl (jc_F1 cz11) rfl ?_
      refine kg_aload hk_198 rfl rfl rfl ?_
      refine kg_get (v := .int (h 1076 31)) hk_198 rfl wk_1076_31 rfl rfl ?_
      refine kg_goto hk_198 rfl ?_
      exact hK
    · have hK := kv_F cz11 hK
      refine kg_icT hk_198 rfl (jc_T1 cz11) ?_
      refine kg_aload hk_198 rfl rfl rfl ?_
      refine kg_get (v := .int (h 1076 32)) hk_198 rfl wk_1076_32 rfl rfl ?_
      exact hK
def q_198_13 (h : Hp) (x1 : Int32) (x2 : Int32) (s0 : Int32) : Option (Int32 × Hp) :=
  if s0 = 0 then
    (if (h 1076 29) = 2 then
      (q_198_49 h x2)
    else
      (if x1 = 63 then
        (w_let (w_up h 1076 31 (((75 * (h 1076 31)) + 74) - ((75 * (h 1076 31)) + 74) / 65537 * 65537)) fun hz10 =>
        q_198_40 hz10 x1)
      else
        (q_198_40 h x1)))
  else
    (w_gd (w_ix (h 1076 30) 40) <|
    q_198_49 h (h 1099 (h 1076 30).toNatClampNeg))
theorem q_198_13_ok {X : List Int32}   {h : Hp} {s0 : Int32} {x1 : Int32} {x2 : Int32}  {r : Int32 × Hp} (hF : q_198_13 h x1 x2 s0 = some r)  : ∀ (u3 : Value), k_Go X 0 198 (13, [.ref (1076 + 1), .int x1, .int x2, u3], [.int s0]) h (.inl (some (.int r.1)), r.2) := by
  intro u3
  unfold q_198_13 at hF
  refine kg_istore (L2 := [.ref (1076 + 1), .int x1, .int x2, .int s0]) hk_198 rfl (Nat.le_of_ble_eq_true rfl) rfl rfl ?_
  refine kg_iload hk_198 rfl rfl rfl ?_
  refine wf_if hF (fun cz3 hF => ?_) (fun cz3 hF => ?_)
  · refine kg_ifT hk_198 rfl (jc_T0 cz3) ?_
    refine kg_aload hk_198 rfl rfl rfl ?_
    refine kg_get (v := .int (h 1076 29)) hk_198 rfl wk_1076_29 rfl rfl ?_
    refine kg_push (x := 2) hk_198 rfl (by decide) rfl ?_
    refine wf_if hF (fun cz4 hF => ?_) (fun cz4 hF => ?_)
    · refine kg_icT hk_198 rfl (jc_T0 cz4) ?_
      exact q_198_49_ok hF _ _
    · refine kg_icF hk_198 rfl (jc_F0 cz4) rfl ?_
      refine kg_iload hk_198 rfl rfl rfl ?_
      refine kg_push (x := 63) hk_198 rfl (by decide) rfl ?_
      refine wf_if hF (fun cz9 hF => ?_) (fun cz9 hF => ?_)
      · refine kg_icF hk_198 rfl (jc_F1 cz9) rfl ?_
        refine kg_aload hk_198 rfl rfl rfl ?_
        refine kg_push (x := 75) hk_198 rfl (by decide) rfl ?_
        refine kg_aload hk_198 rfl rfl rfl ?_
        refine kg_get (v := .int (h 1076 31)) hk_198 rfl wk_1076_31 rfl rfl ?_
        refine kg_bin (z := (75 * (h 1076 31))) hk_198 rfl rfl rfl ?_
        refine kg_push (x := 74) hk_198 rfl (by decide) rfl ?_
        refine kg_bin (z := ((75 * (h 1076 31)) + 74)) hk_198 rfl rfl rfl ?_
        refine kg_push (x := 65537) hk_198 rfl (by decide) rfl ?_
        refine kg_bin (z := (((75 * (h 1076 31)) + 74) - ((75 * (h 1076 31)) + 74) / 65537 * 65537)) hk_198 rfl (j_rem (by decide)) rfl ?_
        refine wf_let hF (fun hz10 hhz10 hF => ?_)
        refine kg_put hk_198 rfl wk_1076_31 rfl rfl hhz10 rfl ?_
        exact q_198_40_ok hF _ _
      · refine kg_icT hk_198 rfl (jc_T1 cz9) ?_
        exact q_198_40_ok hF _ _
  · refine kg_ifF hk_198 rfl (jc_F0 cz3) rfl ?_
    refine kg_aload hk_198 rfl rfl rfl ?_
    refine kg_get (v := .ref (1099 + 1)) hk_198 rfl wk_1076_27 rfl rfl ?_
    refine kg_aload hk_198 rfl rfl rfl ?_
    refine kg_get (v := .int (h 1076 30)) hk_198 rfl wk_1076_30 rfl rfl ?_
    refine wf_gd hF (fun gz12 hF => ?_)
    refine kg_ald (y := (h 1099 (h 1076 30).toNatClampNeg)) hk_198 rfl wc_1099 gz12 rfl rfl ?_
    refine kg_istore (L2 := [.ref (1076 + 1), .int x1, .int (h 1099 (h 1076 30).toNatClampNeg), .int s0]) hk_198 rfl (Nat.le_of_ble_eq_true rfl) rfl rfl ?_
    refine kg_goto hk_198 rfl ?_
    exact q_198_49_ok hF _ _
def p_198 (h : Hp) (x1 : Int32) : Option (Int32 × Hp) :=
  q_198_13 h x1 0 (if (h 1076 29) = 0 then 0 else (if (h 1076 30) < (h 1076 28) then 1 else 0 : Int32) : Int32)
theorem p_198_ok {X : List Int32}  {h : Hp} {x1 : Int32}  {r : Int32 × Hp} (hF : p_198 h x1 = some r) : k_Ev X 0 198 [.ref (1076 + 1), .int x1] h (.inl (some (.int r.1)), r.2) := by
  refine k_of hk_198 ?_
  show k_Go X 0 198 (0, [.ref (1076 + 1), .int x1, (.retAddr 0), (.retAddr 0)], []) h _
  unfold p_198 at hF
  refine kg_push (x := 0) hk_198 rfl (by decide) rfl ?_
  refine kg_istore (L2 := [.ref (1076 + 1), .int x1, .int 0, (.retAddr 0)]) hk_198 rfl (Nat.le_of_ble_eq_true rfl) rfl rfl ?_
  refine kg_aload hk_198 rfl rfl rfl ?_
  refine kg_get (v := .int (h 1076 29)) hk_198 rfl wk_1076_29 rfl rfl ?_
  refine kv_mid (p := 13) (L := [.ref (1076 + 1), .int x1, .int 0, (.retAddr 0)]) (S := [.int (if (h 1076 29) = 0 then 0 else (if (h 1076 30) < (h 1076 28) then 1 else 0 : Int32) : Int32)]) ?_ (fun hK => ?_)
  · exact q_198_13_ok hF _
  · by_cases cz1 : (h 1076 29) = 0
    · have hK := kv_T cz1 hK
      refine kg_ifT hk_198 rfl (jc_T0 cz1) ?_
      refine kg_push (x := 0) hk_198 rfl (by decide) rfl ?_
      exact hK
    · have hK := kv_F cz1 hK
      refine kg_ifF hk_198 rfl (jc_F0 cz1) rfl ?_
      refine kg_aload hk_198 rfl rfl rfl ?_
      refine kg_get (v := .int (h 1076 30)) hk_198 rfl wk_1076_30 rfl rfl ?_
      refine kg_aload hk_198 rfl rfl rfl ?_
      refine kg_get (v := .int (h 1076 28)) hk_198 rfl wk_1076_28 rfl rfl ?_
      by_cases cz2 : (h 1076 30) < (h 1076 28)
      · have hK := kv_T cz2 hK
        refine kg_icF hk_198 rfl (jc_F3 cz2) rfl ?_
        refine kg_push (x := 1) hk_198 rfl (by decide) rfl ?_
        refine kg_goto hk_198 rfl ?_
        exact hK
      · have hK := kv_F cz2 hK
        refine kg_icT hk_198 rfl (jc_T3 cz2) ?_
        refine kg_push (x := 0) hk_198 rfl (by decide) rfl ?_
        exact hK
-- NotebookWeirModel.part(I)V
theorem hk_204 : jP[204]? = some (jc_204, 3, [], []) := by rfl
def q_204_51 (h : Hp) (x1 : Int32) : Option (Hp) :=
  (p_198 h x1).bind fun vz5 =>
  (p_196 vz5.2 vz5.1).bind fun vz6 =>
  some vz6
theorem q_204_51_ok {X : List Int32}   {h : Hp} {x1 : Int32}  {r : Hp} (hF : q_204_51 h x1 = some r)  : ∀ (u2 : Value), k_Go X 6 204 (51, [.ref (1076 + 1), .int x1, u2], []) h (.inl none, r) := by
  intro u2
  unfold q_204_51 at hF
  refine kg_aload hk_204 rfl rfl rfl ?_
  refine kg_aload hk_204 rfl rfl rfl ?_
  refine kg_iload hk_204 rfl rfl rfl ?_
  refine wf_bind hF (fun vz5 hvz5 hF => ?_)
  refine kg_call (as := [.ref (1076 + 1), .int x1]) (rest := [.ref (1076 + 1)]) hk_204 rfl (Or.inr (Or.inr (Or.inr ⟨Or.inl rfl, _, _, rfl, wc_1076⟩))) rfl rfl rfl (Nat.not_lt.mpr (Nat.le_of_ble_eq_true rfl)) (p_198_ok hvz5) (by decide) rfl ?_
  refine wf_bind hF (fun vz6 hvz6 hF => ?_)
  refine kg_call (as := [.ref (1076 + 1), .int vz5.1]) (rest := []) hk_204 rfl (Or.inr (Or.inr (Or.inr ⟨Or.inl rfl, _, _, rfl, wc_1076⟩))) rfl rfl rfl (Nat.not_lt.mpr (Nat.le_of_ble_eq_true rfl)) (p_196_ok hvz6) (by decide) rfl ?_
  refine kg_goto hk_204 rfl ?_
  have hF := Option.some.inj hF
  subst hF
  exact kg_ret hk_204 rfl rfl
def l_204_5 (x2 : Int32) (h : Hp) : Option ((Int32 × Hp) ⊕ Int32 × Hp) :=
  w_gd (g_150 h) <|
  if (v_149 (v_150 h)) = 0 then
    (some (.inr (x2, h)))
  else
    (w_gd (w_ix (h 1076 67) 40) <|
    w_let (w_up h 1076 67 ((h 1076 67) + 1)) fun hz13 =>
    some (.inl ((((10 * x2) + (h 1127 (h 1076 67).toNatClampNeg)) - 48), hz13)))
theorem l_204_5_st {X : List Int32} {o : kO}  {h : Hp} {x2 : Int32}  {r : (Int32 × Hp) ⊕ Int32 × Hp} (hF : l_204_5 x2 h = some r) (hK : ∀ s' : Int32 × Hp, r = .inl s' → ∀ (u1 : Value), k_Go X 6 204 (5, [.ref (1076 + 1), u1, .int (s'.1)], []) s'.2 o) (hX0 : ∀ e : Int32 × Hp, r = .inr e → ∀ (u1 : Value), k_Go X 6 204 (28, [.ref (1076 + 1), u1, .int e.1], []) e.2 o) : ∀ (u1 : Value), k_Go X 6 204 (5, [.ref (1076 + 1), u1, .int x2], []) h o := by
  intro u1
  refine kg_aload hk_204 rfl rfl rfl ?_
  refine wf_gd hF (fun gz10 hF => ?_)
  refine kg_call (as := [.ref (1076 + 1)]) (rest := []) hk_204 rfl (Or.inr (Or.inr (Or.inr ⟨Or.inl rfl, _, _, rfl, wc_1076⟩))) rfl rfl rfl (Nat.not_lt.mpr (Nat.le_of_ble_eq_true rfl)) (v_150_ok gz10) (by decide) rfl ?_
  refine kg_call (as := [.int (v_150 h)]) (rest := []) hk_204 rfl (Or.inl rfl) rfl rfl rfl (Nat.not_lt.mpr (Nat.le_of_ble_eq_true rfl)) (v_149_ok) (by decide) rfl ?_
  refine wf_if hF (fun cz11 hF => ?_) (fun cz11 hF => ?_)
  · refine kg_ifT hk_204 rfl (jc_T0 cz11) ?_
    have hF := Option.some.inj hF
    exact hX0 _ hF.symm _
  · refine kg_ifF hk_204 rfl (jc_F0 cz11) rfl ?_
    refine kg_push (x := 10) hk_204 rfl (by decide) rfl ?_
    refine kg_iload hk_204 rfl rfl rfl ?_
    refine kg_bin (z := (10 * x2)) hk_204 rfl rfl rfl ?_
    refine kg_aload hk_204 rfl rfl rfl ?_
    refine kg_get (v := .ref (1127 + 1)) hk_204 rfl wk_1076_65 rfl rfl ?_
    refine kg_aload hk_204 rfl rfl rfl ?_
    refine kg_get (v := .int (h 1076 67)) hk_204 rfl wk_1076_67 rfl rfl ?_
    refine wf_gd hF (fun gz12 hF => ?_)
    refine kg_ald (y := (h 1127 (h 1076 67).toNatClampNeg)) hk_204 rfl wc_1127 gz12 rfl rfl ?_
    refine kg_bin (z := ((10 * x2) + (h 1127 (h 1076 67).toNatClampNeg))) hk_204 rfl rfl rfl ?_
    refine kg_push (x := 48) hk_204 rfl (by decide) rfl ?_
    refine kg_bin (z := (((10 * x2) + (h 1127 (h 1076 67).toNatClampNeg)) - 48)) hk_204 rfl rfl rfl ?_
    refine kg_istore (L2 := [.ref (1076 + 1), u1, .int (((10 * x2) + (h 1127 (h 1076 67).toNatClampNeg)) - 48)]) hk_204 rfl (Nat.le_of_ble_eq_true rfl) rfl rfl ?_
    refine kg_aload hk_204 rfl rfl rfl ?_
    refine kg_dup hk_204 rfl rfl rfl ?_
    refine kg_get (v := .int (h 1076 67)) hk_204 rfl wk_1076_67 rfl rfl ?_
    refine kg_push (x := 1) hk_204 rfl (by decide) rfl ?_
    refine kg_bin (z := ((h 1076 67) + 1)) hk_204 rfl rfl rfl ?_
    refine wf_let hF (fun hz13 hhz13 hF => ?_)
    refine kg_put hk_204 rfl wk_1076_67 rfl rfl hhz13 rfl ?_
    refine kg_goto hk_204 rfl ?_
    have hF := Option.some.inj hF
    exact hK _ hF.symm _
theorem l_204_5_ok {X : List Int32} {o : kO}    {n : Nat} {s : Int32 × Hp} {e : Int32 × Hp} (hF : w_lp (fun (s : Int32 × Hp) => l_204_5 s.1 s.2) n s = some e) (hX0 : ∀ (u1 : Value), k_Go X 6 204 (28, [.ref (1076 + 1), u1, .int e.1], []) e.2 o) : ∀ (u1 : Value), k_Go X 6 204 (5, [.ref (1076 + 1), u1, .int s.1], []) s.2 o := by
  exact w_lp_ok (P := (fun (s : Int32 × Hp) => ∀ (u1 : Value), k_Go X 6 204 (5, [.ref (1076 + 1), u1, .int s.1], []) s.2 o)) (Q := (fun (e : Int32 × Hp) => (∀ (u1 : Value), k_Go X 6 204 (28, [.ref (1076 + 1), u1, .int e.1], []) e.2 o))) (fun s r hF hK hX => l_204_5_st hF hK (fun x hx => (hX _ hx))) n s e hF hX0
def p_204 (h : Hp) (x1 : Int32) : Option (Hp) :=
  if (v_149 x1) = 0 then
    (w_let (w_up h 1076 67 ((h 1076 67) + 1)) fun hz2 =>
    if (v_148 x1) = 0 then
      (if x1 = 63 then
        (q_204_51 hz2 x1)
      else
        (if x1 = 64 then
          (q_204_51 hz2 x1)
        else
          ((p_203 hz2 x1).bind fun vz8 =>
          some vz8)))
    else
      ((p_197 hz2 x1).bind fun vz9 =>
      some vz9))
  else
    ((w_lp (fun (s : Int32 × Hp) => l_204_5 s.1 s.2) w_N (0, h)).bind fun ez14 =>
    (p_196 ez14.2 ez14.1).bind fun vz15 =>
    some vz15)
theorem p_204_ok {X : List Int32}  {h : Hp} {x1 : Int32}  {r : Hp} (hF : p_204 h x1 = some r) : k_Ev X 6 204 [.ref (1076 + 1), .int x1] h (.inl none, r) := by
  refine k_of hk_204 ?_
  show k_Go X 6 204 (0, [.ref (1076 + 1), .int x1, (.retAddr 0)], []) h _
  unfold p_204 at hF
  refine kg_iload hk_204 rfl rfl rfl ?_
  refine kg_call (as := [.int x1]) (rest := []) hk_204 rfl (Or.inl rfl) rfl rfl rfl (Nat.not_lt.mpr (Nat.le_of_ble_eq_true rfl)) (v_149_ok) (by decide) rfl ?_
  refine wf_if hF (fun cz1 hF => ?_) (fun cz1 hF => ?_)
  · refine kg_ifT hk_204 rfl (jc_T0 cz1) ?_
    refine kg_aload hk_204 rfl rfl rfl ?_
    refine kg_dup hk_204 rfl rfl rfl ?_
    refine kg_get (v := .int (h 1076 67)) hk_204 rfl wk_1076_67 rfl rfl ?_
    refine kg_push (x := 1) hk_204 rfl (by decide) rfl ?_
    refine kg_bin (z := ((h 1076 67) + 1)) hk_204 rfl rfl rfl ?_
    refine wf_let hF (fun hz2 hhz2 hF => ?_)
    refine kg_put hk_204 rfl wk_1076_67 rfl rfl hhz2 rfl ?_
    refine kg_iload hk_204 rfl rfl rfl ?_
    refine kg_call (as := [.int x1]) (rest := []) hk_204 rfl (Or.inl rfl) rfl rfl rfl (Nat.not_lt.mpr (Nat.le_of_ble_eq_true rfl)) (v_148_ok) (by decide) rfl ?_
    refine wf_if hF (fun cz3 hF => ?_) (fun cz3 hF => ?_)
    · refine kg_ifT hk_204 rfl (jc_T0 cz3) ?_
      refine kg_iload hk_204 rfl rfl rfl ?_
      refine kg_push (x := 63) hk_204 rfl (by decide) rfl ?_
      refine wf_if hF (fun cz4 hF => ?_) (fun cz4 hF => ?_)
      · refine kg_icT hk_204 rfl (jc_T0 cz4) ?_
        exact q_204_51_ok hF _
      · refine kg_icF hk_204 rfl (jc_F0 cz4) rfl ?_
        refine kg_iload hk_204 rfl rfl rfl ?_
        refine kg_push (x := 64) hk_204 rfl (by decide) rfl ?_
        refine wf_if hF (fun cz7 hF => ?_) (fun cz7 hF => ?_)
        · refine kg_icF hk_204 rfl (jc_F1 cz7) rfl ?_
          exact q_204_51_ok hF _
        · refine kg_icT hk_204 rfl (jc_T1 cz7) ?_
          refine kg_aload hk_204 rfl rfl rfl ?_
          refine kg_iload hk_204 rfl rfl rfl ?_
          refine wf_bind hF (fun vz8 hvz8 hF => ?_)
          refine kg_call (as := [.ref (1076 + 1), .int x1]) (rest := []) hk_204 rfl (Or.inr (Or.inr (Or.inr ⟨Or.inl rfl, _, _, rfl, wc_1076⟩))) rfl rfl rfl (Nat.not_lt.mpr (Nat.le_of_ble_eq_true rfl)) (p_203_ok hvz8) (by decide) rfl ?_
          have hF := Option.some.inj hF
          subst hF
          exact kg_ret hk_204 rfl rfl
    · refine kg_ifF hk_204 rfl (jc_F0 cz3) rfl ?_
      refine kg_aload hk_204 rfl rfl rfl ?_
      refine kg_iload hk_204 rfl rfl rfl ?_
      refine wf_bind hF (fun vz9 hvz9 hF => ?_)
      refine kg_call (as := [.ref (1076 + 1), .int x1]) (rest := []) hk_204 rfl (Or.inr (Or.inr (Or.inr ⟨Or.inl rfl, _, _, rfl, wc_1076⟩))) rfl rfl rfl (Nat.not_lt.mpr (Nat.le_of_ble_eq_true rfl)) (p_197_ok hvz9) (by decide) rfl ?_
      refine kg_goto hk_204 rfl ?_
      have hF := Option.some.inj hF
      subst hF
      exact kg_ret hk_204 rfl rfl
  · refine kg_ifF hk_204 rfl (jc_F0 cz1) rfl ?_
    refine kg_push (x := 0) hk_204 rfl (by decide) rfl ?_
    refine kg_istore (L2 := [.ref (1076 + 1), .int x1, .int 0]) hk_204 rfl (Nat.le_of_ble_eq_true rfl) rfl rfl ?_
    refine wf_bind hF (fun ez14 hez14 hF => ?_)
    refine l_204_5_ok hez14 ?_ _
    intro u1
    refine kg_aload hk_204 rfl rfl rfl ?_
    refine kg_iload hk_204 rfl rfl rfl ?_
    refine wf_bind hF (fun vz15 hvz15 hF => ?_)
    refine kg_call (as := [.ref (1076 + 1), .int ez14.1]) (rest := []) hk_204 rfl (Or.inr (Or.inr (Or.inr ⟨Or.inl rfl, _, _, rfl, wc_1076⟩))) rfl rfl rfl (Nat.not_lt.mpr (Nat.le_of_ble_eq_true rfl)) (p_196_ok hvz15) (by decide) rfl ?_
    have hF := Option.some.inj hF
    subst hF
    exact kg_ret hk_204 rfl rfl
-- NotebookWeirModel.item()V
theorem hk_205 : jP[205]? = some (jc_205, 3, [], []) := by rfl
def p_205 (h : Hp) : Option (Hp) :=
  w_gd (w_ix ((h 1076 67) + 1) 40) <|
  w_let (w_up h 1076 67 ((h 1076 67) + 2)) fun hz2 =>
  w_gd (g_199 ((hz2 1076 72) - 1)) <|
  if (v_199 hz2 ((hz2 1076 72) - 1)) = 0 then
    (w_gd (w_ix (9 * ((hz2 1076 72) - 1)) 400) <|
    if ((h 1127 ((h 1076 67) + 1).toNatClampNeg) - 48) < (hz2 1130 (9 * ((hz2 1076 72) - 1)).toNatClampNeg) then
      (w_gd (w_ix (((9 * ((hz2 1076 72) - 1)) + 1) + ((h 1127 ((h 1076 67) + 1).toNatClampNeg) - 48)) 400) <|
      w_gd (w_ix ((9 * ((hz2 1076 72) - 1)) + 1) 400) <|
      w_let (w_up hz2 1130 (((9 * ((hz2 1076 72) - 1)) + 1).toNatClampNeg) (hz2 1130 (((9 * ((hz2 1076 72) - 1)) + 1) + ((h 1127 ((h 1076 67) + 1).toNatClampNeg) - 48)).toNatClampNeg)) fun hz9 =>
      w_gd (w_ix (9 * ((hz2 1076 72) - 1)) 400) <|
      w_let (w_up hz9 1130 ((9 * ((hz2 1076 72) - 1)).toNatClampNeg) (-1)) fun hz11 =>
      some hz11)
    else
      ((p_195 hz2 3 (hz2 1076 80)).bind fun vz12 =>
      some vz12))
  else
    ((p_195 hz2 2 (hz2 1076 80)).bind fun vz13 =>
    some vz13)
theorem p_205_ok {X : List Int32}  {h : Hp}   {r : Hp} (hF : p_205 h = some r) : k_Ev X 1 205 [.ref (1076 + 1)] h (.inl none, r) := by
  refine k_of hk_205 ?_
  show k_Go X 1 205 (0, [.ref (1076 + 1), (.retAddr 0), (.retAddr 0)], []) h _
  unfold p_205 at hF
  refine kg_aload hk_205 rfl rfl rfl ?_
  refine kg_get (v := .ref (1127 + 1)) hk_205 rfl wk_1076_65 rfl rfl ?_
  refine kg_aload hk_205 rfl rfl rfl ?_
  refine kg_get (v := .int (h 1076 67)) hk_205 rfl wk_1076_67 rfl rfl ?_
  refine kg_push (x := 1) hk_205 rfl (by decide) rfl ?_
  refine kg_bin (z := ((h 1076 67) + 1)) hk_205 rfl rfl rfl ?_
  refine wf_gd hF (fun gz1 hF => ?_)
  refine kg_ald (y := (h 1127 ((h 1076 67) + 1).toNatClampNeg)) hk_205 rfl wc_1127 gz1 rfl rfl ?_
  refine kg_push (x := 48) hk_205 rfl (by decide) rfl ?_
  refine kg_bin (z := ((h 1127 ((h 1076 67) + 1).toNatClampNeg) - 48)) hk_205 rfl rfl rfl ?_
  refine kg_istore (L2 := [.ref (1076 + 1), .int ((h 1127 ((h 1076 67) + 1).toNatClampNeg) - 48), (.retAddr 0)]) hk_205 rfl (Nat.le_of_ble_eq_true rfl) rfl rfl ?_
  refine kg_aload hk_205 rfl rfl rfl ?_
  refine kg_dup hk_205 rfl rfl rfl ?_
  refine kg_get (v := .int (h 1076 67)) hk_205 rfl wk_1076_67 rfl rfl ?_
  refine kg_push (x := 2) hk_205 rfl (by decide) rfl ?_
  refine kg_bin (z := ((h 1076 67) + 2)) hk_205 rfl rfl rfl ?_
  refine wf_let hF (fun hz2 hhz2 hF => ?_)
  refine kg_put hk_205 rfl wk_1076_67 rfl rfl hhz2 rfl ?_
  refine kg_push (x := 9) hk_205 rfl (by decide) rfl ?_
  refine kg_aload hk_205 rfl rfl rfl ?_
  refine kg_get (v := .int (hz2 1076 72)) hk_205 rfl wk_1076_72 rfl rfl ?_
  refine kg_push (x := 1) hk_205 rfl (by decide) rfl ?_
  refine kg_bin (z := ((hz2 1076 72) - 1)) hk_205 rfl rfl rfl ?_
  refine kg_bin (z := (9 * ((hz2 1076 72) - 1))) hk_205 rfl rfl rfl ?_
  refine kg_istore (L2 := [.ref (1076 + 1), .int ((h 1127 ((h 1076 67) + 1).toNatClampNeg) - 48), .int (9 * ((hz2 1076 72) - 1))]) hk_205 rfl (Nat.le_of_ble_eq_true rfl) rfl rfl ?_
  refine kg_aload hk_205 rfl rfl rfl ?_
  refine kg_aload hk_205 rfl rfl rfl ?_
  refine kg_get (v := .int (hz2 1076 72)) hk_205 rfl wk_1076_72 rfl rfl ?_
  refine kg_push (x := 1) hk_205 rfl (by decide) rfl ?_
  refine kg_bin (z := ((hz2 1076 72) - 1)) hk_205 rfl rfl rfl ?_
  refine wf_gd hF (fun gz3 hF => ?_)
  refine kg_call (as := [.ref (1076 + 1), .int ((hz2 1076 72) - 1)]) (rest := []) hk_205 rfl (Or.inr (Or.inr (Or.inr ⟨Or.inl rfl, _, _, rfl, wc_1076⟩))) rfl rfl rfl (Nat.not_lt.mpr (Nat.le_of_ble_eq_true rfl)) (v_199_ok gz3) (by decide) rfl ?_
  refine wf_if hF (fun cz4 hF => ?_) (fun cz4 hF => ?_)
  · refine kg_ifT hk_205 rfl (jc_T0 cz4) ?_
    refine kg_iload hk_205 rfl rfl rfl ?_
    refine kg_aload hk_205 rfl rfl rfl ?_
    refine kg_get (v := .ref (1130 + 1)) hk_205 rfl wk_1076_71 rfl rfl ?_
    refine kg_iload hk_205 rfl rfl rfl ?_
    refine wf_gd hF (fun gz5 hF => ?_)
    refine kg_ald (y := (hz2 1130 (9 * ((hz2 1076 72) - 1)).toNatClampNeg)) hk_205 rfl wc_1130 gz5 rfl rfl ?_
    refine wf_if hF (fun cz6 hF => ?_) (fun cz6 hF => ?_)
    · refine kg_icT hk_205 rfl (jc_T2 cz6) ?_
      refine kg_aload hk_205 rfl rfl rfl ?_
      refine kg_get (v := .ref (1130 + 1)) hk_205 rfl wk_1076_71 rfl rfl ?_
      refine kg_iload hk_205 rfl rfl rfl ?_
      refine kg_push (x := 1) hk_205 rfl (by decide) rfl ?_
      refine kg_bin (z := ((9 * ((hz2 1076 72) - 1)) + 1)) hk_205 rfl rfl rfl ?_
      refine kg_aload hk_205 rfl rfl rfl ?_
      refine kg_get (v := .ref (1130 + 1)) hk_205 rfl wk_1076_71 rfl rfl ?_
      refine kg_iload hk_205 rfl rfl rfl ?_
      refine kg_push (x := 1) hk_205 rfl (by decide) rfl ?_
      refine kg_bin (z := ((9 * ((hz2 1076 72) - 1)) + 1)) hk_205 rfl rfl rfl ?_
      refine kg_iload hk_205 rfl rfl rfl ?_
      refine kg_bin (z := (((9 * ((hz2 1076 72) - 1)) + 1) + ((h 1127 ((h 1076 67) + 1).toNatClampNeg) - 48))) hk_205 rfl rfl rfl ?_
      refine wf_gd hF (fun gz7 hF => ?_)
      refine kg_ald (y := (hz2 1130 (((9 * ((hz2 1076 72) - 1)) + 1) + ((h 1127 ((h 1076 67) + 1).toNatClampNeg) - 48)).toNatClampNeg)) hk_205 rfl wc_1130 gz7 rfl rfl ?_
      refine wf_gd hF (fun gz8 hF => ?_)
      refine wf_let hF (fun hz9 hhz9 hF => ?_)
      refine kg_ast hk_205 rfl wc_1130 gz8 hhz9 rfl ?_
      refine kg_aload hk_205 rfl rfl rfl ?_
      refine kg_get (v := .ref (1130 + 1)) hk_205 rfl wk_1076_71 rfl rfl ?_
      refine kg_iload hk_205 rfl rfl rfl ?_
      refine kg_push (x := (-1)) hk_205 rfl (by decide) rfl ?_
      refine wf_gd hF (fun gz10 hF => ?_)
      refine wf_let hF (fun hz11 hhz11 hF => ?_)
      refine kg_ast hk_205 rfl wc_1130 gz10 hhz11 rfl ?_
      have hF := Option.some.inj hF
      subst hF
      exact kg_ret hk_205 rfl rfl
    · refine kg_icF hk_205 rfl (jc_F2 cz6) rfl ?_
      refine kg_aload hk_205 rfl rfl rfl ?_
      refine kg_push (x := 3) hk_205 rfl (by decide) rfl ?_
      refine kg_aload hk_205 rfl rfl rfl ?_
      refine kg_get (v := .int (hz2 1076 80)) hk_205 rfl wk_1076_80 rfl rfl ?_
      refine wf_bind hF (fun vz12 hvz12 hF => ?_)
      refine kg_call (as := [.ref (1076 + 1), .int 3, .int (hz2 1076 80)]) (rest := []) hk_205 rfl (Or.inr (Or.inr (Or.inr ⟨Or.inl rfl, _, _, rfl, wc_1076⟩))) rfl rfl rfl (Nat.not_lt.mpr (Nat.le_of_ble_eq_true rfl)) (p_195_ok hvz12) (by decide) rfl ?_
      refine kg_goto hk_205 rfl ?_
      have hF := Option.some.inj hF
      subst hF
      exact kg_ret hk_205 rfl rfl
  · refine kg_ifF hk_205 rfl (jc_F0 cz4) rfl ?_
    refine kg_aload hk_205 rfl rfl rfl ?_
    refine kg_push (x := 2) hk_205 rfl (by decide) rfl ?_
    refine kg_aload hk_205 rfl rfl rfl ?_
    refine kg_get (v := .int (hz2 1076 80)) hk_205 rfl wk_1076_80 rfl rfl ?_
    refine wf_bind hF (fun vz13 hvz13 hF => ?_)
    refine kg_call (as := [.ref (1076 + 1), .int 2, .int (hz2 1076 80)]) (rest := []) hk_205 rfl (Or.inr (Or.inr (Or.inr ⟨Or.inl rfl, _, _, rfl, wc_1076⟩))) rfl rfl rfl (Nat.not_lt.mpr (Nat.le_of_ble_eq_true rfl)) (p_195_ok hvz13) (by decide) rfl ?_
    refine kg_goto hk_205 rfl ?_
    have hF := Option.some.inj hF
    subst hF
    exact kg_ret hk_205 rfl rfl
-- NotebookWeirModel.closes(I)V
theorem hk_206 : jP[206]? = some (jc_206, 4, [], []) := by rfl
def l_206_67 (x2 : Int32) (x3 : Int32) (h : Hp) : Option ((Int32 × Hp) ⊕ Hp) :=
  if x3 < x2 then
    (w_gd (w_ix ((9 * ((h 1076 72) + x3)) + 1) 400) <|
    w_gd (w_ix (x3 + 1) 9) <|
    w_let (w_up h 1132 ((x3 + 1).toNatClampNeg) (h 1130 ((9 * ((h 1076 72) + x3)) + 1).toNatClampNeg)) fun hz16 =>
    some (.inl ((x3 + 1), hz16)))
  else
    (some (.inr h))
theorem l_206_67_st {X : List Int32} {o : kO}  {h : Hp} {x2 : Int32} {x3 : Int32}  {r : (Int32 × Hp) ⊕ Hp} (hF : l_206_67 x2 x3 h = some r) (hK : ∀ s' : Int32 × Hp, r = .inl s' → ∀ (u1 : Value), k_Go X 3 206 (67, [.ref (1076 + 1), u1, .int x2, .int (s'.1)], []) s'.2 o) (hX0 : ∀ e : Hp, r = .inr e → ∀ (u1 : Value) (u3 : Value), k_Go X 3 206 (89, [.ref (1076 + 1), u1, .int x2, u3], []) e o) : ∀ (u1 : Value), k_Go X 3 206 (67, [.ref (1076 + 1), u1, .int x2, .int x3], []) h o := by
  intro u1
  refine kg_iload hk_206 rfl rfl rfl ?_
  refine kg_iload hk_206 rfl rfl rfl ?_
  refine wf_if hF (fun cz13 hF => ?_) (fun cz13 hF => ?_)
  · refine kg_icF hk_206 rfl (jc_F3 cz13) rfl ?_
    refine kg_aload hk_206 rfl rfl rfl ?_
    refine kg_get (v := .ref (1132 + 1)) hk_206 rfl wk_1076_78 rfl rfl ?_
    refine kg_iload hk_206 rfl rfl rfl ?_
    refine kg_push (x := 1) hk_206 rfl (by decide) rfl ?_
    refine kg_bin (z := (x3 + 1)) hk_206 rfl rfl rfl ?_
    refine kg_aload hk_206 rfl rfl rfl ?_
    refine kg_get (v := .ref (1130 + 1)) hk_206 rfl wk_1076_71 rfl rfl ?_
    refine kg_push (x := 9) hk_206 rfl (by decide) rfl ?_
    refine kg_aload hk_206 rfl rfl rfl ?_
    refine kg_get (v := .int (h 1076 72)) hk_206 rfl wk_1076_72 rfl rfl ?_
    refine kg_iload hk_206 rfl rfl rfl ?_
    refine kg_bin (z := ((h 1076 72) + x3)) hk_206 rfl rfl rfl ?_
    refine kg_bin (z := (9 * ((h 1076 72) + x3))) hk_206 rfl rfl rfl ?_
    refine kg_push (x := 1) hk_206 rfl (by decide) rfl ?_
    refine kg_bin (z := ((9 * ((h 1076 72) + x3)) + 1)) hk_206 rfl rfl rfl ?_
    refine wf_gd hF (fun gz14 hF => ?_)
    refine kg_ald (y := (h 1130 ((9 * ((h 1076 72) + x3)) + 1).toNatClampNeg)) hk_206 rfl wc_1130 gz14 rfl rfl ?_
    refine wf_gd hF (fun gz15 hF => ?_)
    refine wf_let hF (fun hz16 hhz16 hF => ?_)
    refine kg_ast hk_206 rfl wc_1132 gz15 hhz16 rfl ?_
    refine kg_iinc (y := (x3 + 1)) (L2 := [.ref (1076 + 1), u1, .int x2, .int (x3 + 1)]) hk_206 rfl rfl rfl rfl rfl ?_
    refine kg_goto hk_206 rfl ?_
    have hF := Option.some.inj hF
    exact hK _ hF.symm _
  · refine kg_icT hk_206 rfl (jc_T3 cz13) ?_
    have hF := Option.some.inj hF
    exact hX0 _ hF.symm _ _
theorem l_206_67_ok {X : List Int32} {o : kO}  {x2 : Int32}  {n : Nat} {s : Int32 × Hp} {e : Hp} (hF : w_lp (fun (s : Int32 × Hp) => l_206_67 x2 s.1 s.2) n s = some e) (hX0 : ∀ (u1 : Value) (u3 : Value), k_Go X 3 206 (89, [.ref (1076 + 1), u1, .int x2, u3], []) e o) : ∀ (u1 : Value), k_Go X 3 206 (67, [.ref (1076 + 1), u1, .int x2, .int s.1], []) s.2 o := by
  exact w_lp_ok (P := (fun (s : Int32 × Hp) => ∀ (u1 : Value), k_Go X 3 206 (67, [.ref (1076 + 1), u1, .int x2, .int s.1], []) s.2 o)) (Q := (fun (e : Hp) => (∀ (u1 : Value) (u3 : Value), k_Go X 3 206 (89, [.ref (1076 + 1), u1, .int x2, u3], []) e o))) (fun s r hF hK hX => l_206_67_st hF hK (fun x hx => (hX _ hx))) n s e hF hX0
def q_206_29 (h : Hp) (x1 : Int32) : Option (Hp) :=
  if x1 = 44 then
    (w_gd (w_ix ((h 1076 70) - 1) 80) <|
    w_gd (w_ix ((h 1076 70) - 1) 80) <|
    w_let (w_up h 1129 (((h 1076 70) - 1).toNatClampNeg) ((h 1129 ((h 1076 70) - 1).toNatClampNeg) + 1)) fun hz8 =>
    some hz8)
  else
    (w_let (w_up h 1076 70 ((h 1076 70) - 1)) fun hz9 =>
    if x1 = 93 then
      (w_gd (w_ix (hz9 1076 70) 80) <|
      w_let (w_up hz9 1076 72 ((hz9 1076 72) - (hz9 1129 (hz9 1076 70).toNatClampNeg))) fun hz12 =>
      (w_lp (fun (s : Int32 × Hp) => l_206_67 (hz9 1129 (hz9 1076 70).toNatClampNeg) s.1 s.2) w_N (0, hz12)).bind fun ez17 =>
      w_let (w_up ez17 1132 0 (hz9 1129 (hz9 1076 70).toNatClampNeg)) fun hz18 =>
      (p_193 hz18 1132 0 1130 (9 * (hz18 1076 72))).bind fun vz19 =>
      w_let (w_up vz19 1076 72 ((vz19 1076 72) + 1)) fun hz20 =>
      some hz20)
    else
      (some hz9))
theorem q_206_29_ok {X : List Int32}   {h : Hp} {x1 : Int32}  {r : Hp} (hF : q_206_29 h x1 = some r)  : ∀ (u2 : Value) (u3 : Value), k_Go X 3 206 (29, [.ref (1076 + 1), .int x1, u2, u3], []) h (.inl none, r) := by
  intro u2 u3
  unfold q_206_29 at hF
  refine kg_iload hk_206 rfl rfl rfl ?_
  refine kg_push (x := 44) hk_206 rfl (by decide) rfl ?_
  refine wf_if hF (fun cz5 hF => ?_) (fun cz5 hF => ?_)
  · refine kg_icF hk_206 rfl (jc_F1 cz5) rfl ?_
    refine kg_aload hk_206 rfl rfl rfl ?_
    refine kg_get (v := .ref (1129 + 1)) hk_206 rfl wk_1076_69 rfl rfl ?_
    refine kg_aload hk_206 rfl rfl rfl ?_
    refine kg_get (v := .int (h 1076 70)) hk_206 rfl wk_1076_70 rfl rfl ?_
    refine kg_push (x := 1) hk_206 rfl (by decide) rfl ?_
    refine kg_bin (z := ((h 1076 70) - 1)) hk_206 rfl rfl rfl ?_
    refine kg_dup2 hk_206 rfl ⟨rfl, rfl⟩ rfl ?_
    refine wf_gd hF (fun gz6 hF => ?_)
    refine kg_ald (y := (h 1129 ((h 1076 70) - 1).toNatClampNeg)) hk_206 rfl wc_1129 gz6 rfl rfl ?_
    refine kg_push (x := 1) hk_206 rfl (by decide) rfl ?_
    refine kg_bin (z := ((h 1129 ((h 1076 70) - 1).toNatClampNeg) + 1)) hk_206 rfl rfl rfl ?_
    refine wf_gd hF (fun gz7 hF => ?_)
    refine wf_let hF (fun hz8 hhz8 hF => ?_)
    refine kg_ast hk_206 rfl wc_1129 gz7 hhz8 rfl ?_
    have hF := Option.some.inj hF
    subst hF
    exact kg_ret hk_206 rfl rfl
  · refine kg_icT hk_206 rfl (jc_T1 cz5) ?_
    refine kg_aload hk_206 rfl rfl rfl ?_
    refine kg_dup hk_206 rfl rfl rfl ?_
    refine kg_get (v := .int (h 1076 70)) hk_206 rfl wk_1076_70 rfl rfl ?_
    refine kg_push (x := 1) hk_206 rfl (by decide) rfl ?_
    refine kg_bin (z := ((h 1076 70) - 1)) hk_206 rfl rfl rfl ?_
    refine wf_let hF (fun hz9 hhz9 hF => ?_)
    refine kg_put hk_206 rfl wk_1076_70 rfl rfl hhz9 rfl ?_
    refine kg_iload hk_206 rfl rfl rfl ?_
    refine kg_push (x := 93) hk_206 rfl (by decide) rfl ?_
    refine wf_if hF (fun cz10 hF => ?_) (fun cz10 hF => ?_)
    · refine kg_icF hk_206 rfl (jc_F1 cz10) rfl ?_
      refine kg_aload hk_206 rfl rfl rfl ?_
      refine kg_get (v := .ref (1129 + 1)) hk_206 rfl wk_1076_69 rfl rfl ?_
      refine kg_aload hk_206 rfl rfl rfl ?_
      refine kg_get (v := .int (hz9 1076 70)) hk_206 rfl wk_1076_70 rfl rfl ?_
      refine wf_gd hF (fun gz11 hF => ?_)
      refine kg_ald (y := (hz9 1129 (hz9 1076 70).toNatClampNeg)) hk_206 rfl wc_1129 gz11 rfl rfl ?_
      refine kg_istore (L2 := [.ref (1076 + 1), .int x1, .int (hz9 1129 (hz9 1076 70).toNatClampNeg), u3]) hk_206 rfl (Nat.le_of_ble_eq_true rfl) rfl rfl ?_
      refine kg_aload hk_206 rfl rfl rfl ?_
      refine kg_dup hk_206 rfl rfl rfl ?_
      refine kg_get (v := .int (hz9 1076 72)) hk_206 rfl wk_1076_72 rfl rfl ?_
      refine kg_iload hk_206 rfl rfl rfl ?_
      refine kg_bin (z := ((hz9 1076 72) - (hz9 1129 (hz9 1076 70).toNatClampNeg))) hk_206 rfl rfl rfl ?_
      refine wf_let hF (fun hz12 hhz12 hF => ?_)
      refine kg_put hk_206 rfl wk_1076_72 rfl rfl hhz12 rfl ?_
      refine kg_push (x := 0) hk_206 rfl (by decide) rfl ?_
      refine kg_istore (L2 := [.ref (1076 + 1), .int x1, .int (hz9 1129 (hz9 1076 70).toNatClampNeg), .int 0]) hk_206 rfl (Nat.le_of_ble_eq_true rfl) rfl rfl ?_
      refine wf_bind hF (fun ez17 hez17 hF => ?_)
      refine l_206_67_ok hez17 ?_ _
      intro u1 u3
      refine kg_aload hk_206 rfl rfl rfl ?_
      refine kg_get (v := .ref (1132 + 1)) hk_206 rfl wk_1076_78 rfl rfl ?_
      refine kg_push (x := 0) hk_206 rfl (by decide) rfl ?_
      refine kg_iload hk_206 rfl rfl rfl ?_
      refine wf_let hF (fun hz18 hhz18 hF => ?_)
      refine kg_ast hk_206 rfl wc_1132 (by decide) hhz18 rfl ?_
      refine kg_aload hk_206 rfl rfl rfl ?_
      refine kg_aload hk_206 rfl rfl rfl ?_
      refine kg_get (v := .ref (1132 + 1)) hk_206 rfl wk_1076_78 rfl rfl ?_
      refine kg_push (x := 0) hk_206 rfl (by decide) rfl ?_
      refine kg_aload hk_206 rfl rfl rfl ?_
      refine kg_get (v := .ref (1130 + 1)) hk_206 rfl wk_1076_71 rfl rfl ?_
      refine kg_push (x := 9) hk_206 rfl (by decide) rfl ?_
      refine kg_aload hk_206 rfl rfl rfl ?_
      refine kg_get (v := .int (hz18 1076 72)) hk_206 rfl wk_1076_72 rfl rfl ?_
      refine kg_bin (z := (9 * (hz18 1076 72))) hk_206 rfl rfl rfl ?_
      refine wf_bind hF (fun vz19 hvz19 hF => ?_)
      refine kg_call (as := [.ref (1076 + 1), .ref (1132 + 1), .int 0, .ref (1130 + 1), .int (9 * (hz18 1076 72))]) (rest := []) hk_206 rfl (Or.inr (Or.inr (Or.inr ⟨Or.inl rfl, _, _, rfl, wc_1076⟩))) rfl rfl rfl (Nat.not_lt.mpr (Nat.le_of_ble_eq_true rfl)) (p_193_ok (w_lenE wc_1132) (w_lenE wc_1130) hvz19) (by decide) rfl ?_
      refine kg_aload hk_206 rfl rfl rfl ?_
      refine kg_dup hk_206 rfl rfl rfl ?_
      refine kg_get (v := .int (vz19 1076 72)) hk_206 rfl wk_1076_72 rfl rfl ?_
      refine kg_push (x := 1) hk_206 rfl (by decide) rfl ?_
      refine kg_bin (z := ((vz19 1076 72) + 1)) hk_206 rfl rfl rfl ?_
      refine wf_let hF (fun hz20 hhz20 hF => ?_)
      refine kg_put hk_206 rfl wk_1076_72 rfl rfl hhz20 rfl ?_
      have hF := Option.some.inj hF
      subst hF
      exact kg_ret hk_206 rfl rfl
    · refine kg_icT hk_206 rfl (jc_T1 cz10) ?_
      have hF := Option.some.inj hF
      subst hF
      exact kg_ret hk_206 rfl rfl
def p_206 (h : Hp) (x1 : Int32) : Option (Hp) :=
  (p_202 h 1).bind fun vz1 =>
  w_let (w_up vz1 1076 67 ((vz1 1076 67) + 1)) fun hz2 =>
  if (hz2 1076 75) = 0 then
    (if x1 = 41 then
      (q_206_29 hz2 x1)
    else
      (w_gd (g_199 ((hz2 1076 72) - 1)) <|
      if (v_199 hz2 ((hz2 1076 72) - 1)) = 0 then
        ((p_195 hz2 2 (hz2 1076 80)).bind fun vz23 =>
        some vz23)
      else
        (q_206_29 hz2 x1)))
  else
    (some hz2)
theorem p_206_ok {X : List Int32}  {h : Hp} {x1 : Int32}  {r : Hp} (hF : p_206 h x1 = some r) : k_Ev X 3 206 [.ref (1076 + 1), .int x1] h (.inl none, r) := by
  refine k_of hk_206 ?_
  show k_Go X 3 206 (0, [.ref (1076 + 1), .int x1, (.retAddr 0), (.retAddr 0)], []) h _
  unfold p_206 at hF
  refine kg_aload hk_206 rfl rfl rfl ?_
  refine kg_push (x := 1) hk_206 rfl (by decide) rfl ?_
  refine wf_bind hF (fun vz1 hvz1 hF => ?_)
  refine kg_call (as := [.ref (1076 + 1), .int 1]) (rest := []) hk_206 rfl (Or.inr (Or.inr (Or.inr ⟨Or.inl rfl, _, _, rfl, wc_1076⟩))) rfl rfl rfl (Nat.not_lt.mpr (Nat.le_of_ble_eq_true rfl)) (p_202_ok hvz1) (by decide) rfl ?_
  refine kg_aload hk_206 rfl rfl rfl ?_
  refine kg_dup hk_206 rfl rfl rfl ?_
  refine kg_get (v := .int (vz1 1076 67)) hk_206 rfl wk_1076_67 rfl rfl ?_
  refine kg_push (x := 1) hk_206 rfl (by decide) rfl ?_
  refine kg_bin (z := ((vz1 1076 67) + 1)) hk_206 rfl rfl rfl ?_
  refine wf_let hF (fun hz2 hhz2 hF => ?_)
  refine kg_put hk_206 rfl wk_1076_67 rfl rfl hhz2 rfl ?_
  refine kg_aload hk_206 rfl rfl rfl ?_
  refine kg_get (v := .int (hz2 1076 75)) hk_206 rfl wk_1076_75 rfl rfl ?_
  refine wf_if hF (fun cz3 hF => ?_) (fun cz3 hF => ?_)
  · refine kg_ifT hk_206 rfl (jc_T0 cz3) ?_
    refine kg_iload hk_206 rfl rfl rfl ?_
    refine kg_push (x := 41) hk_206 rfl (by decide) rfl ?_
    refine wf_if hF (fun cz4 hF => ?_) (fun cz4 hF => ?_)
    · refine kg_icT hk_206 rfl (jc_T0 cz4) ?_
      exact q_206_29_ok hF _ _
    · refine kg_icF hk_206 rfl (jc_F0 cz4) rfl ?_
      refine kg_aload hk_206 rfl rfl rfl ?_
      refine kg_aload hk_206 rfl rfl rfl ?_
      refine kg_get (v := .int (hz2 1076 72)) hk_206 rfl wk_1076_72 rfl rfl ?_
      refine kg_push (x := 1) hk_206 rfl (by decide) rfl ?_
      refine kg_bin (z := ((hz2 1076 72) - 1)) hk_206 rfl rfl rfl ?_
      refine wf_gd hF (fun gz21 hF => ?_)
      refine kg_call (as := [.ref (1076 + 1), .int ((hz2 1076 72) - 1)]) (rest := []) hk_206 rfl (Or.inr (Or.inr (Or.inr ⟨Or.inl rfl, _, _, rfl, wc_1076⟩))) rfl rfl rfl (Nat.not_lt.mpr (Nat.le_of_ble_eq_true rfl)) (v_199_ok gz21) (by decide) rfl ?_
      refine wf_if hF (fun cz22 hF => ?_) (fun cz22 hF => ?_)
      · refine kg_ifF hk_206 rfl (jc_F1 cz22) rfl ?_
        refine kg_aload hk_206 rfl rfl rfl ?_
        refine kg_push (x := 2) hk_206 rfl (by decide) rfl ?_
        refine kg_aload hk_206 rfl rfl rfl ?_
        refine kg_get (v := .int (hz2 1076 80)) hk_206 rfl wk_1076_80 rfl rfl ?_
        refine wf_bind hF (fun vz23 hvz23 hF => ?_)
        refine kg_call (as := [.ref (1076 + 1), .int 2, .int (hz2 1076 80)]) (rest := []) hk_206 rfl (Or.inr (Or.inr (Or.inr ⟨Or.inl rfl, _, _, rfl, wc_1076⟩))) rfl rfl rfl (Nat.not_lt.mpr (Nat.le_of_ble_eq_true rfl)) (p_195_ok hvz23) (by decide) rfl ?_
        have hF := Option.some.inj hF
        subst hF
        exact kg_ret hk_206 rfl rfl
      · refine kg_ifT hk_206 rfl (jc_T1 cz22) ?_
        exact q_206_29_ok hF _ _
  · refine kg_ifF hk_206 rfl (jc_F0 cz3) rfl ?_
    have hF := Option.some.inj hF
    subst hF
    exact kg_ret hk_206 rfl rfl
-- NotebookWeirModel.reckons()V
theorem hk_207 : jP[207]? = some (jc_207, 3, [], []) := by rfl
def q_207_65 (h : Hp) (x2 : Int32) : Option ((Int32 × Hp) ⊕ Hp) :=
  (p_202 h (v_201 x2)).bind fun vz14 =>
  (p_203 vz14 x2).bind fun vz15 =>
  w_let (w_up vz15 1076 67 ((vz15 1076 67) + 1)) fun hz16 =>
  some (.inl (1, hz16))
theorem q_207_65_ok {X : List Int32} {o : kO}  {h : Hp} {x2 : Int32}  {r : (Int32 × Hp) ⊕ Hp} (hF : q_207_65 h x2 = some r) (hK : ∀ s' : Int32 × Hp, r = .inl s' → ∀ (u2 : Value), k_Go X 7 207 (8, [.ref (1076 + 1), .int (s'.1), u2], []) s'.2 o) (hX0 : ∀ e : Hp, r = .inr e → (.inl none, e) = o) : ∀ (u1 : Value), k_Go X 7 207 (65, [.ref (1076 + 1), u1, .int x2], []) h o := by
  intro u1
  unfold q_207_65 at hF
  refine kg_aload hk_207 rfl rfl rfl ?_
  refine kg_iload hk_207 rfl rfl rfl ?_
  refine kg_call (as := [.int x2]) (rest := [.ref (1076 + 1)]) hk_207 rfl (Or.inl rfl) rfl rfl rfl (Nat.not_lt.mpr (Nat.le_of_ble_eq_true rfl)) (v_201_ok) (by decide) rfl ?_
  refine wf_bind hF (fun vz14 hvz14 hF => ?_)
  refine kg_call (as := [.ref (1076 + 1), .int (v_201 x2)]) (rest := []) hk_207 rfl (Or.inr (Or.inr (Or.inr ⟨Or.inl rfl, _, _, rfl, wc_1076⟩))) rfl rfl rfl (Nat.not_lt.mpr (Nat.le_of_ble_eq_true rfl)) (p_202_ok hvz14) (by decide) rfl ?_
  refine kg_aload hk_207 rfl rfl rfl ?_
  refine kg_iload hk_207 rfl rfl rfl ?_
  refine wf_bind hF (fun vz15 hvz15 hF => ?_)
  refine kg_call (as := [.ref (1076 + 1), .int x2]) (rest := []) hk_207 rfl (Or.inr (Or.inr (Or.inr ⟨Or.inl rfl, _, _, rfl, wc_1076⟩))) rfl rfl rfl (Nat.not_lt.mpr (Nat.le_of_ble_eq_true rfl)) (p_203_ok hvz15) (by decide) rfl ?_
  refine kg_aload hk_207 rfl rfl rfl ?_
  refine kg_dup hk_207 rfl rfl rfl ?_
  refine kg_get (v := .int (vz15 1076 67)) hk_207 rfl wk_1076_67 rfl rfl ?_
  refine kg_push (x := 1) hk_207 rfl (by decide) rfl ?_
  refine kg_bin (z := ((vz15 1076 67) + 1)) hk_207 rfl rfl rfl ?_
  refine wf_let hF (fun hz16 hhz16 hF => ?_)
  refine kg_put hk_207 rfl wk_1076_67 rfl rfl hhz16 rfl ?_
  refine kg_push (x := 1) hk_207 rfl (by decide) rfl ?_
  refine kg_istore (L2 := [.ref (1076 + 1), .int 1, .int x2]) hk_207 rfl (Nat.le_of_ble_eq_true rfl) rfl rfl ?_
  refine kg_goto hk_207 rfl ?_
  refine kg_goto hk_207 rfl ?_
  have hF := Option.some.inj hF
  exact hK _ hF.symm _
def q_207_90 (h : Hp) (x2 : Int32) : Option ((Int32 × Hp) ⊕ Hp) :=
  (p_206 h x2).bind fun vz20 =>
  some (.inl ((if x2 = 44 then 1 else 0 : Int32), vz20))
theorem q_207_90_ok {X : List Int32} {o : kO}  {h : Hp} {x2 : Int32}  {r : (Int32 × Hp) ⊕ Hp} (hF : q_207_90 h x2 = some r) (hK : ∀ s' : Int32 × Hp, r = .inl s' → ∀ (u2 : Value), k_Go X 7 207 (8, [.ref (1076 + 1), .int (s'.1), u2], []) s'.2 o) (hX0 : ∀ e : Hp, r = .inr e → (.inl none, e) = o) : ∀ (u1 : Value), k_Go X 7 207 (90, [.ref (1076 + 1), u1, .int x2], []) h o := by
  intro u1
  unfold q_207_90 at hF
  refine kg_aload hk_207 rfl rfl rfl ?_
  refine kg_iload hk_207 rfl rfl rfl ?_
  refine wf_bind hF (fun vz20 hvz20 hF => ?_)
  refine kg_call (as := [.ref (1076 + 1), .int x2]) (rest := []) hk_207 rfl (Or.inr (Or.inr (Or.inr ⟨Or.inl rfl, _, _, rfl, wc_1076⟩))) rfl rfl rfl (Nat.not_lt.mpr (Nat.le_of_ble_eq_true rfl)) (p_206_ok hvz20) (by decide) rfl ?_
  refine kg_iload hk_207 rfl rfl rfl ?_
  refine kg_push (x := 44) hk_207 rfl (by decide) rfl ?_
  refine kv_mid (p := 99) (L := [.ref (1076 + 1), u1, .int x2]) (S := [.int (if x2 = 44 then 1 else 0 : Int32)]) ?_ (fun hK => ?_)
  · refine kg_istore (L2 := [.ref (1076 + 1), .int (if x2 = 44 then 1 else 0 : Int32), .int x2]) hk_207 rfl (Nat.le_of_ble_eq_true rfl) rfl rfl ?_
    refine kg_goto hk_207 rfl ?_
    refine kg_goto hk_207 rfl ?_
    have hF := Option.some.inj hF
    exact hK _ hF.symm _
  · by_cases cz21 : x2 = 44
    · have hK := kv_T cz21 hK
      refine kg_icF hk_207 rfl (jc_F1 cz21) rfl ?_
      refine kg_push (x := 1) hk_207 rfl (by decide) rfl ?_
      refine kg_goto hk_207 rfl ?_
      exact hK
    · have hK := kv_F cz21 hK
      refine kg_icT hk_207 rfl (jc_T1 cz21) ?_
      refine kg_push (x := 0) hk_207 rfl (by decide) rfl ?_
      exact hK
def q_207_28 (h : Hp) (x1 : Int32) : Option ((Int32 × Hp) ⊕ Hp) :=
  w_gd (g_150 h) <|
  if x1 = 0 then
    (if (v_150 h) = 46 then
      ((p_205 h).bind fun vz12 =>
      some (.inl (x1, vz12)))
    else
      (if (v_150 h) = 43 then
        (q_207_65 h (v_150 h))
      else
        (if (v_150 h) = 45 then
          (q_207_65 h (v_150 h))
        else
          (if (v_150 h) = 42 then
            (q_207_65 h (v_150 h))
          else
            (if (v_150 h) = 41 then
              (q_207_90 h (v_150 h))
            else
              (if (v_150 h) = 93 then
                (q_207_90 h (v_150 h))
              else
                (if (v_150 h) = 44 then
                  (q_207_90 h (v_150 h))
                else
                  ((p_202 h 1).bind fun vz24 =>
                  some (.inl (x1, vz24))))))))))
  else
    ((p_204 h (v_150 h)).bind fun vz25 =>
    some (.inl ((if (v_150 h) = 35 then 1 else (if (v_150 h) = 40 then 1 else (if (v_150 h) = 91 then 1 else 0 : Int32) : Int32) : Int32), vz25)))
theorem q_207_28_ok {X : List Int32} {o : kO}  {h : Hp} {x1 : Int32}  {r : (Int32 × Hp) ⊕ Hp} (hF : q_207_28 h x1 = some r) (hK : ∀ s' : Int32 × Hp, r = .inl s' → ∀ (u2 : Value), k_Go X 7 207 (8, [.ref (1076 + 1), .int (s'.1), u2], []) s'.2 o) (hX0 : ∀ e : Hp, r = .inr e → (.inl none, e) = o) : ∀ (u2 : Value), k_Go X 7 207 (28, [.ref (1076 + 1), .int x1, u2], []) h o := by
  intro u2
  unfold q_207_28 at hF
  refine kg_aload hk_207 rfl rfl rfl ?_
  refine wf_gd hF (fun gz9 hF => ?_)
  refine kg_call (as := [.ref (1076 + 1)]) (rest := []) hk_207 rfl (Or.inr (Or.inr (Or.inr ⟨Or.inl rfl, _, _, rfl, wc_1076⟩))) rfl rfl rfl (Nat.not_lt.mpr (Nat.le_of_ble_eq_true rfl)) (v_150_ok gz9) (by decide) rfl ?_
  refine kg_istore (L2 := [.ref (1076 + 1), .int x1, .int (v_150 h)]) hk_207 rfl (Nat.le_of_ble_eq_true rfl) rfl rfl ?_
  refine kg_iload hk_207 rfl rfl rfl ?_
  refine wf_if hF (fun cz10 hF => ?_) (fun cz10 hF => ?_)
  · refine kg_ifT hk_207 rfl (jc_T0 cz10) ?_
    refine kg_iload hk_207 rfl rfl rfl ?_
    refine kg_push (x := 46) hk_207 rfl (by decide) rfl ?_
    refine wf_if hF (fun cz11 hF => ?_) (fun cz11 hF => ?_)
    · refine kg_icF hk_207 rfl (jc_F1 cz11) rfl ?_
      refine kg_aload hk_207 rfl rfl rfl ?_
      refine wf_bind hF (fun vz12 hvz12 hF => ?_)
      refine kg_call (as := [.ref (1076 + 1)]) (rest := []) hk_207 rfl (Or.inr (Or.inr (Or.inr ⟨Or.inl rfl, _, _, rfl, wc_1076⟩))) rfl rfl rfl (Nat.not_lt.mpr (Nat.le_of_ble_eq_true rfl)) (p_205_ok hvz12) (by decide) rfl ?_
      refine kg_goto hk_207 rfl ?_
      refine kg_goto hk_207 rfl ?_
      have hF := Option.some.inj hF
      exact hK _ hF.symm _
    · refine kg_icT hk_207 rfl (jc_T1 cz11) ?_
      refine kg_iload hk_207 rfl rfl rfl ?_
      refine kg_push (x := 43) hk_207 rfl (by decide) rfl ?_
      refine wf_if hF (fun cz13 hF => ?_) (fun cz13 hF => ?_)
      · refine kg_icT hk_207 rfl (jc_T0 cz13) ?_
        exact q_207_65_ok hF hK hX0 _
      · refine kg_icF hk_207 rfl (jc_F0 cz13) rfl ?_
        refine kg_iload hk_207 rfl rfl rfl ?_
        refine kg_push (x := 45) hk_207 rfl (by decide) rfl ?_
        refine wf_if hF (fun cz17 hF => ?_) (fun cz17 hF => ?_)
        · refine kg_icT hk_207 rfl (jc_T0 cz17) ?_
          exact q_207_65_ok hF hK hX0 _
        · refine kg_icF hk_207 rfl (jc_F0 cz17) rfl ?_
          refine kg_iload hk_207 rfl rfl rfl ?_
          refine kg_push (x := 42) hk_207 rfl (by decide) rfl ?_
          refine wf_if hF (fun cz18 hF => ?_) (fun cz18 hF => ?_)
          · refine kg_icF hk_207 rfl (jc_F1 cz18) rfl ?_
            exact q_207_65_ok hF hK hX0 _
          · refine kg_icT hk_207 rfl (jc_T1 cz18) ?_
            refine kg_iload hk_207 rfl rfl rfl ?_
            refine kg_push (x := 41) hk_207 rfl (by decide) rfl ?_
            refine wf_if hF (fun cz19 hF => ?_) (fun cz19 hF => ?_)
            · refine kg_icT hk_207 rfl (jc_T0 cz19) ?_
              exact q_207_90_ok hF hK hX0 _
            · refine kg_icF hk_207 rfl (jc_F0 cz19) rfl ?_
              refine kg_iload hk_207 rfl rfl rfl ?_
              refine kg_push (x := 93) hk_207 rfl (by decide) rfl ?_
              refine wf_if hF (fun cz22 hF => ?_) (fun cz22 hF => ?_)
              · refine kg_icT hk_207 rfl (jc_T0 cz22) ?_
                exact q_207_90_ok hF hK hX0 _
              · refine kg_icF hk_207 rfl (jc_F0 cz22) rfl ?_
                refine kg_iload hk_207 rfl rfl rfl ?_
                refine kg_push (x := 44) hk_207 rfl (by decide) rfl ?_
                refine wf_if hF (fun cz23 hF => ?_) (fun cz23 hF => ?_)
                · refine kg_icF hk_207 rfl (jc_F1 cz23) rfl ?_
                  exact q_207_90_ok hF hK hX0 _
                · refine kg_icT hk_207 rfl (jc_T1 cz23) ?_
                  refine kg_aload hk_207 rfl rfl rfl ?_
                  refine kg_push (x := 1) hk_207 rfl (by decide) rfl ?_
                  refine wf_bind hF (fun vz24 hvz24 hF => ?_)
                  refine kg_call (as := [.ref (1076 + 1), .int 1]) (rest := []) hk_207 rfl (Or.inr (Or.inr (Or.inr ⟨Or.inl rfl, _, _, rfl, wc_1076⟩))) rfl rfl rfl (Nat.not_lt.mpr (Nat.le_of_ble_eq_true rfl)) (p_202_ok hvz24) (by decide) rfl ?_
                  refine kg_goto hk_207 rfl ?_
                  have hF := Option.some.inj hF
                  exact hK _ hF.symm _
  · refine kg_ifF hk_207 rfl (jc_F0 cz10) rfl ?_
    refine kg_aload hk_207 rfl rfl rfl ?_
    refine kg_iload hk_207 rfl rfl rfl ?_
    refine wf_bind hF (fun vz25 hvz25 hF => ?_)
    refine kg_call (as := [.ref (1076 + 1), .int (v_150 h)]) (rest := []) hk_207 rfl (Or.inr (Or.inr (Or.inr ⟨Or.inl rfl, _, _, rfl, wc_1076⟩))) rfl rfl rfl (Nat.not_lt.mpr (Nat.le_of_ble_eq_true rfl)) (p_204_ok hvz25) (by decide) rfl ?_
    refine kg_iload hk_207 rfl rfl rfl ?_
    refine kg_push (x := 35) hk_207 rfl (by decide) rfl ?_
    refine kv_mid (p := 48) (L := [.ref (1076 + 1), .int x1, .int (v_150 h)]) (S := [.int (if (v_150 h) = 35 then 1 else (if (v_150 h) = 40 then 1 else (if (v_150 h) = 91 then 1 else 0 : Int32) : Int32) : Int32)]) ?_ (fun hK => ?_)
    · refine kg_istore (L2 := [.ref (1076 + 1), .int (if (v_150 h) = 35 then 1 else (if (v_150 h) = 40 then 1 else (if (v_150 h) = 91 then 1 else 0 : Int32) : Int32) : Int32), .int (v_150 h)]) hk_207 rfl (Nat.le_of_ble_eq_true rfl) rfl rfl ?_
      refine kg_goto hk_207 rfl ?_
      refine kg_goto hk_207 rfl ?_
      have hF := Option.some.inj hF
      exact hK _ hF.symm _
    · by_cases cz26 : (v_150 h) = 35
      · have hK := kv_T cz26 hK
        refine kg_icT hk_207 rfl (jc_T0 cz26) ?_
        refine kg_push (x := 1) hk_207 rfl (by decide) rfl ?_
        refine kg_goto hk_207 rfl ?_
        exact hK
      · have hK := kv_F cz26 hK
        refine kg_icF hk_207 rfl (jc_F0 cz26) rfl ?_
        refine kg_iload hk_207 rfl rfl rfl ?_
        refine kg_push (x := 40) hk_207 rfl (by decide) rfl ?_
        by_cases cz27 : (v_150 h) = 40
        · have hK := kv_T cz27 hK
          refine kg_icT hk_207 rfl (jc_T0 cz27) ?_
          refine kg_push (x := 1) hk_207 rfl (by decide) rfl ?_
          refine kg_goto hk_207 rfl ?_
          exact hK
        · have hK := kv_F cz27 hK
          refine kg_icF hk_207 rfl (jc_F0 cz27) rfl ?_
          refine kg_iload hk_207 rfl rfl rfl ?_
          refine kg_push (x := 91) hk_207 rfl (by decide) rfl ?_
          by_cases cz28 : (v_150 h) = 91
          · have hK := kv_T cz28 hK
            refine kg_icF hk_207 rfl (jc_F1 cz28) rfl ?_
            refine kg_push (x := 1) hk_207 rfl (by decide) rfl ?_
            refine kg_goto hk_207 rfl ?_
            exact hK
          · have hK := kv_F cz28 hK
            refine kg_icT hk_207 rfl (jc_T1 cz28) ?_
            refine kg_push (x := 0) hk_207 rfl (by decide) rfl ?_
            exact hK
def l_207_8 (x1 : Int32) (h : Hp) : Option ((Int32 × Hp) ⊕ Hp) :=
  if (h 1076 75) = 0 then
    (if x1 = 0 then
      (if (h 1076 70) ≤ 0 then
        (if (h 1076 67) < (h 1076 66) then
          (w_gd (w_ix (h 1076 67) 40) <|
          if (h 1127 (h 1076 67).toNatClampNeg) = 59 then
            (some (.inr h))
          else
            (q_207_28 h x1))
        else
          (some (.inr h)))
      else
        (q_207_28 h x1))
    else
      (q_207_28 h x1))
  else
    (some (.inr h))
theorem l_207_8_st {X : List Int32} {o : kO}  {h : Hp} {x1 : Int32}  {r : (Int32 × Hp) ⊕ Hp} (hF : l_207_8 x1 h = some r) (hK : ∀ s' : Int32 × Hp, r = .inl s' → ∀ (u2 : Value), k_Go X 7 207 (8, [.ref (1076 + 1), .int (s'.1), u2], []) s'.2 o) (hX0 : ∀ e : Hp, r = .inr e → (.inl none, e) = o) : ∀ (u2 : Value), k_Go X 7 207 (8, [.ref (1076 + 1), .int x1, u2], []) h o := by
  intro u2
  refine kg_aload hk_207 rfl rfl rfl ?_
  refine kg_get (v := .int (h 1076 75)) hk_207 rfl wk_1076_75 rfl rfl ?_
  refine wf_if hF (fun cz3 hF => ?_) (fun cz3 hF => ?_)
  · refine kg_ifF hk_207 rfl (jc_F1 cz3) rfl ?_
    refine kg_iload hk_207 rfl rfl rfl ?_
    refine wf_if hF (fun cz4 hF => ?_) (fun cz4 hF => ?_)
    · refine kg_ifF hk_207 rfl (jc_F1 cz4) rfl ?_
      refine kg_aload hk_207 rfl rfl rfl ?_
      refine kg_get (v := .int (h 1076 70)) hk_207 rfl wk_1076_70 rfl rfl ?_
      refine wf_if hF (fun cz5 hF => ?_) (fun cz5 hF => ?_)
      · refine kg_ifF hk_207 rfl (jc_F4 cz5) rfl ?_
        refine kg_aload hk_207 rfl rfl rfl ?_
        refine kg_get (v := .int (h 1076 67)) hk_207 rfl wk_1076_67 rfl rfl ?_
        refine kg_aload hk_207 rfl rfl rfl ?_
        refine kg_get (v := .int (h 1076 66)) hk_207 rfl wk_1076_66 rfl rfl ?_
        refine wf_if hF (fun cz6 hF => ?_) (fun cz6 hF => ?_)
        · refine kg_icF hk_207 rfl (jc_F3 cz6) rfl ?_
          refine kg_aload hk_207 rfl rfl rfl ?_
          refine kg_get (v := .ref (1127 + 1)) hk_207 rfl wk_1076_65 rfl rfl ?_
          refine kg_aload hk_207 rfl rfl rfl ?_
          refine kg_get (v := .int (h 1076 67)) hk_207 rfl wk_1076_67 rfl rfl ?_
          refine wf_gd hF (fun gz7 hF => ?_)
          refine kg_ald (y := (h 1127 (h 1076 67).toNatClampNeg)) hk_207 rfl wc_1127 gz7 rfl rfl ?_
          refine kg_push (x := 59) hk_207 rfl (by decide) rfl ?_
          refine wf_if hF (fun cz8 hF => ?_) (fun cz8 hF => ?_)
          · refine kg_icT hk_207 rfl (jc_T0 cz8) ?_
            have hF := Option.some.inj hF
            exact kg_ret hk_207 rfl (hX0 _ hF.symm)
          · refine kg_icF hk_207 rfl (jc_F0 cz8) rfl ?_
            exact q_207_28_ok hF hK hX0 _
        · refine kg_icT hk_207 rfl (jc_T3 cz6) ?_
          have hF := Option.some.inj hF
          exact kg_ret hk_207 rfl (hX0 _ hF.symm)
      · refine kg_ifT hk_207 rfl (jc_T4 cz5) ?_
        exact q_207_28_ok hF hK hX0 _
    · refine kg_ifT hk_207 rfl (jc_T1 cz4) ?_
      exact q_207_28_ok hF hK hX0 _
  · refine kg_ifT hk_207 rfl (jc_T1 cz3) ?_
    have hF := Option.some.inj hF
    exact kg_ret hk_207 rfl (hX0 _ hF.symm)
theorem l_207_8_ok {X : List Int32} {o : kO}    {n : Nat} {s : Int32 × Hp} {e : Hp} (hF : w_lp (fun (s : Int32 × Hp) => l_207_8 s.1 s.2) n s = some e) (hX0 : (.inl none, e) = o) : ∀ (u2 : Value), k_Go X 7 207 (8, [.ref (1076 + 1), .int s.1, u2], []) s.2 o := by
  exact w_lp_ok (P := (fun (s : Int32 × Hp) => ∀ (u2 : Value), k_Go X 7 207 (8, [.ref (1076 + 1), .int s.1, u2], []) s.2 o)) (Q := (fun (e : Hp) => ((.inl none, e) = o))) (fun s r hF hK hX => l_207_8_st hF hK (fun x hx => (hX _ hx))) n s e hF hX0
def p_207 (h : Hp) : Option (Hp) :=
  w_let (w_up h 1076 70 0) fun hz1 =>
  w_let (w_up hz1 1076 72 0) fun hz2 =>
  w_lp (fun (s : Int32 × Hp) => l_207_8 s.1 s.2) w_N (1, hz2)
theorem p_207_ok {X : List Int32}  {h : Hp}   {r : Hp} (hF : p_207 h = some r) : k_Ev X 7 207 [.ref (1076 + 1)] h (.inl none, r) := by
  refine k_of hk_207 ?_
  show k_Go X 7 207 (0, [.ref (1076 + 1), (.retAddr 0), (.retAddr 0)], []) h _
  unfold p_207 at hF
  refine kg_aload hk_207 rfl rfl rfl ?_
  refine kg_push (x := 0) hk_207 rfl (by decide) rfl ?_
  refine wf_let hF (fun hz1 hhz1 hF => ?_)
  refine kg_put hk_207 rfl wk_1076_70 rfl rfl hhz1 rfl ?_
  refine kg_aload hk_207 rfl rfl rfl ?_
  refine kg_push (x := 0) hk_207 rfl (by decide) rfl ?_
  refine wf_let hF (fun hz2 hhz2 hF => ?_)
  refine kg_put hk_207 rfl wk_1076_72 rfl rfl hhz2 rfl ?_
  refine kg_push (x := 1) hk_207 rfl (by decide) rfl ?_
  refine kg_istore (L2 := [.ref (1076 + 1), .int 1, (.retAddr 0)]) hk_207 rfl (Nat.le_of_ble_eq_true rfl) rfl rfl ?_
  exact l_207_8_ok hF rfl _
-- NotebookWeirModel.changesName(I)V
theorem hk_209 : jP[209]? = some (jc_209, 2, [], []) := by rfl
def q_209_35 (h : Hp) : Option (Hp) :=
  (p_195 h 2 (h 1076 80)).bind fun vz6 =>
  some vz6
theorem q_209_35_ok {X : List Int32}   {h : Hp}  {r : Hp} (hF : q_209_35 h = some r)  : ∀ (u1 : Value), k_Go X 5 209 (35, [.ref (1076 + 1), u1], []) h (.inl none, r) := by
  intro u1
  unfold q_209_35 at hF
  refine kg_aload hk_209 rfl rfl rfl ?_
  refine kg_push (x := 2) hk_209 rfl (by decide) rfl ?_
  refine kg_aload hk_209 rfl rfl rfl ?_
  refine kg_get (v := .int (h 1076 80)) hk_209 rfl wk_1076_80 rfl rfl ?_
  refine wf_bind hF (fun vz6 hvz6 hF => ?_)
  refine kg_call (as := [.ref (1076 + 1), .int 2, .int (h 1076 80)]) (rest := []) hk_209 rfl (Or.inr (Or.inr (Or.inr ⟨Or.inl rfl, _, _, rfl, wc_1076⟩))) rfl rfl rfl (Nat.not_lt.mpr (Nat.le_of_ble_eq_true rfl)) (p_195_ok hvz6) (by decide) rfl ?_
  refine kg_goto hk_209 rfl ?_
  have hF := Option.some.inj hF
  subst hF
  exact kg_ret hk_209 rfl rfl
def q_209_25 (h : Hp) : Option (Hp) :=
  if (h 1132 0) = (-1) then
    (w_gd (g_199 0) <|
    if (v_199 h 0) = 0 then
      (q_209_35 h)
    else
      (w_let (w_up h 1130 1 ((h 1130 1) + (h 1132 1))) fun hz7 =>
      some hz7))
  else
    (q_209_35 h)
theorem q_209_25_ok {X : List Int32}   {h : Hp}  {r : Hp} (hF : q_209_25 h = some r)  : ∀ (u1 : Value), k_Go X 5 209 (25, [.ref (1076 + 1), u1], []) h (.inl none, r) := by
  intro u1
  unfold q_209_25 at hF
  refine kg_aload hk_209 rfl rfl rfl ?_
  refine kg_get (v := .ref (1132 + 1)) hk_209 rfl wk_1076_78 rfl rfl ?_
  refine kg_push (x := 0) hk_209 rfl (by decide) rfl ?_
  refine kg_ald (y := (h 1132 0)) hk_209 rfl wc_1132 (by decide) rfl rfl ?_
  refine kg_push (x := (-1)) hk_209 rfl (by decide) rfl ?_
  refine wf_if hF (fun cz3 hF => ?_) (fun cz3 hF => ?_)
  · refine kg_icF hk_209 rfl (jc_F1 cz3) rfl ?_
    refine kg_aload hk_209 rfl rfl rfl ?_
    refine kg_push (x := 0) hk_209 rfl (by decide) rfl ?_
    refine wf_gd hF (fun gz4 hF => ?_)
    refine kg_call (as := [.ref (1076 + 1), .int 0]) (rest := []) hk_209 rfl (Or.inr (Or.inr (Or.inr ⟨Or.inl rfl, _, _, rfl, wc_1076⟩))) rfl rfl rfl (Nat.not_lt.mpr (Nat.le_of_ble_eq_true rfl)) (v_199_ok gz4) (by decide) rfl ?_
    refine wf_if hF (fun cz5 hF => ?_) (fun cz5 hF => ?_)
    · refine kg_ifF hk_209 rfl (jc_F1 cz5) rfl ?_
      exact q_209_35_ok hF _
    · refine kg_ifT hk_209 rfl (jc_T1 cz5) ?_
      refine kg_aload hk_209 rfl rfl rfl ?_
      refine kg_get (v := .ref (1130 + 1)) hk_209 rfl wk_1076_71 rfl rfl ?_
      refine kg_push (x := 1) hk_209 rfl (by decide) rfl ?_
      refine kg_dup2 hk_209 rfl ⟨rfl, rfl⟩ rfl ?_
      refine kg_ald (y := (h 1130 1)) hk_209 rfl wc_1130 (by decide) rfl rfl ?_
      refine kg_aload hk_209 rfl rfl rfl ?_
      refine kg_get (v := .ref (1132 + 1)) hk_209 rfl wk_1076_78 rfl rfl ?_
      refine kg_push (x := 1) hk_209 rfl (by decide) rfl ?_
      refine kg_ald (y := (h 1132 1)) hk_209 rfl wc_1132 (by decide) rfl rfl ?_
      refine kg_bin (z := ((h 1130 1) + (h 1132 1))) hk_209 rfl rfl rfl ?_
      refine wf_let hF (fun hz7 hhz7 hF => ?_)
      refine kg_ast hk_209 rfl wc_1130 (by decide) hhz7 rfl ?_
      have hF := Option.some.inj hF
      subst hF
      exact kg_ret hk_209 rfl rfl
  · refine kg_icT hk_209 rfl (jc_T1 cz3) ?_
    exact q_209_35_ok hF _
def p_209 (h : Hp) (x1 : Int32) : Option (Hp) :=
  if ((h 1076 74) &&& (v_162 x1)) = 0 then
    ((p_194 h (h 1076 77) x1).bind fun vz2 =>
    q_209_25 vz2.2)
  else
    ((p_193 h 1131 (9 * (x1 - 97)) 1132 0).bind fun vz8 =>
    q_209_25 vz8)
theorem p_209_ok {X : List Int32}  {h : Hp} {x1 : Int32}  {r : Hp} (hF : p_209 h x1 = some r) : k_Ev X 5 209 [.ref (1076 + 1), .int x1] h (.inl none, r) := by
  refine k_of hk_209 ?_
  show k_Go X 5 209 (0, [.ref (1076 + 1), .int x1], []) h _
  unfold p_209 at hF
  refine kg_aload hk_209 rfl rfl rfl ?_
  refine kg_get (v := .int (h 1076 74)) hk_209 rfl wk_1076_74 rfl rfl ?_
  refine kg_iload hk_209 rfl rfl rfl ?_
  refine kg_call (as := [.int x1]) (rest := [.int (h 1076 74)]) hk_209 rfl (Or.inl rfl) rfl rfl rfl (Nat.not_lt.mpr (Nat.le_of_ble_eq_true rfl)) (v_162_ok) (by decide) rfl ?_
  refine kg_bin (z := ((h 1076 74) &&& (v_162 x1))) hk_209 rfl rfl rfl ?_
  refine wf_if hF (fun cz1 hF => ?_) (fun cz1 hF => ?_)
  · refine kg_ifT hk_209 rfl (jc_T0 cz1) ?_
    refine kg_aload hk_209 rfl rfl rfl ?_
    refine kg_aload hk_209 rfl rfl rfl ?_
    refine kg_get (v := .int (h 1076 77)) hk_209 rfl wk_1076_77 rfl rfl ?_
    refine kg_iload hk_209 rfl rfl rfl ?_
    refine wf_bind hF (fun vz2 hvz2 hF => ?_)
    refine kg_call (as := [.ref (1076 + 1), .int (h 1076 77), .int x1]) (rest := []) hk_209 rfl (Or.inr (Or.inr (Or.inr ⟨Or.inl rfl, _, _, rfl, wc_1076⟩))) rfl rfl rfl (Nat.not_lt.mpr (Nat.le_of_ble_eq_true rfl)) (p_194_ok hvz2) (by decide) rfl ?_
    refine kg_pop hk_209 rfl rfl rfl ?_
    exact q_209_25_ok hF _
  · refine kg_ifF hk_209 rfl (jc_F0 cz1) rfl ?_
    refine kg_aload hk_209 rfl rfl rfl ?_
    refine kg_aload hk_209 rfl rfl rfl ?_
    refine kg_get (v := .ref (1131 + 1)) hk_209 rfl wk_1076_73 rfl rfl ?_
    refine kg_push (x := 9) hk_209 rfl (by decide) rfl ?_
    refine kg_iload hk_209 rfl rfl rfl ?_
    refine kg_push (x := 97) hk_209 rfl (by decide) rfl ?_
    refine kg_bin (z := (x1 - 97)) hk_209 rfl rfl rfl ?_
    refine kg_bin (z := (9 * (x1 - 97))) hk_209 rfl rfl rfl ?_
    refine kg_aload hk_209 rfl rfl rfl ?_
    refine kg_get (v := .ref (1132 + 1)) hk_209 rfl wk_1076_78 rfl rfl ?_
    refine kg_push (x := 0) hk_209 rfl (by decide) rfl ?_
    refine wf_bind hF (fun vz8 hvz8 hF => ?_)
    refine kg_call (as := [.ref (1076 + 1), .ref (1131 + 1), .int (9 * (x1 - 97)), .ref (1132 + 1), .int 0]) (rest := []) hk_209 rfl (Or.inr (Or.inr (Or.inr ⟨Or.inl rfl, _, _, rfl, wc_1076⟩))) rfl rfl rfl (Nat.not_lt.mpr (Nat.le_of_ble_eq_true rfl)) (p_193_ok (w_lenE wc_1131) (w_lenE wc_1132) hvz8) (by decide) rfl ?_
    refine kg_goto hk_209 rfl ?_
    exact q_209_25_ok hF _
-- NotebookWeirModel.runsStatements([I)V
theorem hk_208 : jP[208]? = some (jc_208, 5, [], []) := by rfl
def q_208_106 (h : Hp) (q1 : Nat) : Option ((Hp) ⊕ Hp) :=
  if (h 1076 75) = 0 then
    ((p_193 h 1130 0 q1 (9 * (h 1076 77))).bind fun vz20 =>
    some (.inl vz20))
  else
    (some (.inl h))
theorem q_208_106_ok {X : List Int32} {o : kO}  {h : Hp} {q1 : Nat} (t1 : w_tab[q1]? = some (50, (w_len q1), [])) {r : (Hp) ⊕ Hp} (hF : q_208_106 h q1 = some r) (hK : ∀ s' : Hp, r = .inl s' → ∀ (u2 : Value) (u3 : Value) (u4 : Value), k_Go X 8 208 (0, [.ref (1076 + 1), .ref (q1 + 1), u2, u3, u4], []) s' o) (hX0 : ∀ e : Hp, r = .inr e → (.inl none, e) = o) : ∀ (u2 : Value) (u3 : Value) (u4 : Value), k_Go X 8 208 (106, [.ref (1076 + 1), .ref (q1 + 1), u2, u3, u4], []) h o := by
  intro u2 u3 u4
  unfold q_208_106 at hF
  refine kg_aload hk_208 rfl rfl rfl ?_
  refine kg_get (v := .int (h 1076 75)) hk_208 rfl wk_1076_75 rfl rfl ?_
  refine wf_if hF (fun cz19 hF => ?_) (fun cz19 hF => ?_)
  · refine kg_ifF hk_208 rfl (jc_F1 cz19) rfl ?_
    refine kg_aload hk_208 rfl rfl rfl ?_
    refine kg_aload hk_208 rfl rfl rfl ?_
    refine kg_get (v := .ref (1130 + 1)) hk_208 rfl wk_1076_71 rfl rfl ?_
    refine kg_push (x := 0) hk_208 rfl (by decide) rfl ?_
    refine kg_aload hk_208 rfl rfl rfl ?_
    refine kg_push (x := 9) hk_208 rfl (by decide) rfl ?_
    refine kg_aload hk_208 rfl rfl rfl ?_
    refine kg_get (v := .int (h 1076 77)) hk_208 rfl wk_1076_77 rfl rfl ?_
    refine kg_bin (z := (9 * (h 1076 77))) hk_208 rfl rfl rfl ?_
    refine wf_bind hF (fun vz20 hvz20 hF => ?_)
    refine kg_call (as := [.ref (1076 + 1), .ref (1130 + 1), .int 0, .ref (q1 + 1), .int (9 * (h 1076 77))]) (rest := []) hk_208 rfl (Or.inr (Or.inr (Or.inr ⟨Or.inl rfl, _, _, rfl, wc_1076⟩))) rfl rfl rfl (Nat.not_lt.mpr (Nat.le_of_ble_eq_true rfl)) (p_193_ok (w_lenE wc_1130) (w_lenE t1) hvz20) (by decide) rfl ?_
    refine kg_goto hk_208 rfl ?_
    have hF := Option.some.inj hF
    exact hK _ hF.symm _ _ _
  · refine kg_ifT hk_208 rfl (jc_T1 cz19) ?_
    refine kg_goto hk_208 rfl ?_
    have hF := Option.some.inj hF
    exact hK _ hF.symm _ _ _
def q_208_81 (h : Hp) (q1 : Nat) (x2 : Int32) (x3 : Int32) : Option ((Hp) ⊕ Hp) :=
  if (h 1076 75) = 0 then
    (if x2 = 0 then
      (q_208_106 h q1)
    else
      ((p_193 h 1130 0 1131 (9 * (x3 - 97))).bind fun vz21 =>
      w_let (w_up vz21 1076 74 ((vz21 1076 74) ||| (v_162 x3))) fun hz22 =>
      some (.inl hz22)))
  else
    (q_208_106 h q1)
theorem q_208_81_ok {X : List Int32} {o : kO}  {h : Hp} {q1 : Nat} {x2 : Int32} {x3 : Int32} (t1 : w_tab[q1]? = some (50, (w_len q1), [])) {r : (Hp) ⊕ Hp} (hF : q_208_81 h q1 x2 x3 = some r) (hK : ∀ s' : Hp, r = .inl s' → ∀ (u2 : Value) (u3 : Value) (u4 : Value), k_Go X 8 208 (0, [.ref (1076 + 1), .ref (q1 + 1), u2, u3, u4], []) s' o) (hX0 : ∀ e : Hp, r = .inr e → (.inl none, e) = o) : ∀ (u4 : Value), k_Go X 8 208 (81, [.ref (1076 + 1), .ref (q1 + 1), .int x2, .int x3, u4], []) h o := by
  intro u4
  unfold q_208_81 at hF
  refine kg_aload hk_208 rfl rfl rfl ?_
  refine kg_get (v := .int (h 1076 75)) hk_208 rfl wk_1076_75 rfl rfl ?_
  refine wf_if hF (fun cz17 hF => ?_) (fun cz17 hF => ?_)
  · refine kg_ifF hk_208 rfl (jc_F1 cz17) rfl ?_
    refine kg_iload hk_208 rfl rfl rfl ?_
    refine wf_if hF (fun cz18 hF => ?_) (fun cz18 hF => ?_)
    · refine kg_ifT hk_208 rfl (jc_T0 cz18) ?_
      exact q_208_106_ok t1 hF hK hX0 _ _ _
    · refine kg_ifF hk_208 rfl (jc_F0 cz18) rfl ?_
      refine kg_aload hk_208 rfl rfl rfl ?_
      refine kg_aload hk_208 rfl rfl rfl ?_
      refine kg_get (v := .ref (1130 + 1)) hk_208 rfl wk_1076_71 rfl rfl ?_
      refine kg_push (x := 0) hk_208 rfl (by decide) rfl ?_
      refine kg_aload hk_208 rfl rfl rfl ?_
      refine kg_get (v := .ref (1131 + 1)) hk_208 rfl wk_1076_73 rfl rfl ?_
      refine kg_push (x := 9) hk_208 rfl (by decide) rfl ?_
      refine kg_iload hk_208 rfl rfl rfl ?_
      refine kg_push (x := 97) hk_208 rfl (by decide) rfl ?_
      refine kg_bin (z := (x3 - 97)) hk_208 rfl rfl rfl ?_
      refine kg_bin (z := (9 * (x3 - 97))) hk_208 rfl rfl rfl ?_
      refine wf_bind hF (fun vz21 hvz21 hF => ?_)
      refine kg_call (as := [.ref (1076 + 1), .ref (1130 + 1), .int 0, .ref (1131 + 1), .int (9 * (x3 - 97))]) (rest := []) hk_208 rfl (Or.inr (Or.inr (Or.inr ⟨Or.inl rfl, _, _, rfl, wc_1076⟩))) rfl rfl rfl (Nat.not_lt.mpr (Nat.le_of_ble_eq_true rfl)) (p_193_ok (w_lenE wc_1130) (w_lenE wc_1131) hvz21) (by decide) rfl ?_
      refine kg_aload hk_208 rfl rfl rfl ?_
      refine kg_dup hk_208 rfl rfl rfl ?_
      refine kg_get (v := .int (vz21 1076 74)) hk_208 rfl wk_1076_74 rfl rfl ?_
      refine kg_iload hk_208 rfl rfl rfl ?_
      refine kg_call (as := [.int x3]) (rest := [.int (vz21 1076 74), .ref (1076 + 1)]) hk_208 rfl (Or.inl rfl) rfl rfl rfl (Nat.not_lt.mpr (Nat.le_of_ble_eq_true rfl)) (v_162_ok) (by decide) rfl ?_
      refine kg_bin (z := ((vz21 1076 74) ||| (v_162 x3))) hk_208 rfl rfl rfl ?_
      refine wf_let hF (fun hz22 hhz22 hF => ?_)
      refine kg_put hk_208 rfl wk_1076_74 rfl rfl hhz22 rfl ?_
      refine kg_goto hk_208 rfl ?_
      refine kg_goto hk_208 rfl ?_
      have hF := Option.some.inj hF
      exact hK _ hF.symm _ _ _
  · refine kg_ifT hk_208 rfl (jc_T1 cz17) ?_
    exact q_208_106_ok t1 hF hK hX0 _ _ _
def q_208_65 (h : Hp) (q1 : Nat) (x2 : Int32) (x3 : Int32) (x4 : Int32) : Option ((Hp) ⊕ Hp) :=
  (p_207 h).bind fun vz13 =>
  w_let (w_up vz13 1076 67 ((vz13 1076 67) + 1)) fun hz14 =>
  if (hz14 1076 75) = 0 then
    (if x4 = 0 then
      (q_208_81 hz14 q1 x2 x3)
    else
      ((p_209 hz14 x3).bind fun vz23 =>
      q_208_81 vz23 q1 x2 x3))
  else
    (q_208_81 hz14 q1 x2 x3)
theorem q_208_65_ok {X : List Int32} {o : kO}  {h : Hp} {q1 : Nat} {x2 : Int32} {x3 : Int32} {x4 : Int32} (t1 : w_tab[q1]? = some (50, (w_len q1), [])) {r : (Hp) ⊕ Hp} (hF : q_208_65 h q1 x2 x3 x4 = some r) (hK : ∀ s' : Hp, r = .inl s' → ∀ (u2 : Value) (u3 : Value) (u4 : Value), k_Go X 8 208 (0, [.ref (1076 + 1), .ref (q1 + 1), u2, u3, u4], []) s' o) (hX0 : ∀ e : Hp, r = .inr e → (.inl none, e) = o) : k_Go X 8 208 (65, [.ref (1076 + 1), .ref (q1 + 1), .int x2, .int x3, .int x4], []) h o := by
  unfold q_208_65 at hF
  refine kg_aload hk_208 rfl rfl rfl ?_
  refine wf_bind hF (fun vz13 hvz13 hF => ?_)
  refine kg_call (as := [.ref (1076 + 1)]) (rest := []) hk_208 rfl (Or.inr (Or.inr (Or.inr ⟨Or.inl rfl, _, _, rfl, wc_1076⟩))) rfl rfl rfl (Nat.not_lt.mpr (Nat.le_of_ble_eq_true rfl)) (p_207_ok hvz13) (by decide) rfl ?_
  refine kg_aload hk_208 rfl rfl rfl ?_
  refine kg_dup hk_208 rfl rfl rfl ?_
  refine kg_get (v := .int (vz13 1076 67)) hk_208 rfl wk_1076_67 rfl rfl ?_
  refine kg_push (x := 1) hk_208 rfl (by decide) rfl ?_
  refine kg_bin (z := ((vz13 1076 67) + 1)) hk_208 rfl rfl rfl ?_
  refine wf_let hF (fun hz14 hhz14 hF => ?_)
  refine kg_put hk_208 rfl wk_1076_67 rfl rfl hhz14 rfl ?_
  refine kg_aload hk_208 rfl rfl rfl ?_
  refine kg_get (v := .int (hz14 1076 75)) hk_208 rfl wk_1076_75 rfl rfl ?_
  refine wf_if hF (fun cz15 hF => ?_) (fun cz15 hF => ?_)
  · refine kg_ifF hk_208 rfl (jc_F1 cz15) rfl ?_
    refine kg_iload hk_208 rfl rfl rfl ?_
    refine wf_if hF (fun cz16 hF => ?_) (fun cz16 hF => ?_)
    · refine kg_ifT hk_208 rfl (jc_T0 cz16) ?_
      exact q_208_81_ok t1 hF hK hX0 _
    · refine kg_ifF hk_208 rfl (jc_F0 cz16) rfl ?_
      refine kg_aload hk_208 rfl rfl rfl ?_
      refine kg_iload hk_208 rfl rfl rfl ?_
      refine wf_bind hF (fun vz23 hvz23 hF => ?_)
      refine kg_call (as := [.ref (1076 + 1), .int x3]) (rest := []) hk_208 rfl (Or.inr (Or.inr (Or.inr ⟨Or.inl rfl, _, _, rfl, wc_1076⟩))) rfl rfl rfl (Nat.not_lt.mpr (Nat.le_of_ble_eq_true rfl)) (p_209_ok hvz23) (by decide) rfl ?_
      exact q_208_81_ok t1 hF hK hX0 _
  · refine kg_ifT hk_208 rfl (jc_T1 cz15) ?_
    exact q_208_81_ok t1 hF hK hX0 _
def q_208_44 (h : Hp) (q1 : Nat) (x2 : Int32) (x3 : Int32) (x4 : Int32) (s0 : Int32) (s1 : Int32) : Option ((Hp) ⊕ Hp) :=
  w_let (w_up h 1076 67 (s1 + s0)) fun hz11 =>
  if x4 = 0 then
    (q_208_65 hz11 q1 x2 x3 x4)
  else
    (if ((hz11 1076 74) &&& (v_162 x3)) = 0 then
      ((p_194 hz11 (hz11 1076 77) x3).bind fun vz25 =>
      if vz25.1 = 0 then
        ((p_195 vz25.2 1 (vz25.2 1076 80)).bind fun vz27 =>
        q_208_65 vz27 q1 x2 x3 x4)
      else
        (q_208_65 vz25.2 q1 x2 x3 x4))
    else
      (q_208_65 hz11 q1 x2 x3 x4))
theorem q_208_44_ok {X : List Int32} {o : kO}  {h : Hp} {q1 : Nat} {s0 : Int32} {s1 : Int32} {x2 : Int32} {x3 : Int32} {x4 : Int32} (t1 : w_tab[q1]? = some (50, (w_len q1), [])) {r : (Hp) ⊕ Hp} (hF : q_208_44 h q1 x2 x3 x4 s0 s1 = some r) (hK : ∀ s' : Hp, r = .inl s' → ∀ (u2 : Value) (u3 : Value) (u4 : Value), k_Go X 8 208 (0, [.ref (1076 + 1), .ref (q1 + 1), u2, u3, u4], []) s' o) (hX0 : ∀ e : Hp, r = .inr e → (.inl none, e) = o) : k_Go X 8 208 (44, [.ref (1076 + 1), .ref (q1 + 1), .int x2, .int x3, .int x4], [.int s0, .int s1, .ref (1076 + 1)]) h o := by
  unfold q_208_44 at hF
  refine kg_bin (z := (s1 + s0)) hk_208 rfl rfl rfl ?_
  refine wf_let hF (fun hz11 hhz11 hF => ?_)
  refine kg_put hk_208 rfl wk_1076_67 rfl rfl hhz11 rfl ?_
  refine kg_iload hk_208 rfl rfl rfl ?_
  refine wf_if hF (fun cz12 hF => ?_) (fun cz12 hF => ?_)
  · refine kg_ifT hk_208 rfl (jc_T0 cz12) ?_
    exact q_208_65_ok t1 hF hK hX0
  · refine kg_ifF hk_208 rfl (jc_F0 cz12) rfl ?_
    refine kg_aload hk_208 rfl rfl rfl ?_
    refine kg_get (v := .int (hz11 1076 74)) hk_208 rfl wk_1076_74 rfl rfl ?_
    refine kg_iload hk_208 rfl rfl rfl ?_
    refine kg_call (as := [.int x3]) (rest := [.int (hz11 1076 74)]) hk_208 rfl (Or.inl rfl) rfl rfl rfl (Nat.not_lt.mpr (Nat.le_of_ble_eq_true rfl)) (v_162_ok) (by decide) rfl ?_
    refine kg_bin (z := ((hz11 1076 74) &&& (v_162 x3))) hk_208 rfl rfl rfl ?_
    refine wf_if hF (fun cz24 hF => ?_) (fun cz24 hF => ?_)
    · refine kg_ifF hk_208 rfl (jc_F1 cz24) rfl ?_
      refine kg_aload hk_208 rfl rfl rfl ?_
      refine kg_aload hk_208 rfl rfl rfl ?_
      refine kg_get (v := .int (hz11 1076 77)) hk_208 rfl wk_1076_77 rfl rfl ?_
      refine kg_iload hk_208 rfl rfl rfl ?_
      refine wf_bind hF (fun vz25 hvz25 hF => ?_)
      refine kg_call (as := [.ref (1076 + 1), .int (hz11 1076 77), .int x3]) (rest := []) hk_208 rfl (Or.inr (Or.inr (Or.inr ⟨Or.inl rfl, _, _, rfl, wc_1076⟩))) rfl rfl rfl (Nat.not_lt.mpr (Nat.le_of_ble_eq_true rfl)) (p_194_ok hvz25) (by decide) rfl ?_
      refine wf_if hF (fun cz26 hF => ?_) (fun cz26 hF => ?_)
      · refine kg_ifF hk_208 rfl (jc_F1 cz26) rfl ?_
        refine kg_aload hk_208 rfl rfl rfl ?_
        refine kg_push (x := 1) hk_208 rfl (by decide) rfl ?_
        refine kg_aload hk_208 rfl rfl rfl ?_
        refine kg_get (v := .int (vz25.2 1076 80)) hk_208 rfl wk_1076_80 rfl rfl ?_
        refine wf_bind hF (fun vz27 hvz27 hF => ?_)
        refine kg_call (as := [.ref (1076 + 1), .int 1, .int (vz25.2 1076 80)]) (rest := []) hk_208 rfl (Or.inr (Or.inr (Or.inr ⟨Or.inl rfl, _, _, rfl, wc_1076⟩))) rfl rfl rfl (Nat.not_lt.mpr (Nat.le_of_ble_eq_true rfl)) (p_195_ok hvz27) (by decide) rfl ?_
        exact q_208_65_ok t1 hF hK hX0
      · refine kg_ifT hk_208 rfl (jc_T1 cz26) ?_
        exact q_208_65_ok t1 hF hK hX0
    · refine kg_ifT hk_208 rfl (jc_T1 cz24) ?_
      exact q_208_65_ok t1 hF hK hX0
def q_208_35 (h : Hp) (q1 : Nat) (x2 : Int32) (x3 : Int32) (s0 : Int32) : Option ((Hp) ⊕ Hp) :=
  q_208_44 h q1 x2 x3 s0 (if x2 = 0 then 0 else 2 : Int32) (h 1076 67)
theorem q_208_35_ok {X : List Int32} {o : kO}  {h : Hp} {q1 : Nat} {s0 : Int32} {x2 : Int32} {x3 : Int32} (t1 : w_tab[q1]? = some (50, (w_len q1), [])) {r : (Hp) ⊕ Hp} (hF : q_208_35 h q1 x2 x3 s0 = some r) (hK : ∀ s' : Hp, r = .inl s' → ∀ (u2 : Value) (u3 : Value) (u4 : Value), k_Go X 8 208 (0, [.ref (1076 + 1), .ref (q1 + 1), u2, u3, u4], []) s' o) (hX0 : ∀ e : Hp, r = .inr e → (.inl none, e) = o) : ∀ (u4 : Value), k_Go X 8 208 (35, [.ref (1076 + 1), .ref (q1 + 1), .int x2, .int x3, u4], [.int s0]) h o := by
  intro u4
  unfold q_208_35 at hF
  refine kg_istore (L2 := [.ref (1076 + 1), .ref (q1 + 1), .int x2, .int x3, .int s0]) hk_208 rfl (Nat.le_of_ble_eq_true rfl) rfl rfl ?_
  refine kg_aload hk_208 rfl rfl rfl ?_
  refine kg_dup hk_208 rfl rfl rfl ?_
  refine kg_get (v := .int (h 1076 67)) hk_208 rfl wk_1076_67 rfl rfl ?_
  refine kg_iload hk_208 rfl rfl rfl ?_
  refine kv_mid (p := 44) (L := [.ref (1076 + 1), .ref (q1 + 1), .int x2, .int x3, .int s0]) (S := [.int (if x2 = 0 then 0 else 2 : Int32), .int (h 1076 67), .ref (1076 + 1)]) ?_ (fun hK => ?_)
  · exact q_208_44_ok t1 hF hK hX0
  · by_cases cz10 : x2 = 0
    · have hK := kv_T cz10 hK
      refine kg_ifT hk_208 rfl (jc_T0 cz10) ?_
      refine kg_push (x := 0) hk_208 rfl (by decide) rfl ?_
      exact hK
    · have hK := kv_F cz10 hK
      refine kg_ifF hk_208 rfl (jc_F0 cz10) rfl ?_
      refine kg_push (x := 2) hk_208 rfl (by decide) rfl ?_
      refine kg_goto hk_208 rfl ?_
      exact hK
def l_208_0 (q1 : Nat) (h : Hp) : Option ((Hp) ⊕ Hp) :=
  if (h 1076 67) < (h 1076 66) then
    (if (h 1076 75) = 0 then
      (w_let (w_up h 1076 80 (h 1076 67)) fun hz3 =>
      w_gd (g_151 hz3) <|
      w_gd (w_ix (hz3 1076 67) 40) <|
      w_gd ((if (v_151 hz3) = 0 then true else w_ix ((hz3 1076 67) + 1) 40)) <|
      q_208_35 hz3 q1 (v_151 hz3) (hz3 1127 (hz3 1076 67).toNatClampNeg) (if (v_151 hz3) = 0 then 0 else (if (hz3 1127 ((hz3 1076 67) + 1).toNatClampNeg) = 33 then 1 else 0 : Int32) : Int32))
    else
      (some (.inr h)))
  else
    (some (.inr h))
theorem l_208_0_st {X : List Int32} {o : kO}  {h : Hp} {q1 : Nat} (t1 : w_tab[q1]? = some (50, (w_len q1), [])) {r : (Hp) ⊕ Hp} (hF : l_208_0 q1 h = some r) (hK : ∀ s' : Hp, r = .inl s' → ∀ (u2 : Value) (u3 : Value) (u4 : Value), k_Go X 8 208 (0, [.ref (1076 + 1), .ref (q1 + 1), u2, u3, u4], []) s' o) (hX0 : ∀ e : Hp, r = .inr e → (.inl none, e) = o) : ∀ (u2 : Value) (u3 : Value) (u4 : Value), k_Go X 8 208 (0, [.ref (1076 + 1), .ref (q1 + 1), u2, u3, u4], []) h o := by
  intro u2 u3 u4
  refine kg_aload hk_208 rfl rfl rfl ?_
  refine kg_get (v := .int (h 1076 67)) hk_208 rfl wk_1076_67 rfl rfl ?_
  refine kg_aload hk_208 rfl rfl rfl ?_
  refine kg_get (v := .int (h 1076 66)) hk_208 rfl wk_1076_66 rfl rfl ?_
  refine wf_if hF (fun cz1 hF => ?_) (fun cz1 hF => ?_)
  · refine kg_icF hk_208 rfl (jc_F3 cz1) rfl ?_
    refine kg_aload hk_208 rfl rfl rfl ?_
    refine kg_get (v := .int (h 1076 75)) hk_208 rfl wk_1076_75 rfl rfl ?_
    refine wf_if hF (fun cz2 hF => ?_) (fun cz2 hF => ?_)
    · refine kg_ifF hk_208 rfl (jc_F1 cz2) rfl ?_
      refine kg_aload hk_208 rfl rfl rfl ?_
      refine kg_aload hk_208 rfl rfl rfl ?_
      refine kg_get (v := .int (h 1076 67)) hk_208 rfl wk_1076_67 rfl rfl ?_
      refine wf_let hF (fun hz3 hhz3 hF => ?_)
      refine kg_put hk_208 rfl wk_1076_80 rfl rfl hhz3 rfl ?_
      refine kg_aload hk_208 rfl rfl rfl ?_
      refine wf_gd hF (fun gz4 hF => ?_)
      refine kg_call (as := [.ref (1076 + 1)]) (rest := []) hk_208 rfl (Or.inr (Or.inr (Or.inr ⟨Or.inl rfl, _, _, rfl, wc_1076⟩))) rfl rfl rfl (Nat.not_lt.mpr (Nat.le_of_ble_eq_true rfl)) (v_151_ok gz4) (by decide) rfl ?_
      refine kg_istore (L2 := [.ref (1076 + 1), .ref (q1 + 1), .int (v_151 hz3), u3, u4]) hk_208 rfl (Nat.le_of_ble_eq_true rfl) rfl rfl ?_
      refine kg_aload hk_208 rfl rfl rfl ?_
      refine kg_get (v := .ref (1127 + 1)) hk_208 rfl wk_1076_65 rfl rfl ?_
      refine kg_aload hk_208 rfl rfl rfl ?_
      refine kg_get (v := .int (hz3 1076 67)) hk_208 rfl wk_1076_67 rfl rfl ?_
      refine wf_gd hF (fun gz5 hF => ?_)
      refine kg_ald (y := (hz3 1127 (hz3 1076 67).toNatClampNeg)) hk_208 rfl wc_1127 gz5 rfl rfl ?_
      refine kg_istore (L2 := [.ref (1076 + 1), .ref (q1 + 1), .int (v_151 hz3), .int (hz3 1127 (hz3 1076 67).toNatClampNeg), u4]) hk_208 rfl (Nat.le_of_ble_eq_true rfl) rfl rfl ?_
      refine kg_iload hk_208 rfl rfl rfl ?_
      refine wf_gd hF (fun gz9 hF => ?_)
      refine kv_mid (p := 35) (L := [.ref (1076 + 1), .ref (q1 + 1), .int (v_151 hz3), .int (hz3 1127 (hz3 1076 67).toNatClampNeg), u4]) (S := [.int (if (v_151 hz3) = 0 then 0 else (if (hz3 1127 ((hz3 1076 67) + 1).toNatClampNeg) = 33 then 1 else 0 : Int32) : Int32)]) ?_ (fun hK => ?_)
      · exact q_208_35_ok t1 hF hK hX0 _
      · have hg := gz9
        by_cases cz6 : (v_151 hz3) = 0
        · have hK := kv_T cz6 hK
          refine kg_ifT hk_208 rfl (jc_T0 cz6) ?_
          refine kg_push (x := 0) hk_208 rfl (by decide) rfl ?_
          exact hK
        · have hg := wv_F cz6 hg
          have hK := kv_F cz6 hK
          have gz7 := hg
          refine kg_ifF hk_208 rfl (jc_F0 cz6) rfl ?_
          refine kg_aload hk_208 rfl rfl rfl ?_
          refine kg_get (v := .ref (1127 + 1)) hk_208 rfl wk_1076_65 rfl rfl ?_
          refine kg_aload hk_208 rfl rfl rfl ?_
          refine kg_get (v := .int (hz3 1076 67)) hk_208 rfl wk_1076_67 rfl rfl ?_
          refine kg_push (x := 1) hk_208 rfl (by decide) rfl ?_
          refine kg_bin (z := ((hz3 1076 67) + 1)) hk_208 rfl rfl rfl ?_
          refine kg_ald (y := (hz3 1127 ((hz3 1076 67) + 1).toNatClampNeg)) hk_208 rfl wc_1127 gz7 rfl rfl ?_
          refine kg_push (x := 33) hk_208 rfl (by decide) rfl ?_
          by_cases cz8 : (hz3 1127 ((hz3 1076 67) + 1).toNatClampNeg) = 33
          · have hK := kv_T cz8 hK
            refine kg_icF hk_208 rfl (jc_F1 cz8) rfl ?_
            refine kg_push (x := 1) hk_208 rfl (by decide) rfl ?_
            refine kg_goto hk_208 rfl ?_
            exact hK
          · have hK := kv_F cz8 hK
            refine kg_icT hk_208 rfl (jc_T1 cz8) ?_
            refine kg_push (x := 0) hk_208 rfl (by decide) rfl ?_
            exact hK
    · refine kg_ifT hk_208 rfl (jc_T1 cz2) ?_
      have hF := Option.some.inj hF
      exact kg_ret hk_208 rfl (hX0 _ hF.symm)
  · refine kg_icT hk_208 rfl (jc_T3 cz1) ?_
    have hF := Option.some.inj hF
    exact kg_ret hk_208 rfl (hX0 _ hF.symm)
theorem l_208_0_ok {X : List Int32} {o : kO}  {q1 : Nat} (t1 : w_tab[q1]? = some (50, (w_len q1), [])) {n : Nat} {s : Hp} {e : Hp} (hF : w_lp (fun (s : Hp) => l_208_0 q1 s) n s = some e) (hX0 : (.inl none, e) = o) : ∀ (u2 : Value) (u3 : Value) (u4 : Value), k_Go X 8 208 (0, [.ref (1076 + 1), .ref (q1 + 1), u2, u3, u4], []) s o := by
  exact w_lp_ok (P := (fun (s : Hp) => ∀ (u2 : Value) (u3 : Value) (u4 : Value), k_Go X 8 208 (0, [.ref (1076 + 1), .ref (q1 + 1), u2, u3, u4], []) s o)) (Q := (fun (e : Hp) => ((.inl none, e) = o))) (fun s r hF hK hX => l_208_0_st t1 hF hK (fun x hx => (hX _ hx))) n s e hF hX0
def p_208 (h : Hp) (q1 : Nat) : Option (Hp) :=
  w_lp (fun (s : Hp) => l_208_0 q1 s) w_N h
theorem p_208_ok {X : List Int32}  {h : Hp} {q1 : Nat} (t1 : w_tab[q1]? = some (50, w_len q1, [])) {r : Hp} (hF : p_208 h q1 = some r) : k_Ev X 8 208 [.ref (1076 + 1), .ref (q1 + 1)] h (.inl none, r) := by
  refine k_of hk_208 ?_
  show k_Go X 8 208 (0, [.ref (1076 + 1), .ref (q1 + 1), (.retAddr 0), (.retAddr 0), (.retAddr 0)], []) h _
  unfold p_208 at hF
  exact l_208_0_ok t1 hF rfl _ _ _
