/-! ===== the methods as functions over the flat heap, and that the interpreter does what they say (printed by wip/whole/dec.py) ===== -/
-- NotebookWeirModel.runsPlain()V
theorem hk_240 : jP[240]? = some (jc_240, 4, [], []) := by rfl
def l_240_6 (x2 : Int32) (h : Hp) : Option ((Int32 × Hp) ⊕ Hp) :=
  if x2 < 16 then
    (w_gd (w_ix x2 16) <|
    w_let (w_up h 1125 x2.toNatClampNeg (j_nar 52 0)) fun h4 =>
    some (.inl ((x2 + 1), h4)))
  else
    (some (.inr h))
theorem l_240_6_st {X : List Int32} {o : kO}  {h : Hp} {x1 : Int32} {x2 : Int32}  {r : (Int32 × Hp) ⊕ Hp} (hF : l_240_6 x2 h = some r) (hK : ∀ s' : Int32 × Hp, r = .inl s' → ∀ (u3 : Value), k_Go X 10 240 (6, [.ref (1076 + 1), .int x1, .int (s'.1), u3], []) s'.2 o) (hX0 : ∀ e : Hp, r = .inr e → ∀ (u2 : Value) (u3 : Value), k_Go X 10 240 (16, [.ref (1076 + 1), .int x1, u2, u3], []) e o) : ∀ (u3 : Value), k_Go X 10 240 (6, [.ref (1076 + 1), .int x1, .int x2, u3], []) h o := by
  intro u3
  refine kg_iload hk_240 rfl rfl rfl ?_
  refine kg_push (x := 16) hk_240 rfl (by decide) rfl ?_
  refine wf_if hF (fun c2 hF => ?_) (fun c2 hF => ?_)
  · refine kg_icF hk_240 rfl (jc_F3 c2) rfl ?_
    refine kg_aload hk_240 rfl rfl rfl ?_
    refine kg_get (v := .ref (1125 + 1)) hk_240 rfl wk_1076_62 rfl rfl ?_
    refine kg_iload hk_240 rfl rfl rfl ?_
    refine kg_push (x := 0) hk_240 rfl (by decide) rfl ?_
    refine wf_gd hF (fun g3 hF => ?_)
    refine wf_let hF (fun h4 hh4 hF => ?_)
    refine kg_ast hk_240 rfl wc_1125 g3 hh4 rfl ?_
    refine kg_iinc (y := (x2 + 1)) (L2 := [.ref (1076 + 1), .int x1, .int (x2 + 1), u3]) hk_240 rfl rfl rfl rfl rfl ?_
    refine kg_goto hk_240 rfl ?_
    have hF := Option.some.inj hF
    exact hK _ hF.symm _
  · refine kg_icT hk_240 rfl (jc_T3 c2) ?_
    have hF := Option.some.inj hF
    exact hX0 _ hF.symm _ _
theorem l_240_6_ok {X : List Int32} {o : kO}  {x1 : Int32}  {n : Nat} {s : Int32 × Hp} {e : Hp} (hF : w_lp (fun (s : Int32 × Hp) => l_240_6 s.1 s.2) n s = some e) (hX0 : ∀ (u2 : Value) (u3 : Value), k_Go X 10 240 (16, [.ref (1076 + 1), .int x1, u2, u3], []) e o) : ∀ (u3 : Value), k_Go X 10 240 (6, [.ref (1076 + 1), .int x1, .int s.1, u3], []) s.2 o := by
  exact w_lp_ok (P := (fun (s : Int32 × Hp) => ∀ (u3 : Value), k_Go X 10 240 (6, [.ref (1076 + 1), .int x1, .int s.1, u3], []) s.2 o)) (Q := (fun (e : Hp) => (∀ (u2 : Value) (u3 : Value), k_Go X 10 240 (16, [.ref (1076 + 1), .int x1, u2, u3], []) e o))) (fun s r hF hK hX => l_240_6_st hF hK (fun x hx => (hX _ hx))) n s e hF hX0
def l_240_18 (x1 : Int32) (x2 : Int32) (h : Hp) : Option ((Int32 × Int32 × Hp) ⊕ Hp) :=
  if x2 < (h 1076 64) then
    (w_gd (w_ix x2 16) <|
    w_gd (w_ix (h 1126 x2.toNatClampNeg) 16) <|
    if (((h 1120 (h 1126 x2.toNatClampNeg).toNatClampNeg) &&& 65535) &&& (x1 ^^^ (-1))) = 0 then
      ((p_216 h (h 1126 x2.toNatClampNeg) 2 1123 1124).bind fun v10 =>
      w_gd (w_ix (h 1126 x2.toNatClampNeg) 16) <|
      w_let (w_up v10.2 1125 ((h 1126 x2.toNatClampNeg).toNatClampNeg) (j_nar 52 v10.1)) fun h12 =>
      w_gd (w_ix (h 1126 x2.toNatClampNeg) 16) <|
      some (.inl ((x1 ||| (if (h12 1125 (h 1126 x2.toNatClampNeg).toNatClampNeg) = 0 then 0 else (1 <<< ((h 1126 x2.toNatClampNeg) &&& 31)))), (x2 + 1), h12)))
    else
      (some (.inl (x1, (x2 + 1), h))))
  else
    (some (.inr h))
theorem l_240_18_st {X : List Int32} {o : kO}  {h : Hp} {x1 : Int32} {x2 : Int32}  {r : (Int32 × Int32 × Hp) ⊕ Hp} (hF : l_240_18 x1 x2 h = some r) (hK : ∀ s' : Int32 × Int32 × Hp, r = .inl s' → ∀ (u3 : Value), k_Go X 10 240 (18, [.ref (1076 + 1), .int (s'.1), .int (s'.2.1), u3], []) s'.2.2 o) (hX0 : ∀ e : Hp, r = .inr e → (.inl none, e) = o) : ∀ (u3 : Value), k_Go X 10 240 (18, [.ref (1076 + 1), .int x1, .int x2, u3], []) h o := by
  intro u3
  refine kg_iload hk_240 rfl rfl rfl ?_
  refine kg_aload hk_240 rfl rfl rfl ?_
  refine kg_get (v := .int (h 1076 64)) hk_240 rfl wk_1076_64 rfl rfl ?_
  refine wf_if hF (fun c6 hF => ?_) (fun c6 hF => ?_)
  · refine kg_icF hk_240 rfl (jc_F3 c6) rfl ?_
    refine kg_aload hk_240 rfl rfl rfl ?_
    refine kg_get (v := .ref (1126 + 1)) hk_240 rfl wk_1076_63 rfl rfl ?_
    refine kg_iload hk_240 rfl rfl rfl ?_
    refine wf_gd hF (fun g7 hF => ?_)
    refine kg_ald (y := (h 1126 x2.toNatClampNeg)) hk_240 rfl wc_1126 g7 rfl rfl ?_
    refine kg_istore (L2 := [.ref (1076 + 1), .int x1, .int x2, .int (h 1126 x2.toNatClampNeg)]) hk_240 rfl (Nat.le_of_ble_eq_true rfl) rfl rfl ?_
    refine kg_aload hk_240 rfl rfl rfl ?_
    refine kg_get (v := .ref (1120 + 1)) hk_240 rfl wk_1076_57 rfl rfl ?_
    refine kg_iload hk_240 rfl rfl rfl ?_
    refine wf_gd hF (fun g8 hF => ?_)
    refine kg_ald (y := (h 1120 (h 1126 x2.toNatClampNeg).toNatClampNeg)) hk_240 rfl wc_1120 g8 rfl rfl ?_
    refine kg_push (x := 65535) hk_240 rfl (by decide) rfl ?_
    refine kg_bin (z := ((h 1120 (h 1126 x2.toNatClampNeg).toNatClampNeg) &&& 65535)) hk_240 rfl rfl rfl ?_
    refine kg_iload hk_240 rfl rfl rfl ?_
    refine kg_push (x := (-1)) hk_240 rfl (by decide) rfl ?_
    refine kg_bin (z := (x1 ^^^ (-1))) hk_240 rfl rfl rfl ?_
    refine kg_bin (z := (((h 1120 (h 1126 x2.toNatClampNeg).toNatClampNeg) &&& 65535) &&& (x1 ^^^ (-1)))) hk_240 rfl rfl rfl ?_
    refine wf_if hF (fun c9 hF => ?_) (fun c9 hF => ?_)
    · refine kg_ifF hk_240 rfl (jc_F1 c9) rfl ?_
      refine kg_aload hk_240 rfl rfl rfl ?_
      refine kg_get (v := .ref (1125 + 1)) hk_240 rfl wk_1076_62 rfl rfl ?_
      refine kg_iload hk_240 rfl rfl rfl ?_
      refine kg_aload hk_240 rfl rfl rfl ?_
      refine kg_iload hk_240 rfl rfl rfl ?_
      refine kg_push (x := 2) hk_240 rfl (by decide) rfl ?_
      refine kg_aload hk_240 rfl rfl rfl ?_
      refine kg_get (v := .ref (1123 + 1)) hk_240 rfl wk_1076_60 rfl rfl ?_
      refine kg_aload hk_240 rfl rfl rfl ?_
      refine kg_get (v := .ref (1124 + 1)) hk_240 rfl wk_1076_61 rfl rfl ?_
      refine wf_bind hF (fun v10 hv10 hF => ?_)
      refine kg_call (as := [.ref (1076 + 1), .int (h 1126 x2.toNatClampNeg), .int 2, .ref (1123 + 1), .ref (1124 + 1)]) (rest := [.int (h 1126 x2.toNatClampNeg), .ref (1125 + 1)]) hk_240 rfl (Or.inr (Or.inr (Or.inr ⟨Or.inl rfl, _, _, rfl, wc_1076⟩))) rfl rfl rfl (Nat.not_lt.mpr (Nat.le_of_ble_eq_true rfl)) (p_216_ok wc_1123 wc_1124 hv10) (by decide) rfl ?_
      refine wf_gd hF (fun g11 hF => ?_)
      refine wf_let hF (fun h12 hh12 hF => ?_)
      refine kg_ast hk_240 rfl wc_1125 g11 hh12 rfl ?_
      refine kg_iload hk_240 rfl rfl rfl ?_
      refine kg_aload hk_240 rfl rfl rfl ?_
      refine kg_get (v := .ref (1125 + 1)) hk_240 rfl wk_1076_62 rfl rfl ?_
      refine kg_iload hk_240 rfl rfl rfl ?_
      refine wf_gd hF (fun g13 hF => ?_)
      refine kg_ald (y := (h12 1125 (h 1126 x2.toNatClampNeg).toNatClampNeg)) hk_240 rfl wc_1125 g13 rfl rfl ?_
      refine kv_mid (p := 61) (L := [.ref (1076 + 1), .int x1, .int x2, .int (h 1126 x2.toNatClampNeg)]) (S := [.int (if (h12 1125 (h 1126 x2.toNatClampNeg).toNatClampNeg) = 0 then 0 else (1 <<< ((h 1126 x2.toNatClampNeg) &&& 31))), .int x1]) ?_ (fun hK => ?_)
      · refine kg_bin (z := (x1 ||| (if (h12 1125 (h 1126 x2.toNatClampNeg).toNatClampNeg) = 0 then 0 else (1 <<< ((h 1126 x2.toNatClampNeg) &&& 31))))) hk_240 rfl rfl rfl ?_
        refine kg_istore (L2 := [.ref (1076 + 1), .int (x1 ||| (if (h12 1125 (h 1126 x2.toNatClampNeg).toNatClampNeg) = 0 then 0 else (1 <<< ((h 1126 x2.toNatClampNeg) &&& 31)))), .int x2, .int (h 1126 x2.toNatClampNeg)]) hk_240 rfl (Nat.le_of_ble_eq_true rfl) rfl rfl ?_
        refine kg_iinc (y := (x2 + 1)) (L2 := [.ref (1076 + 1), .int (x1 ||| (if (h12 1125 (h 1126 x2.toNatClampNeg).toNatClampNeg) = 0 then 0 else (1 <<< ((h 1126 x2.toNatClampNeg) &&& 31)))), .int (x2 + 1), .int (h 1126 x2.toNatClampNeg)]) hk_240 rfl rfl rfl rfl rfl ?_
        refine kg_goto hk_240 rfl ?_
        have hF := Option.some.inj hF
        exact hK _ hF.symm _
      · by_cases c14 : (h12 1125 (h 1126 x2.toNatClampNeg).toNatClampNeg) = 0
        · have hK := kv_T c14 hK
          refine kg_ifT hk_240 rfl (jc_T0 c14) ?_
          refine kg_push (x := 0) hk_240 rfl (by decide) rfl ?_
          exact hK
        · have hK := kv_F c14 hK
          refine kg_ifF hk_240 rfl (jc_F0 c14) rfl ?_
          refine kg_push (x := 1) hk_240 rfl (by decide) rfl ?_
          refine kg_iload hk_240 rfl rfl rfl ?_
          refine kg_bin (z := (1 <<< ((h 1126 x2.toNatClampNeg) &&& 31))) hk_240 rfl rfl rfl ?_
          refine kg_goto hk_240 rfl ?_
          exact hK
    · refine kg_ifT hk_240 rfl (jc_T1 c9) ?_
      refine kg_iinc (y := (x2 + 1)) (L2 := [.ref (1076 + 1), .int x1, .int (x2 + 1), .int (h 1126 x2.toNatClampNeg)]) hk_240 rfl rfl rfl rfl rfl ?_
      refine kg_goto hk_240 rfl ?_
      have hF := Option.some.inj hF
      exact hK _ hF.symm _
  · refine kg_icT hk_240 rfl (jc_T3 c6) ?_
    have hF := Option.some.inj hF
    exact kg_ret hk_240 rfl (hX0 _ hF.symm)
theorem l_240_18_ok {X : List Int32} {o : kO}    {n : Nat} {s : Int32 × Int32 × Hp} {e : Hp} (hF : w_lp (fun (s : Int32 × Int32 × Hp) => l_240_18 s.1 s.2.1 s.2.2) n s = some e) (hX0 : (.inl none, e) = o) : ∀ (u3 : Value), k_Go X 10 240 (18, [.ref (1076 + 1), .int s.1, .int s.2.1, u3], []) s.2.2 o := by
  exact w_lp_ok (P := (fun (s : Int32 × Int32 × Hp) => ∀ (u3 : Value), k_Go X 10 240 (18, [.ref (1076 + 1), .int s.1, .int s.2.1, u3], []) s.2.2 o)) (Q := (fun (e : Hp) => ((.inl none, e) = o))) (fun s r hF hK hX => l_240_18_st hF hK (fun x hx => (hX _ hx))) n s e hF hX0
def p_240 (h : Hp) : Option (Hp) :=
  (p_239 h).bind fun v1 =>
  (w_lp (fun (s : Int32 × Hp) => l_240_6 s.1 s.2) w_N (0, v1)).bind fun e5 =>
  w_lp (fun (s : Int32 × Int32 × Hp) => l_240_18 s.1 s.2.1 s.2.2) w_N (0, 0, e5)
theorem p_240_ok {X : List Int32}  {h : Hp}   {r : Hp} (hF : p_240 h = some r) : k_Ev X 10 240 [.ref (1076 + 1)] h (.inl none, r) := by
  refine k_of hk_240 ?_
  show k_Go X 10 240 (0, [.ref (1076 + 1), (.retAddr 0), (.retAddr 0), (.retAddr 0)], []) h _
  unfold p_240 at hF
  refine kg_aload hk_240 rfl rfl rfl ?_
  refine wf_bind hF (fun v1 hv1 hF => ?_)
  refine kg_call (as := [.ref (1076 + 1)]) (rest := []) hk_240 rfl (Or.inr (Or.inr (Or.inr ⟨Or.inl rfl, _, _, rfl, wc_1076⟩))) rfl rfl rfl (Nat.not_lt.mpr (Nat.le_of_ble_eq_true rfl)) (p_239_ok hv1) (by decide) rfl ?_
  refine kg_push (x := 0) hk_240 rfl (by decide) rfl ?_
  refine kg_istore (L2 := [.ref (1076 + 1), .int 0, (.retAddr 0), (.retAddr 0)]) hk_240 rfl (Nat.le_of_ble_eq_true rfl) rfl rfl ?_
  refine kg_push (x := 0) hk_240 rfl (by decide) rfl ?_
  refine kg_istore (L2 := [.ref (1076 + 1), .int 0, .int 0, (.retAddr 0)]) hk_240 rfl (Nat.le_of_ble_eq_true rfl) rfl rfl ?_
  refine wf_bind hF (fun e5 he5 hF => ?_)
  refine l_240_6_ok he5 ?_ _
  intro u2 u3
  refine kg_push (x := 0) hk_240 rfl (by decide) rfl ?_
  refine kg_istore (L2 := [.ref (1076 + 1), .int 0, .int 0, u3]) hk_240 rfl (Nat.le_of_ble_eq_true rfl) rfl rfl ?_
  exact l_240_18_ok hF rfl _
-- NotebookWeirModel.resultAnew(II)I
theorem hk_241 : jP[241]? = some (jc_241, 5, [], []) := by rfl
def q_241_26 (h : Hp) (x1 : Int32) (x2 : Int32) (x3 : Int32) (s0 : Int32) : Option (Int32 × Hp) :=
  (p_146 h x3 s0 1).bind fun v8 =>
  w_gd ((if v8.1 = 0 then true else g_237 v8.2 1124 (9 * x1) x2)) <|
  some ((if v8.1 = 0 then 0 else (v_237 v8.2 1124 (9 * x1) x2)), v8.2)
theorem q_241_26_ok {X : List Int32}   {h : Hp} {s0 : Int32} {x1 : Int32} {x2 : Int32} {x3 : Int32}  {r : Int32 × Hp} (hF : q_241_26 h x1 x2 x3 s0 = some r)  : ∀ (u4 : Value), k_Go X 11 241 (26, [.ref (1076 + 1), .int x1, .int x2, .int x3, u4], [.int s0]) h (.inl (some (.int r.1)), r.2) := by
  intro u4
  unfold q_241_26 at hF
  refine kg_istore (L2 := [.ref (1076 + 1), .int x1, .int x2, .int x3, .int s0]) hk_241 rfl (Nat.le_of_ble_eq_true rfl) rfl rfl ?_
  refine kg_aload hk_241 rfl rfl rfl ?_
  refine kg_iload hk_241 rfl rfl rfl ?_
  refine kg_iload hk_241 rfl rfl rfl ?_
  refine kg_push (x := 1) hk_241 rfl (by decide) rfl ?_
  refine wf_bind hF (fun v8 hv8 hF => ?_)
  refine kg_call (as := [.ref (1076 + 1), .int x3, .int s0, .int 1]) (rest := []) hk_241 rfl (Or.inr (Or.inr (Or.inr ⟨Or.inl rfl, _, _, rfl, wc_1076⟩))) rfl rfl rfl (Nat.not_lt.mpr (Nat.le_of_ble_eq_true rfl)) (p_146_ok hv8) (by decide) rfl ?_
  refine wf_gd hF (fun g11 hF => ?_)
  refine kv_mid (p := 42) (L := [.ref (1076 + 1), .int x1, .int x2, .int x3, .int s0]) (S := [.int (if v8.1 = 0 then 0 else (v_237 v8.2 1124 (9 * x1) x2))]) ?_ (fun hK => ?_)
  · have hF := Option.some.inj hF
    subst hF
    exact kg_iret hk_241 rfl (Or.inl rfl) rfl
  · have hg := g11
    by_cases c9 : v8.1 = 0
    · have hK := kv_T c9 hK
      refine kg_ifT hk_241 rfl (jc_T0 c9) ?_
      refine kg_push (x := 0) hk_241 rfl (by decide) rfl ?_
      exact hK
    · have hg := wv_F c9 hg
      have hK := kv_F c9 hK
      have g10 := hg
      refine kg_ifF hk_241 rfl (jc_F0 c9) rfl ?_
      refine kg_aload hk_241 rfl rfl rfl ?_
      refine kg_get (v := .ref (1124 + 1)) hk_241 rfl wk_1076_61 rfl rfl ?_
      refine kg_push (x := 9) hk_241 rfl (by decide) rfl ?_
      refine kg_iload hk_241 rfl rfl rfl ?_
      refine kg_bin (z := (9 * x1)) hk_241 rfl rfl rfl ?_
      refine kg_iload hk_241 rfl rfl rfl ?_
      refine kg_call (as := [.ref (1124 + 1), .int (9 * x1), .int x2]) (rest := []) hk_241 rfl (Or.inl rfl) rfl rfl rfl (Nat.not_lt.mpr (Nat.le_of_ble_eq_true rfl)) (v_237_ok wc_1124 g10) (by decide) rfl ?_
      refine kg_goto hk_241 rfl ?_
      exact hK
def q_241_8 (h : Hp) (x1 : Int32) (x2 : Int32) (x3 : Int32) : Option (Int32 × Hp) :=
  w_gd ((if x3 = 0 then true else (w_ix x1 16) && ((if (h 1125 x1.toNatClampNeg) = 0 then true else g_236 1124 (9 * x1) x2)))) <|
  q_241_26 h x1 x2 x3 (if x3 = 0 then 0 else (if (h 1125 x1.toNatClampNeg) = 0 then 0 else (if (v_236 h 1124 (9 * x1) x2) = 0 then 0 else 1)))
theorem q_241_8_ok {X : List Int32}   {h : Hp} {x1 : Int32} {x2 : Int32} {x3 : Int32}  {r : Int32 × Hp} (hF : q_241_8 h x1 x2 x3 = some r)  : ∀ (u4 : Value), k_Go X 11 241 (8, [.ref (1076 + 1), .int x1, .int x2, .int x3, u4], []) h (.inl (some (.int r.1)), r.2) := by
  intro u4
  unfold q_241_8 at hF
  refine kg_iload hk_241 rfl rfl rfl ?_
  refine wf_gd hF (fun g7 hF => ?_)
  refine kv_mid (p := 26) (L := [.ref (1076 + 1), .int x1, .int x2, .int x3, u4]) (S := [.int (if x3 = 0 then 0 else (if (h 1125 x1.toNatClampNeg) = 0 then 0 else (if (v_236 h 1124 (9 * x1) x2) = 0 then 0 else 1)))]) ?_ (fun hK => ?_)
  · exact q_241_26_ok hF _
  · have hg := g7
    by_cases c2 : x3 = 0
    · have hK := kv_T c2 hK
      refine kg_ifT hk_241 rfl (jc_T0 c2) ?_
      refine kg_push (x := 0) hk_241 rfl (by decide) rfl ?_
      exact hK
    · have hg := wv_F c2 hg
      have hK := kv_F c2 hK
      have g3 := wb_1 hg
      have hg := wb_2 hg
      refine kg_ifF hk_241 rfl (jc_F0 c2) rfl ?_
      refine kg_aload hk_241 rfl rfl rfl ?_
      refine kg_get (v := .ref (1125 + 1)) hk_241 rfl wk_1076_62 rfl rfl ?_
      refine kg_iload hk_241 rfl rfl rfl ?_
      refine kg_ald (y := (h 1125 x1.toNatClampNeg)) hk_241 rfl wc_1125 g3 rfl rfl ?_
      by_cases c4 : (h 1125 x1.toNatClampNeg) = 0
      · have hK := kv_T c4 hK
        refine kg_ifT hk_241 rfl (jc_T0 c4) ?_
        refine kg_push (x := 0) hk_241 rfl (by decide) rfl ?_
        exact hK
      · have hg := wv_F c4 hg
        have hK := kv_F c4 hK
        have g5 := hg
        refine kg_ifF hk_241 rfl (jc_F0 c4) rfl ?_
        refine kg_aload hk_241 rfl rfl rfl ?_
        refine kg_get (v := .ref (1124 + 1)) hk_241 rfl wk_1076_61 rfl rfl ?_
        refine kg_push (x := 9) hk_241 rfl (by decide) rfl ?_
        refine kg_iload hk_241 rfl rfl rfl ?_
        refine kg_bin (z := (9 * x1)) hk_241 rfl rfl rfl ?_
        refine kg_iload hk_241 rfl rfl rfl ?_
        refine kg_call (as := [.ref (1124 + 1), .int (9 * x1), .int x2]) (rest := []) hk_241 rfl (Or.inl rfl) rfl rfl rfl (Nat.not_lt.mpr (Nat.le_of_ble_eq_true rfl)) (v_236_ok wc_1124 g5) (by decide) rfl ?_
        by_cases c6 : (v_236 h 1124 (9 * x1) x2) = 0
        · have hK := kv_T c6 hK
          refine kg_ifT hk_241 rfl (jc_T0 c6) ?_
          refine kg_push (x := 0) hk_241 rfl (by decide) rfl ?_
          exact hK
        · have hK := kv_F c6 hK
          refine kg_ifF hk_241 rfl (jc_F0 c6) rfl ?_
          refine kg_push (x := 1) hk_241 rfl (by decide) rfl ?_
          refine kg_goto hk_241 rfl ?_
          exact hK
def p_241 (h : Hp) (x1 : Int32) (x2 : Int32) : Option (Int32 × Hp) :=
  if (v_167 h x1) = 0 then
    (q_241_8 h x1 x2 (v_167 h x1))
  else
    ((p_240 h).bind fun v12 =>
    q_241_8 v12 x1 x2 (v_167 h x1))
theorem p_241_ok {X : List Int32}  {h : Hp} {x1 : Int32} {x2 : Int32}  {r : Int32 × Hp} (hF : p_241 h x1 x2 = some r) : k_Ev X 11 241 [.ref (1076 + 1), .int x1, .int x2] h (.inl (some (.int r.1)), r.2) := by
  refine k_of hk_241 ?_
  show k_Go X 11 241 (0, [.ref (1076 + 1), .int x1, .int x2, (.retAddr 0), (.retAddr 0)], []) h _
  unfold p_241 at hF
  refine kg_aload hk_241 rfl rfl rfl ?_
  refine kg_iload hk_241 rfl rfl rfl ?_
  refine kg_call (as := [.ref (1076 + 1), .int x1]) (rest := []) hk_241 rfl (Or.inr (Or.inr (Or.inr ⟨Or.inl rfl, _, _, rfl, wc_1076⟩))) rfl rfl rfl (Nat.not_lt.mpr (Nat.le_of_ble_eq_true rfl)) (v_167_ok) (by decide) rfl ?_
  refine kg_istore (L2 := [.ref (1076 + 1), .int x1, .int x2, .int (v_167 h x1), (.retAddr 0)]) hk_241 rfl (Nat.le_of_ble_eq_true rfl) rfl rfl ?_
  refine kg_iload hk_241 rfl rfl rfl ?_
  refine wf_if hF (fun c1 hF => ?_) (fun c1 hF => ?_)
  · refine kg_ifT hk_241 rfl (jc_T0 c1) ?_
    exact q_241_8_ok hF _
  · refine kg_ifF hk_241 rfl (jc_F0 c1) rfl ?_
    refine kg_aload hk_241 rfl rfl rfl ?_
    refine wf_bind hF (fun v12 hv12 hF => ?_)
    refine kg_call (as := [.ref (1076 + 1)]) (rest := []) hk_241 rfl (Or.inr (Or.inr (Or.inr ⟨Or.inl rfl, _, _, rfl, wc_1076⟩))) rfl rfl rfl (Nat.not_lt.mpr (Nat.le_of_ble_eq_true rfl)) (p_240_ok hv12) (by decide) rfl ?_
    exact q_241_8_ok hF _
-- NotebookWeirModel.value(CI)I
theorem hk_242 : jP[242]? = some (jc_242, 6, [], []) := by rfl
def q_242_88 (h : Hp) (x2 : Int32) (x4 : Int32) (s0 : Int32) : Option (Int32 × Hp) :=
  (p_146 h 1 s0 1).bind fun v14 =>
  w_gd ((if v14.1 = 0 then true else g_237 v14.2 1093 x4 x2)) <|
  some ((if v14.1 = 0 then 0 else (v_237 v14.2 1093 x4 x2)), v14.2)
theorem q_242_88_ok {X : List Int32}   {h : Hp} {s0 : Int32} {x2 : Int32} {x4 : Int32}  {r : Int32 × Hp} (hF : q_242_88 h x2 x4 s0 = some r)  : ∀ (u1 : Value) (u3 : Value) (u5 : Value), k_Go X 15 242 (88, [.ref (1076 + 1), u1, .int x2, u3, .int x4, u5], [.int s0]) h (.inl (some (.int r.1)), r.2) := by
  intro u1 u3 u5
  unfold q_242_88 at hF
  refine kg_istore (L2 := [.ref (1076 + 1), u1, .int x2, u3, .int x4, .int s0]) hk_242 rfl (Nat.le_of_ble_eq_true rfl) rfl rfl ?_
  refine kg_aload hk_242 rfl rfl rfl ?_
  refine kg_push (x := 1) hk_242 rfl (by decide) rfl ?_
  refine kg_iload hk_242 rfl rfl rfl ?_
  refine kg_push (x := 1) hk_242 rfl (by decide) rfl ?_
  refine wf_bind hF (fun v14 hv14 hF => ?_)
  refine kg_call (as := [.ref (1076 + 1), .int 1, .int s0, .int 1]) (rest := []) hk_242 rfl (Or.inr (Or.inr (Or.inr ⟨Or.inl rfl, _, _, rfl, wc_1076⟩))) rfl rfl rfl (Nat.not_lt.mpr (Nat.le_of_ble_eq_true rfl)) (p_146_ok hv14) (by decide) rfl ?_
  refine wf_gd hF (fun g17 hF => ?_)
  refine kv_mid (p := 102) (L := [.ref (1076 + 1), u1, .int x2, u3, .int x4, .int s0]) (S := [.int (if v14.1 = 0 then 0 else (v_237 v14.2 1093 x4 x2))]) ?_ (fun hK => ?_)
  · have hF := Option.some.inj hF
    subst hF
    exact kg_iret hk_242 rfl (Or.inl rfl) rfl
  · have hg := g17
    by_cases c15 : v14.1 = 0
    · have hK := kv_T c15 hK
      refine kg_ifT hk_242 rfl (jc_T0 c15) ?_
      refine kg_push (x := 0) hk_242 rfl (by decide) rfl ?_
      exact hK
    · have hg := wv_F c15 hg
      have hK := kv_F c15 hK
      have g16 := hg
      refine kg_ifF hk_242 rfl (jc_F0 c15) rfl ?_
      refine kg_aload hk_242 rfl rfl rfl ?_
      refine kg_get (v := .ref (1093 + 1)) hk_242 rfl wk_1076_17 rfl rfl ?_
      refine kg_iload hk_242 rfl rfl rfl ?_
      refine kg_iload hk_242 rfl rfl rfl ?_
      refine kg_call (as := [.ref (1093 + 1), .int x4, .int x2]) (rest := []) hk_242 rfl (Or.inl rfl) rfl rfl rfl (Nat.not_lt.mpr (Nat.le_of_ble_eq_true rfl)) (v_237_ok wc_1093 g16) (by decide) rfl ?_
      refine kg_goto hk_242 rfl ?_
      exact hK
def q_242_71 (h : Hp) (x2 : Int32) (x3 : Int32) (s0 : Int32) : Option (Int32 × Hp) :=
  w_gd ((if x3 < 0 then true else (w_ix x3 16) && ((if (h 1122 x3.toNatClampNeg) = 0 then g_236 1093 s0 x2 else true)))) <|
  q_242_88 h x2 s0 (if x3 < 0 then 0 else (if (h 1122 x3.toNatClampNeg) = 0 then (if (v_236 h 1093 s0 x2) = 0 then 0 else 1) else 0))
theorem q_242_71_ok {X : List Int32}   {h : Hp} {s0 : Int32} {x2 : Int32} {x3 : Int32}  {r : Int32 × Hp} (hF : q_242_71 h x2 x3 s0 = some r)  : ∀ (u1 : Value) (u4 : Value) (u5 : Value), k_Go X 15 242 (71, [.ref (1076 + 1), u1, .int x2, .int x3, u4, u5], [.int s0]) h (.inl (some (.int r.1)), r.2) := by
  intro u1 u4 u5
  unfold q_242_71 at hF
  refine kg_istore (L2 := [.ref (1076 + 1), u1, .int x2, .int x3, .int s0, u5]) hk_242 rfl (Nat.le_of_ble_eq_true rfl) rfl rfl ?_
  refine kg_iload hk_242 rfl rfl rfl ?_
  refine wf_gd hF (fun g13 hF => ?_)
  refine kv_mid (p := 88) (L := [.ref (1076 + 1), u1, .int x2, .int x3, .int s0, u5]) (S := [.int (if x3 < 0 then 0 else (if (h 1122 x3.toNatClampNeg) = 0 then (if (v_236 h 1093 s0 x2) = 0 then 0 else 1) else 0))]) ?_ (fun hK => ?_)
  · exact q_242_88_ok hF _ _ _
  · have hg := g13
    by_cases c8 : x3 < 0
    · have hK := kv_T c8 hK
      refine kg_ifT hk_242 rfl (jc_T2 c8) ?_
      refine kg_push (x := 0) hk_242 rfl (by decide) rfl ?_
      exact hK
    · have hg := wv_F c8 hg
      have hK := kv_F c8 hK
      have g9 := wb_1 hg
      have hg := wb_2 hg
      refine kg_ifF hk_242 rfl (jc_F2 c8) rfl ?_
      refine kg_aload hk_242 rfl rfl rfl ?_
      refine kg_get (v := .ref (1122 + 1)) hk_242 rfl wk_1076_59 rfl rfl ?_
      refine kg_iload hk_242 rfl rfl rfl ?_
      refine kg_ald (y := (h 1122 x3.toNatClampNeg)) hk_242 rfl wc_1122 g9 rfl rfl ?_
      by_cases c10 : (h 1122 x3.toNatClampNeg) = 0
      · have hg := wv_T c10 hg
        have hK := kv_T c10 hK
        have g11 := hg
        refine kg_ifF hk_242 rfl (jc_F1 c10) rfl ?_
        refine kg_aload hk_242 rfl rfl rfl ?_
        refine kg_get (v := .ref (1093 + 1)) hk_242 rfl wk_1076_17 rfl rfl ?_
        refine kg_iload hk_242 rfl rfl rfl ?_
        refine kg_iload hk_242 rfl rfl rfl ?_
        refine kg_call (as := [.ref (1093 + 1), .int s0, .int x2]) (rest := []) hk_242 rfl (Or.inl rfl) rfl rfl rfl (Nat.not_lt.mpr (Nat.le_of_ble_eq_true rfl)) (v_236_ok wc_1093 g11) (by decide) rfl ?_
        by_cases c12 : (v_236 h 1093 s0 x2) = 0
        · have hK := kv_T c12 hK
          refine kg_ifT hk_242 rfl (jc_T0 c12) ?_
          refine kg_push (x := 0) hk_242 rfl (by decide) rfl ?_
          exact hK
        · have hK := kv_F c12 hK
          refine kg_ifF hk_242 rfl (jc_F0 c12) rfl ?_
          refine kg_push (x := 1) hk_242 rfl (by decide) rfl ?_
          refine kg_goto hk_242 rfl ?_
          exact hK
      · have hK := kv_F c10 hK
        refine kg_ifT hk_242 rfl (jc_T1 c10) ?_
        refine kg_push (x := 0) hk_242 rfl (by decide) rfl ?_
        exact hK
def q_242_58 (h : Hp) (x1 : Int32) (x2 : Int32) (x3 : Int32) : Option (Int32 × Hp) :=
  q_242_71 h x2 x3 (if x3 < 0 then 0 else ((234 * x3) + (9 * (x1 - 97))))
theorem q_242_58_ok {X : List Int32}   {h : Hp} {x1 : Int32} {x2 : Int32} {x3 : Int32}  {r : Int32 × Hp} (hF : q_242_58 h x1 x2 x3 = some r)  : ∀ (u4 : Value) (u5 : Value), k_Go X 15 242 (58, [.ref (1076 + 1), .int x1, .int x2, .int x3, u4, u5], []) h (.inl (some (.int r.1)), r.2) := by
  intro u4 u5
  unfold q_242_58 at hF
  refine kg_iload hk_242 rfl rfl rfl ?_
  refine kv_mid (p := 71) (L := [.ref (1076 + 1), .int x1, .int x2, .int x3, u4, u5]) (S := [.int (if x3 < 0 then 0 else ((234 * x3) + (9 * (x1 - 97))))]) ?_ (fun hK => ?_)
  · exact q_242_71_ok hF _ _ _
  · by_cases c7 : x3 < 0
    · have hK := kv_T c7 hK
      refine kg_ifF hk_242 rfl (jc_F3 c7) rfl ?_
      refine kg_push (x := 0) hk_242 rfl (by decide) rfl ?_
      refine kg_goto hk_242 rfl ?_
      exact hK
    · have hK := kv_F c7 hK
      refine kg_ifT hk_242 rfl (jc_T3 c7) ?_
      refine kg_push (x := 234) hk_242 rfl (by decide) rfl ?_
      refine kg_iload hk_242 rfl rfl rfl ?_
      refine kg_bin (z := (234 * x3)) hk_242 rfl rfl rfl ?_
      refine kg_push (x := 9) hk_242 rfl (by decide) rfl ?_
      refine kg_iload hk_242 rfl rfl rfl ?_
      refine kg_push (x := 97) hk_242 rfl (by decide) rfl ?_
      refine kg_bin (z := (x1 - 97)) hk_242 rfl rfl rfl ?_
      refine kg_bin (z := (9 * (x1 - 97))) hk_242 rfl rfl rfl ?_
      refine kg_bin (z := ((234 * x3) + (9 * (x1 - 97)))) hk_242 rfl rfl rfl ?_
      exact hK
def q_242_41 (h : Hp) (x3 : Int32) (s0 : Int32) (s1 : Int32) : Option (Int32 × Hp) :=
  (p_146 h s1 s0 1).bind fun v20 =>
  w_gd ((if v20.1 = 0 then true else w_ix (x3 - 16) 4)) <|
  some ((if v20.1 = 0 then 0 else (v20.2 1115 (x3 - 16).toNatClampNeg)), v20.2)
theorem q_242_41_ok {X : List Int32}   {h : Hp} {s0 : Int32} {s1 : Int32} {x3 : Int32}  {r : Int32 × Hp} (hF : q_242_41 h x3 s0 s1 = some r)  : ∀ (u1 : Value) (u2 : Value) (u4 : Value) (u5 : Value), k_Go X 15 242 (41, [.ref (1076 + 1), u1, u2, .int x3, u4, u5], [.int s0, .int s1, .ref (1076 + 1)]) h (.inl (some (.int r.1)), r.2) := by
  intro u1 u2 u4 u5
  unfold q_242_41 at hF
  refine kg_push (x := 1) hk_242 rfl (by decide) rfl ?_
  refine wf_bind hF (fun v20 hv20 hF => ?_)
  refine kg_call (as := [.ref (1076 + 1), .int s1, .int s0, .int 1]) (rest := []) hk_242 rfl (Or.inr (Or.inr (Or.inr ⟨Or.inl rfl, _, _, rfl, wc_1076⟩))) rfl rfl rfl (Nat.not_lt.mpr (Nat.le_of_ble_eq_true rfl)) (p_146_ok hv20) (by decide) rfl ?_
  refine wf_gd hF (fun g23 hF => ?_)
  refine kv_mid (p := 52) (L := [.ref (1076 + 1), u1, u2, .int x3, u4, u5]) (S := [.int (if v20.1 = 0 then 0 else (v20.2 1115 (x3 - 16).toNatClampNeg))]) ?_ (fun hK => ?_)
  · have hF := Option.some.inj hF
    subst hF
    exact kg_iret hk_242 rfl (Or.inl rfl) rfl
  · have hg := g23
    by_cases c21 : v20.1 = 0
    · have hK := kv_T c21 hK
      refine kg_ifT hk_242 rfl (jc_T0 c21) ?_
      refine kg_push (x := 0) hk_242 rfl (by decide) rfl ?_
      exact hK
    · have hg := wv_F c21 hg
      have hK := kv_F c21 hK
      have g22 := hg
      refine kg_ifF hk_242 rfl (jc_F0 c21) rfl ?_
      refine kg_aload hk_242 rfl rfl rfl ?_
      refine kg_get (v := .ref (1115 + 1)) hk_242 rfl wk_1076_52 rfl rfl ?_
      refine kg_iload hk_242 rfl rfl rfl ?_
      refine kg_push (x := 16) hk_242 rfl (by decide) rfl ?_
      refine kg_bin (z := (x3 - 16)) hk_242 rfl rfl rfl ?_
      refine kg_ald (y := (v20.2 1115 (x3 - 16).toNatClampNeg)) hk_242 rfl wc_1115 g22 rfl rfl ?_
      refine kg_goto hk_242 rfl ?_
      exact hK
def q_242_29 (h : Hp) (x1 : Int32) (x2 : Int32) (s0 : Int32) : Option (Int32 × Hp) :=
  if s0 < 16 then
    (if s0 < 0 then
      (q_242_58 h x1 x2 s0)
    else
      ((p_235 h s0).bind fun v18 =>
      q_242_58 v18 x1 x2 s0))
  else
    (q_242_41 h s0 (if x2 = (-1) then 1 else 0) 1)
theorem q_242_29_ok {X : List Int32}   {h : Hp} {s0 : Int32} {x1 : Int32} {x2 : Int32}  {r : Int32 × Hp} (hF : q_242_29 h x1 x2 s0 = some r)  : ∀ (u3 : Value) (u4 : Value) (u5 : Value), k_Go X 15 242 (29, [.ref (1076 + 1), .int x1, .int x2, u3, u4, u5], [.int s0]) h (.inl (some (.int r.1)), r.2) := by
  intro u3 u4 u5
  unfold q_242_29 at hF
  refine kg_istore (L2 := [.ref (1076 + 1), .int x1, .int x2, .int s0, u4, u5]) hk_242 rfl (Nat.le_of_ble_eq_true rfl) rfl rfl ?_
  refine kg_iload hk_242 rfl rfl rfl ?_
  refine kg_push (x := 16) hk_242 rfl (by decide) rfl ?_
  refine wf_if hF (fun c5 hF => ?_) (fun c5 hF => ?_)
  · refine kg_icT hk_242 rfl (jc_T2 c5) ?_
    refine kg_iload hk_242 rfl rfl rfl ?_
    refine wf_if hF (fun c6 hF => ?_) (fun c6 hF => ?_)
    · refine kg_ifT hk_242 rfl (jc_T2 c6) ?_
      exact q_242_58_ok hF _ _
    · refine kg_ifF hk_242 rfl (jc_F2 c6) rfl ?_
      refine kg_aload hk_242 rfl rfl rfl ?_
      refine kg_iload hk_242 rfl rfl rfl ?_
      refine wf_bind hF (fun v18 hv18 hF => ?_)
      refine kg_call (as := [.ref (1076 + 1), .int s0]) (rest := []) hk_242 rfl (Or.inr (Or.inr (Or.inr ⟨Or.inl rfl, _, _, rfl, wc_1076⟩))) rfl rfl rfl (Nat.not_lt.mpr (Nat.le_of_ble_eq_true rfl)) (p_235_ok hv18) (by decide) rfl ?_
      exact q_242_58_ok hF _ _
  · refine kg_icF hk_242 rfl (jc_F2 c5) rfl ?_
    refine kg_aload hk_242 rfl rfl rfl ?_
    refine kg_push (x := 1) hk_242 rfl (by decide) rfl ?_
    refine kg_iload hk_242 rfl rfl rfl ?_
    refine kg_push (x := (-1)) hk_242 rfl (by decide) rfl ?_
    refine kv_mid (p := 41) (L := [.ref (1076 + 1), .int x1, .int x2, .int s0, u4, u5]) (S := [.int (if x2 = (-1) then 1 else 0), .int 1, .ref (1076 + 1)]) ?_ (fun hK => ?_)
    · exact q_242_41_ok hF _ _ _ _
    · by_cases c19 : x2 = (-1)
      · have hK := kv_T c19 hK
        refine kg_icF hk_242 rfl (jc_F1 c19) rfl ?_
        refine kg_push (x := 1) hk_242 rfl (by decide) rfl ?_
        refine kg_goto hk_242 rfl ?_
        exact hK
      · have hK := kv_F c19 hK
        refine kg_icT hk_242 rfl (jc_T1 c19) ?_
        refine kg_push (x := 0) hk_242 rfl (by decide) rfl ?_
        exact hK
def q_242_22 (h : Hp) (x1 : Int32) (x2 : Int32) (x3 : Int32) : Option (Int32 × Hp) :=
  q_242_29 h x1 x2 x3
theorem q_242_22_ok {X : List Int32}   {h : Hp} {x1 : Int32} {x2 : Int32} {x3 : Int32}  {r : Int32 × Hp} (hF : q_242_22 h x1 x2 x3 = some r)  : ∀ (u4 : Value) (u5 : Value), k_Go X 15 242 (22, [.ref (1076 + 1), .int x1, .int x2, .int x3, u4, u5], []) h (.inl (some (.int r.1)), r.2) := by
  intro u4 u5
  unfold q_242_22 at hF
  refine kg_iload hk_242 rfl rfl rfl ?_
  refine kg_goto hk_242 rfl ?_
  exact q_242_29_ok hF _ _ _
def p_242 (h : Hp) (x1 : Int32) (x2 : Int32) : Option (Int32 × Hp) :=
  (p_146 h (v_148 x1) 1 1).bind fun v1 =>
  if v1.1 = 0 then
    (some (0, v1.2))
  else
    ((p_181 v1.2 x1).bind fun v3 =>
    if v3 < 0 then
      (q_242_22 v1.2 x1 x2 v3)
    else
      ((p_180 v1.2 x1 (v1.2 1076 2)).bind fun v24 =>
      if v24 = (-1) then
        (q_242_22 v1.2 x1 x2 v3)
      else
        ((p_180 v1.2 x1 (v1.2 1076 2)).bind fun v26 =>
        q_242_29 v1.2 x1 x2 v26)))
theorem p_242_ok {X : List Int32}  {h : Hp} {x1 : Int32} {x2 : Int32}  {r : Int32 × Hp} (hF : p_242 h x1 x2 = some r) : k_Ev X 15 242 [.ref (1076 + 1), .int x1, .int x2] h (.inl (some (.int r.1)), r.2) := by
  refine k_of hk_242 ?_
  show k_Go X 15 242 (0, [.ref (1076 + 1), .int x1, .int x2, (.retAddr 0), (.retAddr 0), (.retAddr 0)], []) h _
  unfold p_242 at hF
  refine kg_aload hk_242 rfl rfl rfl ?_
  refine kg_iload hk_242 rfl rfl rfl ?_
  refine kg_call (as := [.int x1]) (rest := [.ref (1076 + 1)]) hk_242 rfl (Or.inl rfl) rfl rfl rfl (Nat.not_lt.mpr (Nat.le_of_ble_eq_true rfl)) (v_148_ok) (by decide) rfl ?_
  refine kg_push (x := 1) hk_242 rfl (by decide) rfl ?_
  refine kg_push (x := 1) hk_242 rfl (by decide) rfl ?_
  refine wf_bind hF (fun v1 hv1 hF => ?_)
  refine kg_call (as := [.ref (1076 + 1), .int (v_148 x1), .int 1, .int 1]) (rest := []) hk_242 rfl (Or.inr (Or.inr (Or.inr ⟨Or.inl rfl, _, _, rfl, wc_1076⟩))) rfl rfl rfl (Nat.not_lt.mpr (Nat.le_of_ble_eq_true rfl)) (p_146_ok hv1) (by decide) rfl ?_
  refine wf_if hF (fun c2 hF => ?_) (fun c2 hF => ?_)
  · refine kg_ifF hk_242 rfl (jc_F1 c2) rfl ?_
    refine kg_push (x := 0) hk_242 rfl (by decide) rfl ?_
    have hF := Option.some.inj hF
    subst hF
    exact kg_iret hk_242 rfl (Or.inl rfl) rfl
  · refine kg_ifT hk_242 rfl (jc_T1 c2) ?_
    refine kg_aload hk_242 rfl rfl rfl ?_
    refine kg_iload hk_242 rfl rfl rfl ?_
    refine wf_bind hF (fun v3 hv3 hF => ?_)
    refine kg_call (as := [.ref (1076 + 1), .int x1]) (rest := []) hk_242 rfl (Or.inr (Or.inr (Or.inr ⟨Or.inl rfl, _, _, rfl, wc_1076⟩))) rfl rfl rfl (Nat.not_lt.mpr (Nat.le_of_ble_eq_true rfl)) (p_181_ok hv3) (by decide) rfl ?_
    refine kg_istore (L2 := [.ref (1076 + 1), .int x1, .int x2, .int v3, (.retAddr 0), (.retAddr 0)]) hk_242 rfl (Nat.le_of_ble_eq_true rfl) rfl rfl ?_
    refine kg_iload hk_242 rfl rfl rfl ?_
    refine wf_if hF (fun c4 hF => ?_) (fun c4 hF => ?_)
    · refine kg_ifT hk_242 rfl (jc_T2 c4) ?_
      exact q_242_22_ok hF _ _
    · refine kg_ifF hk_242 rfl (jc_F2 c4) rfl ?_
      refine kg_aload hk_242 rfl rfl rfl ?_
      refine kg_iload hk_242 rfl rfl rfl ?_
      refine kg_aload hk_242 rfl rfl rfl ?_
      refine kg_get (v := .int (v1.2 1076 2)) hk_242 rfl wk_1076_2 rfl rfl ?_
      refine wf_bind hF (fun v24 hv24 hF => ?_)
      refine kg_call (as := [.ref (1076 + 1), .int x1, .int (v1.2 1076 2)]) (rest := []) hk_242 rfl (Or.inr (Or.inr (Or.inr ⟨Or.inl rfl, _, _, rfl, wc_1076⟩))) rfl rfl rfl (Nat.not_lt.mpr (Nat.le_of_ble_eq_true rfl)) (p_180_ok hv24) (by decide) rfl ?_
      refine kg_push (x := (-1)) hk_242 rfl (by decide) rfl ?_
      refine wf_if hF (fun c25 hF => ?_) (fun c25 hF => ?_)
      · refine kg_icF hk_242 rfl (jc_F1 c25) rfl ?_
        exact q_242_22_ok hF _ _
      · refine kg_icT hk_242 rfl (jc_T1 c25) ?_
        refine kg_aload hk_242 rfl rfl rfl ?_
        refine kg_iload hk_242 rfl rfl rfl ?_
        refine kg_aload hk_242 rfl rfl rfl ?_
        refine kg_get (v := .int (v1.2 1076 2)) hk_242 rfl wk_1076_2 rfl rfl ?_
        refine wf_bind hF (fun v26 hv26 hF => ?_)
        refine kg_call (as := [.ref (1076 + 1), .int x1, .int (v1.2 1076 2)]) (rest := []) hk_242 rfl (Or.inr (Or.inr (Or.inr ⟨Or.inl rfl, _, _, rfl, wc_1076⟩))) rfl rfl rfl (Nat.not_lt.mpr (Nat.le_of_ble_eq_true rfl)) (p_180_ok hv26) (by decide) rfl ?_
        exact q_242_29_ok hF _ _ _
-- NotebookWeirModel.error(I)I
theorem hk_243 : jP[243]? = some (jc_243, 2, [], []) := by rfl
def p_243 (h : Hp) (x1 : Int32) : Option (Int32 × Hp) :=
  (p_146 h (v_167 h x1) 1 1).bind fun v1 =>
  if v1.1 = 0 then
    (some (0, v1.2))
  else
    ((p_235 v1.2 x1).bind fun v3 =>
    w_gd (w_ix x1 16) <|
    w_gd ((if (v3 1122 x1.toNatClampNeg) = 2 then w_ix x1 16 else true)) <|
    some ((if (v3 1122 x1.toNatClampNeg) = 2 then (v3 1092 x1.toNatClampNeg) else 0), v3))
theorem p_243_ok {X : List Int32}  {h : Hp} {x1 : Int32}  {r : Int32 × Hp} (hF : p_243 h x1 = some r) : k_Ev X 15 243 [.ref (1076 + 1), .int x1] h (.inl (some (.int r.1)), r.2) := by
  refine k_of hk_243 ?_
  show k_Go X 15 243 (0, [.ref (1076 + 1), .int x1], []) h _
  unfold p_243 at hF
  refine kg_aload hk_243 rfl rfl rfl ?_
  refine kg_aload hk_243 rfl rfl rfl ?_
  refine kg_iload hk_243 rfl rfl rfl ?_
  refine kg_call (as := [.ref (1076 + 1), .int x1]) (rest := [.ref (1076 + 1)]) hk_243 rfl (Or.inr (Or.inr (Or.inr ⟨Or.inl rfl, _, _, rfl, wc_1076⟩))) rfl rfl rfl (Nat.not_lt.mpr (Nat.le_of_ble_eq_true rfl)) (v_167_ok) (by decide) rfl ?_
  refine kg_push (x := 1) hk_243 rfl (by decide) rfl ?_
  refine kg_push (x := 1) hk_243 rfl (by decide) rfl ?_
  refine wf_bind hF (fun v1 hv1 hF => ?_)
  refine kg_call (as := [.ref (1076 + 1), .int (v_167 h x1), .int 1, .int 1]) (rest := []) hk_243 rfl (Or.inr (Or.inr (Or.inr ⟨Or.inl rfl, _, _, rfl, wc_1076⟩))) rfl rfl rfl (Nat.not_lt.mpr (Nat.le_of_ble_eq_true rfl)) (p_146_ok hv1) (by decide) rfl ?_
  refine wf_if hF (fun c2 hF => ?_) (fun c2 hF => ?_)
  · refine kg_ifF hk_243 rfl (jc_F1 c2) rfl ?_
    refine kg_push (x := 0) hk_243 rfl (by decide) rfl ?_
    have hF := Option.some.inj hF
    subst hF
    exact kg_iret hk_243 rfl (Or.inl rfl) rfl
  · refine kg_ifT hk_243 rfl (jc_T1 c2) ?_
    refine kg_aload hk_243 rfl rfl rfl ?_
    refine kg_iload hk_243 rfl rfl rfl ?_
    refine wf_bind hF (fun v3 hv3 hF => ?_)
    refine kg_call (as := [.ref (1076 + 1), .int x1]) (rest := []) hk_243 rfl (Or.inr (Or.inr (Or.inr ⟨Or.inl rfl, _, _, rfl, wc_1076⟩))) rfl rfl rfl (Nat.not_lt.mpr (Nat.le_of_ble_eq_true rfl)) (p_235_ok hv3) (by decide) rfl ?_
    refine kg_aload hk_243 rfl rfl rfl ?_
    refine kg_get (v := .ref (1122 + 1)) hk_243 rfl wk_1076_59 rfl rfl ?_
    refine kg_iload hk_243 rfl rfl rfl ?_
    refine wf_gd hF (fun g4 hF => ?_)
    refine kg_ald (y := (v3 1122 x1.toNatClampNeg)) hk_243 rfl wc_1122 g4 rfl rfl ?_
    refine kg_push (x := 2) hk_243 rfl (by decide) rfl ?_
    refine wf_gd hF (fun g7 hF => ?_)
    refine kv_mid (p := 25) (L := [.ref (1076 + 1), .int x1]) (S := [.int (if (v3 1122 x1.toNatClampNeg) = 2 then (v3 1092 x1.toNatClampNeg) else 0)]) ?_ (fun hK => ?_)
    · have hF := Option.some.inj hF
      subst hF
      exact kg_iret hk_243 rfl (Or.inl rfl) rfl
    · have hg := g7
      by_cases c5 : (v3 1122 x1.toNatClampNeg) = 2
      · have hg := wv_T c5 hg
        have hK := kv_T c5 hK
        have g6 := hg
        refine kg_icF hk_243 rfl (jc_F1 c5) rfl ?_
        refine kg_aload hk_243 rfl rfl rfl ?_
        refine kg_get (v := .ref (1092 + 1)) hk_243 rfl wk_1076_16 rfl rfl ?_
        refine kg_iload hk_243 rfl rfl rfl ?_
        refine kg_ald (y := (v3 1092 x1.toNatClampNeg)) hk_243 rfl wc_1092 g6 rfl rfl ?_
        refine kg_goto hk_243 rfl ?_
        exact hK
      · have hK := kv_F c5 hK
        refine kg_icT hk_243 rfl (jc_T1 c5) ?_
        refine kg_push (x := 0) hk_243 rfl (by decide) rfl ?_
        exact hK
-- NotebookWeirModel.order(I)I
theorem hk_244 : jP[244]? = some (jc_244, 2, [], []) := by rfl
def q_244_6 (h : Hp) (x1 : Int32) (s0 : Int32) : Option (Int32 × Hp) :=
  (p_146 h s0 1 1).bind fun v2 =>
  if v2.1 = 0 then
    (some (0, v2.2))
  else
    ((p_239 v2.2).bind fun v4 =>
    w_gd ((if x1 < (v4 1076 64) then w_ix x1 16 else true)) <|
    some ((if x1 < (v4 1076 64) then (v4 1126 x1.toNatClampNeg) else (-1)), v4))
theorem q_244_6_ok {X : List Int32}   {h : Hp} {s0 : Int32} {x1 : Int32}  {r : Int32 × Hp} (hF : q_244_6 h x1 s0 = some r)  : k_Go X 8 244 (6, [.ref (1076 + 1), .int x1], [.int s0, .ref (1076 + 1)]) h (.inl (some (.int r.1)), r.2) := by
  unfold q_244_6 at hF
  refine kg_push (x := 1) hk_244 rfl (by decide) rfl ?_
  refine kg_push (x := 1) hk_244 rfl (by decide) rfl ?_
  refine wf_bind hF (fun v2 hv2 hF => ?_)
  refine kg_call (as := [.ref (1076 + 1), .int s0, .int 1, .int 1]) (rest := []) hk_244 rfl (Or.inr (Or.inr (Or.inr ⟨Or.inl rfl, _, _, rfl, wc_1076⟩))) rfl rfl rfl (Nat.not_lt.mpr (Nat.le_of_ble_eq_true rfl)) (p_146_ok hv2) (by decide) rfl ?_
  refine wf_if hF (fun c3 hF => ?_) (fun c3 hF => ?_)
  · refine kg_ifF hk_244 rfl (jc_F1 c3) rfl ?_
    refine kg_push (x := 0) hk_244 rfl (by decide) rfl ?_
    have hF := Option.some.inj hF
    subst hF
    exact kg_iret hk_244 rfl (Or.inl rfl) rfl
  · refine kg_ifT hk_244 rfl (jc_T1 c3) ?_
    refine kg_aload hk_244 rfl rfl rfl ?_
    refine wf_bind hF (fun v4 hv4 hF => ?_)
    refine kg_call (as := [.ref (1076 + 1)]) (rest := []) hk_244 rfl (Or.inr (Or.inr (Or.inr ⟨Or.inl rfl, _, _, rfl, wc_1076⟩))) rfl rfl rfl (Nat.not_lt.mpr (Nat.le_of_ble_eq_true rfl)) (p_239_ok hv4) (by decide) rfl ?_
    refine kg_iload hk_244 rfl rfl rfl ?_
    refine kg_aload hk_244 rfl rfl rfl ?_
    refine kg_get (v := .int (v4 1076 64)) hk_244 rfl wk_1076_64 rfl rfl ?_
    refine wf_gd hF (fun g7 hF => ?_)
    refine kv_mid (p := 24) (L := [.ref (1076 + 1), .int x1]) (S := [.int (if x1 < (v4 1076 64) then (v4 1126 x1.toNatClampNeg) else (-1))]) ?_ (fun hK => ?_)
    · have hF := Option.some.inj hF
      subst hF
      exact kg_iret hk_244 rfl (Or.inl rfl) rfl
    · have hg := g7
      by_cases c5 : x1 < (v4 1076 64)
      · have hg := wv_T c5 hg
        have hK := kv_T c5 hK
        have g6 := hg
        refine kg_icF hk_244 rfl (jc_F3 c5) rfl ?_
        refine kg_aload hk_244 rfl rfl rfl ?_
        refine kg_get (v := .ref (1126 + 1)) hk_244 rfl wk_1076_63 rfl rfl ?_
        refine kg_iload hk_244 rfl rfl rfl ?_
        refine kg_ald (y := (v4 1126 x1.toNatClampNeg)) hk_244 rfl wc_1126 g6 rfl rfl ?_
        refine kg_goto hk_244 rfl ?_
        exact hK
      · have hK := kv_F c5 hK
        refine kg_icT hk_244 rfl (jc_T3 c5) ?_
        refine kg_push (x := (-1)) hk_244 rfl (by decide) rfl ?_
        exact hK
def p_244 (h : Hp) (x1 : Int32) : Option (Int32 × Hp) :=
  q_244_6 h x1 (if x1 < 0 then 0 else 1)
theorem p_244_ok {X : List Int32}  {h : Hp} {x1 : Int32}  {r : Int32 × Hp} (hF : p_244 h x1 = some r) : k_Ev X 8 244 [.ref (1076 + 1), .int x1] h (.inl (some (.int r.1)), r.2) := by
  refine k_of hk_244 ?_
  show k_Go X 8 244 (0, [.ref (1076 + 1), .int x1], []) h _
  unfold p_244 at hF
  refine kg_aload hk_244 rfl rfl rfl ?_
  refine kg_iload hk_244 rfl rfl rfl ?_
  refine kv_mid (p := 6) (L := [.ref (1076 + 1), .int x1]) (S := [.int (if x1 < 0 then 0 else 1), .ref (1076 + 1)]) ?_ (fun hK => ?_)
  · exact q_244_6_ok hF
  · by_cases c1 : x1 < 0
    · have hK := kv_T c1 hK
      refine kg_ifT hk_244 rfl (jc_T2 c1) ?_
      refine kg_push (x := 0) hk_244 rfl (by decide) rfl ?_
      exact hK
    · have hK := kv_F c1 hK
      refine kg_ifF hk_244 rfl (jc_F2 c1) rfl ?_
      refine kg_push (x := 1) hk_244 rfl (by decide) rfl ?_
      refine kg_goto hk_244 rfl ?_
      exact hK
-- NotebookWeirModel.runs()I
theorem hk_245 : jP[245]? = some (jc_245, 1, [], []) := by rfl
def p_245 (h : Hp) : Option (Int32 × Hp) :=
  w_let (w_up h 1076 79 0) fun h1 =>
  some ((h1 1076 20), h1)
theorem p_245_ok {X : List Int32}  {h : Hp}   {r : Int32 × Hp} (hF : p_245 h = some r) : k_Ev X 0 245 [.ref (1076 + 1)] h (.inl (some (.int r.1)), r.2) := by
  refine k_of hk_245 ?_
  show k_Go X 0 245 (0, [.ref (1076 + 1)], []) h _
  unfold p_245 at hF
  refine kg_aload hk_245 rfl rfl rfl ?_
  refine kg_push (x := 0) hk_245 rfl (by decide) rfl ?_
  refine wf_let hF (fun h1 hh1 hF => ?_)
  refine kg_put hk_245 rfl wk_1076_79 rfl rfl hh1 rfl ?_
  refine kg_aload hk_245 rfl rfl rfl ?_
  refine kg_get (v := .int (h1 1076 20)) hk_245 rfl wk_1076_20 rfl rfl ?_
  have hF := Option.some.inj hF
  subst hF
  exact kg_iret hk_245 rfl (Or.inl rfl) rfl
-- NotebookWeirModel.found()I
theorem hk_246 : jP[246]? = some (jc_246, 1, [], []) := by rfl
def p_246 (h : Hp) : Option (Int32 × Hp) :=
  w_let (w_up h 1076 79 0) fun h1 =>
  some ((h1 1076 21), h1)
theorem p_246_ok {X : List Int32}  {h : Hp}   {r : Int32 × Hp} (hF : p_246 h = some r) : k_Ev X 0 246 [.ref (1076 + 1)] h (.inl (some (.int r.1)), r.2) := by
  refine k_of hk_246 ?_
  show k_Go X 0 246 (0, [.ref (1076 + 1)], []) h _
  unfold p_246 at hF
  refine kg_aload hk_246 rfl rfl rfl ?_
  refine kg_push (x := 0) hk_246 rfl (by decide) rfl ?_
  refine wf_let hF (fun h1 hh1 hF => ?_)
  refine kg_put hk_246 rfl wk_1076_79 rfl rfl hh1 rfl ?_
  refine kg_aload hk_246 rfl rfl rfl ?_
  refine kg_get (v := .int (h1 1076 21)) hk_246 rfl wk_1076_21 rfl rfl ?_
  have hF := Option.some.inj hF
  subst hF
  exact kg_iret hk_246 rfl (Or.inl rfl) rfl
