/-! ===== the methods as functions over the flat heap, and that the interpreter does what they say (printed by wip/whole/dec.py) ===== -/
-- NotebookWeirModel.own(I)I
theorem hk_187 : jP[187]? = some (jc_187, 4, [], []) := by rfl
def l_187_29 (h : Hp) (x1 : Int32) (x2 : Int32) (x3 : Int32) : Option ((Int32 × Int32) ⊕ Int32) :=
  if x3 < (h 1076 2) then
    (w_gd ((if x2 = 0 then true else (w_ix x1 16) && ((if (((h 1120 x1.toNatClampNeg) >>> (x3 &&& 31)) &&& 1) = 0 then true else (w_ix x3 16) && (w_ix x1 16))))) <|
    some (.inl ((if x2 = 0 then 0 else (if (((h 1120 x1.toNatClampNeg) >>> (x3 &&& 31)) &&& 1) = 0 then 1 else (if (h 1088 x3.toNatClampNeg) < (h 1088 x1.toNatClampNeg) then 1 else 0))), (x3 + 1))))
  else
    (some (.inr x2))
theorem l_187_29_st {X : List Int32} {o : kO}  {h : Hp} {x1 : Int32} {x2 : Int32} {x3 : Int32}  {r : (Int32 × Int32) ⊕ Int32} (hF : l_187_29 h x1 x2 x3 = some r) (hK : ∀ s' : Int32 × Int32, r = .inl s' → k_Go X 0 187 (29, [.ref (1076 + 1), .int x1, .int (s'.1), .int (s'.2)], []) h o) (hX0 : ∀ e : Int32, r = .inr e → ∀ (u3 : Value), k_Go X 0 187 (59, [.ref (1076 + 1), .int x1, .int e, u3], []) h o) : k_Go X 0 187 (29, [.ref (1076 + 1), .int x1, .int x2, .int x3], []) h o := by
  refine kg_iload hk_187 rfl rfl rfl ?_
  refine kg_aload hk_187 rfl rfl rfl ?_
  refine kg_get (v := .int (h 1076 2)) hk_187 rfl wk_1076_2 rfl rfl ?_
  refine wf_if hF (fun c10 hF => ?_) (fun c10 hF => ?_)
  · refine kg_icF hk_187 rfl (jc_F3 c10) rfl ?_
    refine kg_iload hk_187 rfl rfl rfl ?_
    refine wf_gd hF (fun g17 hF => ?_)
    refine kv_mid (p := 56) (L := [.ref (1076 + 1), .int x1, .int x2, .int x3]) (S := [.int (if x2 = 0 then 0 else (if (((h 1120 x1.toNatClampNeg) >>> (x3 &&& 31)) &&& 1) = 0 then 1 else (if (h 1088 x3.toNatClampNeg) < (h 1088 x1.toNatClampNeg) then 1 else 0)))]) ?_ (fun hK => ?_)
    · refine kg_istore (L2 := [.ref (1076 + 1), .int x1, .int (if x2 = 0 then 0 else (if (((h 1120 x1.toNatClampNeg) >>> (x3 &&& 31)) &&& 1) = 0 then 1 else (if (h 1088 x3.toNatClampNeg) < (h 1088 x1.toNatClampNeg) then 1 else 0))), .int x3]) hk_187 rfl (Nat.le_of_ble_eq_true rfl) rfl rfl ?_
      refine kg_iinc (y := (x3 + 1)) (L2 := [.ref (1076 + 1), .int x1, .int (if x2 = 0 then 0 else (if (((h 1120 x1.toNatClampNeg) >>> (x3 &&& 31)) &&& 1) = 0 then 1 else (if (h 1088 x3.toNatClampNeg) < (h 1088 x1.toNatClampNeg) then 1 else 0))), .int (x3 + 1)]) hk_187 rfl rfl rfl rfl rfl ?_
      refine kg_goto hk_187 rfl ?_
      have hF := Option.some.inj hF
      exact hK _ hF.symm
    · have hg := g17
      by_cases c11 : x2 = 0
      · have hK := kv_T c11 hK
        refine kg_ifT hk_187 rfl (jc_T0 c11) ?_
        refine kg_push (x := 0) hk_187 rfl (by decide) rfl ?_
        exact hK
      · have hg := wv_F c11 hg
        have hK := kv_F c11 hK
        have g12 := wb_1 hg
        have hg := wb_2 hg
        refine kg_ifF hk_187 rfl (jc_F0 c11) rfl ?_
        refine kg_aload hk_187 rfl rfl rfl ?_
        refine kg_get (v := .ref (1120 + 1)) hk_187 rfl wk_1076_57 rfl rfl ?_
        refine kg_iload hk_187 rfl rfl rfl ?_
        refine kg_ald (y := (h 1120 x1.toNatClampNeg)) hk_187 rfl wc_1120 g12 rfl rfl ?_
        refine kg_iload hk_187 rfl rfl rfl ?_
        refine kg_bin (z := ((h 1120 x1.toNatClampNeg) >>> (x3 &&& 31))) hk_187 rfl rfl rfl ?_
        refine kg_push (x := 1) hk_187 rfl (by decide) rfl ?_
        refine kg_bin (z := (((h 1120 x1.toNatClampNeg) >>> (x3 &&& 31)) &&& 1)) hk_187 rfl rfl rfl ?_
        by_cases c13 : (((h 1120 x1.toNatClampNeg) >>> (x3 &&& 31)) &&& 1) = 0
        · have hK := kv_T c13 hK
          refine kg_ifT hk_187 rfl (jc_T0 c13) ?_
          refine kg_push (x := 1) hk_187 rfl (by decide) rfl ?_
          refine kg_goto hk_187 rfl ?_
          exact hK
        · have hg := wv_F c13 hg
          have hK := kv_F c13 hK
          have g14 := wb_1 hg
          have hg := wb_2 hg
          have g15 := hg
          refine kg_ifF hk_187 rfl (jc_F0 c13) rfl ?_
          refine kg_aload hk_187 rfl rfl rfl ?_
          refine kg_get (v := .ref (1088 + 1)) hk_187 rfl wk_1076_12 rfl rfl ?_
          refine kg_iload hk_187 rfl rfl rfl ?_
          refine kg_ald (y := (h 1088 x3.toNatClampNeg)) hk_187 rfl wc_1088 g14 rfl rfl ?_
          refine kg_aload hk_187 rfl rfl rfl ?_
          refine kg_get (v := .ref (1088 + 1)) hk_187 rfl wk_1076_12 rfl rfl ?_
          refine kg_iload hk_187 rfl rfl rfl ?_
          refine kg_ald (y := (h 1088 x1.toNatClampNeg)) hk_187 rfl wc_1088 g15 rfl rfl ?_
          by_cases c16 : (h 1088 x3.toNatClampNeg) < (h 1088 x1.toNatClampNeg)
          · have hK := kv_T c16 hK
            refine kg_icF hk_187 rfl (jc_F3 c16) rfl ?_
            refine kg_push (x := 1) hk_187 rfl (by decide) rfl ?_
            refine kg_goto hk_187 rfl ?_
            exact hK
          · have hK := kv_F c16 hK
            refine kg_icT hk_187 rfl (jc_T3 c16) ?_
            refine kg_push (x := 0) hk_187 rfl (by decide) rfl ?_
            exact hK
  · refine kg_icT hk_187 rfl (jc_T3 c10) ?_
    have hF := Option.some.inj hF
    exact hX0 _ hF.symm _
theorem l_187_29_ok {X : List Int32} {o : kO}  {h : Hp} {x1 : Int32}  {n : Nat} {s : Int32 × Int32} {e : Int32} (hF : w_lp (fun (s : Int32 × Int32) => l_187_29 h x1 s.1 s.2) n s = some e) (hX0 : ∀ (u3 : Value), k_Go X 0 187 (59, [.ref (1076 + 1), .int x1, .int e, u3], []) h o) : k_Go X 0 187 (29, [.ref (1076 + 1), .int x1, .int s.1, .int s.2], []) h o := by
  exact w_lp_ok (P := (fun (s : Int32 × Int32) => k_Go X 0 187 (29, [.ref (1076 + 1), .int x1, .int s.1, .int s.2], []) h o)) (Q := (fun (e : Int32) => (∀ (u3 : Value), k_Go X 0 187 (59, [.ref (1076 + 1), .int x1, .int e, u3], []) h o))) (fun s r hF hK hX => l_187_29_st hF hK (fun x hx => (hX _ hx))) n s e hF hX0
def l_187_61 (h : Hp) (x1 : Int32) (x2 : Int32) (x3 : Int32) : Option ((Int32 × Int32) ⊕ Int32) :=
  if x3 < (h 1076 48) then
    (w_gd ((if x2 = 0 then true else (w_ix x1 16) && ((if (((h 1120 x1.toNatClampNeg) >>> ((16 + x3) &&& 31)) &&& 1) = 0 then true else (w_ix ((4 * x1) + x3) 64) && (w_ix x3 4))))) <|
    some (.inl ((if x2 = 0 then 0 else (if (((h 1120 x1.toNatClampNeg) >>> ((16 + x3) &&& 31)) &&& 1) = 0 then 1 else (if (h 1091 ((4 * x1) + x3).toNatClampNeg) = (h 1115 x3.toNatClampNeg) then 1 else 0))), (x3 + 1))))
  else
    (some (.inr x2))
theorem l_187_61_st {X : List Int32} {o : kO}  {h : Hp} {x1 : Int32} {x2 : Int32} {x3 : Int32}  {r : (Int32 × Int32) ⊕ Int32} (hF : l_187_61 h x1 x2 x3 = some r) (hK : ∀ s' : Int32 × Int32, r = .inl s' → k_Go X 0 187 (61, [.ref (1076 + 1), .int x1, .int (s'.1), .int (s'.2)], []) h o) (hX0 : ∀ e : Int32, r = .inr e → ∀ (u3 : Value), k_Go X 0 187 (97, [.ref (1076 + 1), .int x1, .int e, u3], []) h o) : k_Go X 0 187 (61, [.ref (1076 + 1), .int x1, .int x2, .int x3], []) h o := by
  refine kg_iload hk_187 rfl rfl rfl ?_
  refine kg_aload hk_187 rfl rfl rfl ?_
  refine kg_get (v := .int (h 1076 48)) hk_187 rfl wk_1076_48 rfl rfl ?_
  refine wf_if hF (fun c19 hF => ?_) (fun c19 hF => ?_)
  · refine kg_icF hk_187 rfl (jc_F3 c19) rfl ?_
    refine kg_iload hk_187 rfl rfl rfl ?_
    refine wf_gd hF (fun g26 hF => ?_)
    refine kv_mid (p := 94) (L := [.ref (1076 + 1), .int x1, .int x2, .int x3]) (S := [.int (if x2 = 0 then 0 else (if (((h 1120 x1.toNatClampNeg) >>> ((16 + x3) &&& 31)) &&& 1) = 0 then 1 else (if (h 1091 ((4 * x1) + x3).toNatClampNeg) = (h 1115 x3.toNatClampNeg) then 1 else 0)))]) ?_ (fun hK => ?_)
    · refine kg_istore (L2 := [.ref (1076 + 1), .int x1, .int (if x2 = 0 then 0 else (if (((h 1120 x1.toNatClampNeg) >>> ((16 + x3) &&& 31)) &&& 1) = 0 then 1 else (if (h 1091 ((4 * x1) + x3).toNatClampNeg) = (h 1115 x3.toNatClampNeg) then 1 else 0))), .int x3]) hk_187 rfl (Nat.le_of_ble_eq_true rfl) rfl rfl ?_
      refine kg_iinc (y := (x3 + 1)) (L2 := [.ref (1076 + 1), .int x1, .int (if x2 = 0 then 0 else (if (((h 1120 x1.toNatClampNeg) >>> ((16 + x3) &&& 31)) &&& 1) = 0 then 1 else (if (h 1091 ((4 * x1) + x3).toNatClampNeg) = (h 1115 x3.toNatClampNeg) then 1 else 0))), .int (x3 + 1)]) hk_187 rfl rfl rfl rfl rfl ?_
      refine kg_goto hk_187 rfl ?_
      have hF := Option.some.inj hF
      exact hK _ hF.symm
    · have hg := g26
      by_cases c20 : x2 = 0
      · have hK := kv_T c20 hK
        refine kg_ifT hk_187 rfl (jc_T0 c20) ?_
        refine kg_push (x := 0) hk_187 rfl (by decide) rfl ?_
        exact hK
      · have hg := wv_F c20 hg
        have hK := kv_F c20 hK
        have g21 := wb_1 hg
        have hg := wb_2 hg
        refine kg_ifF hk_187 rfl (jc_F0 c20) rfl ?_
        refine kg_aload hk_187 rfl rfl rfl ?_
        refine kg_get (v := .ref (1120 + 1)) hk_187 rfl wk_1076_57 rfl rfl ?_
        refine kg_iload hk_187 rfl rfl rfl ?_
        refine kg_ald (y := (h 1120 x1.toNatClampNeg)) hk_187 rfl wc_1120 g21 rfl rfl ?_
        refine kg_push (x := 16) hk_187 rfl (by decide) rfl ?_
        refine kg_iload hk_187 rfl rfl rfl ?_
        refine kg_bin (z := (16 + x3)) hk_187 rfl rfl rfl ?_
        refine kg_bin (z := ((h 1120 x1.toNatClampNeg) >>> ((16 + x3) &&& 31))) hk_187 rfl rfl rfl ?_
        refine kg_push (x := 1) hk_187 rfl (by decide) rfl ?_
        refine kg_bin (z := (((h 1120 x1.toNatClampNeg) >>> ((16 + x3) &&& 31)) &&& 1)) hk_187 rfl rfl rfl ?_
        by_cases c22 : (((h 1120 x1.toNatClampNeg) >>> ((16 + x3) &&& 31)) &&& 1) = 0
        · have hK := kv_T c22 hK
          refine kg_ifT hk_187 rfl (jc_T0 c22) ?_
          refine kg_push (x := 1) hk_187 rfl (by decide) rfl ?_
          refine kg_goto hk_187 rfl ?_
          exact hK
        · have hg := wv_F c22 hg
          have hK := kv_F c22 hK
          have g23 := wb_1 hg
          have hg := wb_2 hg
          have g24 := hg
          refine kg_ifF hk_187 rfl (jc_F0 c22) rfl ?_
          refine kg_aload hk_187 rfl rfl rfl ?_
          refine kg_get (v := .ref (1091 + 1)) hk_187 rfl wk_1076_15 rfl rfl ?_
          refine kg_push (x := 4) hk_187 rfl (by decide) rfl ?_
          refine kg_iload hk_187 rfl rfl rfl ?_
          refine kg_bin (z := (4 * x1)) hk_187 rfl rfl rfl ?_
          refine kg_iload hk_187 rfl rfl rfl ?_
          refine kg_bin (z := ((4 * x1) + x3)) hk_187 rfl rfl rfl ?_
          refine kg_ald (y := (h 1091 ((4 * x1) + x3).toNatClampNeg)) hk_187 rfl wc_1091 g23 rfl rfl ?_
          refine kg_aload hk_187 rfl rfl rfl ?_
          refine kg_get (v := .ref (1115 + 1)) hk_187 rfl wk_1076_52 rfl rfl ?_
          refine kg_iload hk_187 rfl rfl rfl ?_
          refine kg_ald (y := (h 1115 x3.toNatClampNeg)) hk_187 rfl wc_1115 g24 rfl rfl ?_
          by_cases c25 : (h 1091 ((4 * x1) + x3).toNatClampNeg) = (h 1115 x3.toNatClampNeg)
          · have hK := kv_T c25 hK
            refine kg_icF hk_187 rfl (jc_F1 c25) rfl ?_
            refine kg_push (x := 1) hk_187 rfl (by decide) rfl ?_
            refine kg_goto hk_187 rfl ?_
            exact hK
          · have hK := kv_F c25 hK
            refine kg_icT hk_187 rfl (jc_T1 c25) ?_
            refine kg_push (x := 0) hk_187 rfl (by decide) rfl ?_
            exact hK
  · refine kg_icT hk_187 rfl (jc_T3 c19) ?_
    have hF := Option.some.inj hF
    exact hX0 _ hF.symm _
theorem l_187_61_ok {X : List Int32} {o : kO}  {h : Hp} {x1 : Int32}  {n : Nat} {s : Int32 × Int32} {e : Int32} (hF : w_lp (fun (s : Int32 × Int32) => l_187_61 h x1 s.1 s.2) n s = some e) (hX0 : ∀ (u3 : Value), k_Go X 0 187 (97, [.ref (1076 + 1), .int x1, .int e, u3], []) h o) : k_Go X 0 187 (61, [.ref (1076 + 1), .int x1, .int s.1, .int s.2], []) h o := by
  exact w_lp_ok (P := (fun (s : Int32 × Int32) => k_Go X 0 187 (61, [.ref (1076 + 1), .int x1, .int s.1, .int s.2], []) h o)) (Q := (fun (e : Int32) => (∀ (u3 : Value), k_Go X 0 187 (97, [.ref (1076 + 1), .int x1, .int e, u3], []) h o))) (fun s r hF hK hX => l_187_61_st hF hK (fun x hx => (hX _ hx))) n s e hF hX0
def q_187_26 (h : Hp) (x1 : Int32) (s0 : Int32) : Option (Int32) :=
  (w_lp (fun (s : Int32 × Int32) => l_187_29 h x1 s.1 s.2) w_N (s0, 0)).bind fun e18 =>
  (w_lp (fun (s : Int32 × Int32) => l_187_61 h x1 s.1 s.2) w_N (e18, 0)).bind fun e27 =>
  w_gd ((if e27 = 0 then true else w_ix x1 16)) <|
  some (if e27 = 0 then 1 else (if (h 1087 x1.toNatClampNeg) = 1 then 0 else 2))
theorem q_187_26_ok {X : List Int32}   {h : Hp} {s0 : Int32} {x1 : Int32}  {r : Int32} (hF : q_187_26 h x1 s0 = some r)  : ∀ (u2 : Value) (u3 : Value), k_Go X 0 187 (26, [.ref (1076 + 1), .int x1, u2, u3], [.int s0]) h (.inl (some (.int r)), h) := by
  intro u2 u3
  unfold q_187_26 at hF
  refine kg_istore (L2 := [.ref (1076 + 1), .int x1, .int s0, u3]) hk_187 rfl (Nat.le_of_ble_eq_true rfl) rfl rfl ?_
  refine kg_push (x := 0) hk_187 rfl (by decide) rfl ?_
  refine kg_istore (L2 := [.ref (1076 + 1), .int x1, .int s0, .int 0]) hk_187 rfl (Nat.le_of_ble_eq_true rfl) rfl rfl ?_
  refine wf_bind hF (fun e18 he18 hF => ?_)
  refine l_187_29_ok he18 ?_
  intro u3
  refine kg_push (x := 0) hk_187 rfl (by decide) rfl ?_
  refine kg_istore (L2 := [.ref (1076 + 1), .int x1, .int e18, .int 0]) hk_187 rfl (Nat.le_of_ble_eq_true rfl) rfl rfl ?_
  refine wf_bind hF (fun e27 he27 hF => ?_)
  refine l_187_61_ok he27 ?_
  intro u3
  refine kg_iload hk_187 rfl rfl rfl ?_
  refine wf_gd hF (fun g31 hF => ?_)
  refine kv_mid (p := 110) (L := [.ref (1076 + 1), .int x1, .int e27, u3]) (S := [.int (if e27 = 0 then 1 else (if (h 1087 x1.toNatClampNeg) = 1 then 0 else 2))]) ?_ (fun hK => ?_)
  · have hF := Option.some.inj hF
    subst hF
    exact kg_iret hk_187 rfl (Or.inl rfl) rfl
  · have hg := g31
    by_cases c28 : e27 = 0
    · have hK := kv_T c28 hK
      refine kg_ifF hk_187 rfl (jc_F1 c28) rfl ?_
      refine kg_push (x := 1) hk_187 rfl (by decide) rfl ?_
      refine kg_goto hk_187 rfl ?_
      exact hK
    · have hg := wv_F c28 hg
      have hK := kv_F c28 hK
      have g29 := hg
      refine kg_ifT hk_187 rfl (jc_T1 c28) ?_
      refine kg_aload hk_187 rfl rfl rfl ?_
      refine kg_get (v := .ref (1087 + 1)) hk_187 rfl wk_1076_11 rfl rfl ?_
      refine kg_iload hk_187 rfl rfl rfl ?_
      refine kg_ald (y := (h 1087 x1.toNatClampNeg)) hk_187 rfl wc_1087 g29 rfl rfl ?_
      refine kg_push (x := 1) hk_187 rfl (by decide) rfl ?_
      by_cases c30 : (h 1087 x1.toNatClampNeg) = 1
      · have hK := kv_T c30 hK
        refine kg_icF hk_187 rfl (jc_F1 c30) rfl ?_
        refine kg_push (x := 0) hk_187 rfl (by decide) rfl ?_
        refine kg_goto hk_187 rfl ?_
        exact hK
      · have hK := kv_F c30 hK
        refine kg_icT hk_187 rfl (jc_T1 c30) ?_
        refine kg_push (x := 2) hk_187 rfl (by decide) rfl ?_
        exact hK
def p_187 (h : Hp) (x1 : Int32) : Option (Int32) :=
  w_gd (w_ix x1 16) <|
  w_gd ((if (h 1087 x1.toNatClampNeg) ≤ 0 then true else (w_ix x1 16) && ((w_ix x1 16) && ((if (h 1089 x1.toNatClampNeg) = (h 1082 x1.toNatClampNeg) then (w_ix x1 16) && (w_ix x1 16) else true))))) <|
  q_187_26 h x1 (if (h 1087 x1.toNatClampNeg) ≤ 0 then 0 else (if (h 1089 x1.toNatClampNeg) = (h 1082 x1.toNatClampNeg) then (if (h 1090 x1.toNatClampNeg) = (h 1120 x1.toNatClampNeg) then 1 else 0) else 0))
theorem p_187_ok {X : List Int32}  {h : Hp} {x1 : Int32}  {r : Int32} (hF : p_187 h x1 = some r) : k_Ev X 0 187 [.ref (1076 + 1), .int x1] h (.inl (some (.int r)), h) := by
  refine k_of hk_187 ?_
  show k_Go X 0 187 (0, [.ref (1076 + 1), .int x1, (.retAddr 0), (.retAddr 0)], []) h _
  unfold p_187 at hF
  refine kg_aload hk_187 rfl rfl rfl ?_
  refine kg_get (v := .ref (1087 + 1)) hk_187 rfl wk_1076_11 rfl rfl ?_
  refine kg_iload hk_187 rfl rfl rfl ?_
  refine wf_gd hF (fun g1 hF => ?_)
  refine kg_ald (y := (h 1087 x1.toNatClampNeg)) hk_187 rfl wc_1087 g1 rfl rfl ?_
  refine wf_gd hF (fun g9 hF => ?_)
  refine kv_mid (p := 26) (L := [.ref (1076 + 1), .int x1, (.retAddr 0), (.retAddr 0)]) (S := [.int (if (h 1087 x1.toNatClampNeg) ≤ 0 then 0 else (if (h 1089 x1.toNatClampNeg) = (h 1082 x1.toNatClampNeg) then (if (h 1090 x1.toNatClampNeg) = (h 1120 x1.toNatClampNeg) then 1 else 0) else 0))]) ?_ (fun hK => ?_)
  · exact q_187_26_ok hF _ _
  · have hg := g9
    by_cases c2 : (h 1087 x1.toNatClampNeg) ≤ 0
    · have hK := kv_T c2 hK
      refine kg_ifT hk_187 rfl (jc_T5 c2) ?_
      refine kg_push (x := 0) hk_187 rfl (by decide) rfl ?_
      exact hK
    · have hg := wv_F c2 hg
      have hK := kv_F c2 hK
      have g3 := wb_1 hg
      have hg := wb_2 hg
      have g4 := wb_1 hg
      have hg := wb_2 hg
      refine kg_ifF hk_187 rfl (jc_F5 c2) rfl ?_
      refine kg_aload hk_187 rfl rfl rfl ?_
      refine kg_get (v := .ref (1089 + 1)) hk_187 rfl wk_1076_13 rfl rfl ?_
      refine kg_iload hk_187 rfl rfl rfl ?_
      refine kg_ald (y := (h 1089 x1.toNatClampNeg)) hk_187 rfl wc_1089 g3 rfl rfl ?_
      refine kg_aload hk_187 rfl rfl rfl ?_
      refine kg_get (v := .ref (1082 + 1)) hk_187 rfl wk_1076_6 rfl rfl ?_
      refine kg_iload hk_187 rfl rfl rfl ?_
      refine kg_ald (y := (h 1082 x1.toNatClampNeg)) hk_187 rfl wc_1082 g4 rfl rfl ?_
      by_cases c5 : (h 1089 x1.toNatClampNeg) = (h 1082 x1.toNatClampNeg)
      · have hg := wv_T c5 hg
        have hK := kv_T c5 hK
        have g6 := wb_1 hg
        have hg := wb_2 hg
        have g7 := hg
        refine kg_icF hk_187 rfl (jc_F1 c5) rfl ?_
        refine kg_aload hk_187 rfl rfl rfl ?_
        refine kg_get (v := .ref (1090 + 1)) hk_187 rfl wk_1076_14 rfl rfl ?_
        refine kg_iload hk_187 rfl rfl rfl ?_
        refine kg_ald (y := (h 1090 x1.toNatClampNeg)) hk_187 rfl wc_1090 g6 rfl rfl ?_
        refine kg_aload hk_187 rfl rfl rfl ?_
        refine kg_get (v := .ref (1120 + 1)) hk_187 rfl wk_1076_57 rfl rfl ?_
        refine kg_iload hk_187 rfl rfl rfl ?_
        refine kg_ald (y := (h 1120 x1.toNatClampNeg)) hk_187 rfl wc_1120 g7 rfl rfl ?_
        by_cases c8 : (h 1090 x1.toNatClampNeg) = (h 1120 x1.toNatClampNeg)
        · have hK := kv_T c8 hK
          refine kg_icF hk_187 rfl (jc_F1 c8) rfl ?_
          refine kg_push (x := 1) hk_187 rfl (by decide) rfl ?_
          refine kg_goto hk_187 rfl ?_
          exact hK
        · have hK := kv_F c8 hK
          refine kg_icT hk_187 rfl (jc_T1 c8) ?_
          refine kg_push (x := 0) hk_187 rfl (by decide) rfl ?_
          exact hK
      · have hK := kv_F c5 hK
        refine kg_icT hk_187 rfl (jc_T1 c5) ?_
        refine kg_push (x := 0) hk_187 rfl (by decide) rfl ?_
        exact hK
-- NotebookWeirModel.looks()V
theorem hk_188 : jP[188]? = some (jc_188, 8, [], []) := by rfl
def q_188_26 (h : Hp) (x1 : Int32) (x2 : Int32) (s0 : Int32) (s1 : Int32) : Option ((Int32 × Int32 × Hp) ⊕ Int32 × Hp) :=
  w_gd (w_ix s1 16) <|
  w_let (w_up h 1122 s1.toNatClampNeg s0) fun h8 =>
  w_gd (w_ix x2 16) <|
  some (.inl ((x1 ||| (if (h8 1122 x2.toNatClampNeg) = (-1) then 0 else (1 <<< (x2 &&& 31)))), (x2 + 1), h8))
theorem q_188_26_ok {X : List Int32} {o : kO}  {h : Hp} {s0 : Int32} {s1 : Int32} {x1 : Int32} {x2 : Int32}  {r : (Int32 × Int32 × Hp) ⊕ Int32 × Hp} (hF : q_188_26 h x1 x2 s0 s1 = some r) (hK : ∀ s' : Int32 × Int32 × Hp, r = .inl s' → ∀ (u3 : Value) (u4 : Value) (u5 : Value) (u6 : Value) (u7 : Value), k_Go X 6 188 (6, [.ref (1076 + 1), .int (s'.1), .int (s'.2.1), u3, u4, u5, u6, u7], []) s'.2.2 o) (hX0 : ∀ e : Int32 × Hp, r = .inr e → ∀ (u2 : Value) (u3 : Value) (u4 : Value) (u5 : Value) (u6 : Value) (u7 : Value), k_Go X 6 188 (43, [.ref (1076 + 1), .int e.1, u2, u3, u4, u5, u6, u7], []) e.2 o) : ∀ (u3 : Value) (u4 : Value) (u5 : Value) (u6 : Value) (u7 : Value), k_Go X 6 188 (26, [.ref (1076 + 1), .int x1, .int x2, u3, u4, u5, u6, u7], [.int s0, .int s1, .ref (1122 + 1)]) h o := by
  intro u3 u4 u5 u6 u7
  unfold q_188_26 at hF
  refine wf_gd hF (fun g7 hF => ?_)
  refine wf_let hF (fun h8 hh8 hF => ?_)
  refine kg_ast hk_188 rfl wc_1122 g7 (by rw [j_nar50]; exact hh8) rfl ?_
  refine kg_iload hk_188 rfl rfl rfl ?_
  refine kg_aload hk_188 rfl rfl rfl ?_
  refine kg_get (v := .ref (1122 + 1)) hk_188 rfl wk_1076_59 rfl rfl ?_
  refine kg_iload hk_188 rfl rfl rfl ?_
  refine wf_gd hF (fun g9 hF => ?_)
  refine kg_ald (y := (h8 1122 x2.toNatClampNeg)) hk_188 rfl wc_1122 g9 rfl rfl ?_
  refine kg_push (x := (-1)) hk_188 rfl (by decide) rfl ?_
  refine kv_mid (p := 39) (L := [.ref (1076 + 1), .int x1, .int x2, u3, u4, u5, u6, u7]) (S := [.int (if (h8 1122 x2.toNatClampNeg) = (-1) then 0 else (1 <<< (x2 &&& 31))), .int x1]) ?_ (fun hK => ?_)
  · refine kg_bin (z := (x1 ||| (if (h8 1122 x2.toNatClampNeg) = (-1) then 0 else (1 <<< (x2 &&& 31))))) hk_188 rfl rfl rfl ?_
    refine kg_istore (L2 := [.ref (1076 + 1), .int (x1 ||| (if (h8 1122 x2.toNatClampNeg) = (-1) then 0 else (1 <<< (x2 &&& 31)))), .int x2, u3, u4, u5, u6, u7]) hk_188 rfl (Nat.le_of_ble_eq_true rfl) rfl rfl ?_
    refine kg_iinc (y := (x2 + 1)) (L2 := [.ref (1076 + 1), .int (x1 ||| (if (h8 1122 x2.toNatClampNeg) = (-1) then 0 else (1 <<< (x2 &&& 31)))), .int (x2 + 1), u3, u4, u5, u6, u7]) hk_188 rfl rfl rfl rfl rfl ?_
    refine kg_goto hk_188 rfl ?_
    have hF := Option.some.inj hF
    exact hK _ hF.symm _ _ _ _ _
  · by_cases c10 : (h8 1122 x2.toNatClampNeg) = (-1)
    · have hK := kv_T c10 hK
      refine kg_icF hk_188 rfl (jc_F1 c10) rfl ?_
      refine kg_push (x := 0) hk_188 rfl (by decide) rfl ?_
      refine kg_goto hk_188 rfl ?_
      exact hK
    · have hK := kv_F c10 hK
      refine kg_icT hk_188 rfl (jc_T1 c10) ?_
      refine kg_push (x := 1) hk_188 rfl (by decide) rfl ?_
      refine kg_iload hk_188 rfl rfl rfl ?_
      refine kg_bin (z := (1 <<< (x2 &&& 31))) hk_188 rfl rfl rfl ?_
      exact hK
def l_188_6 (x1 : Int32) (x2 : Int32) (h : Hp) : Option ((Int32 × Int32 × Hp) ⊕ Int32 × Hp) :=
  if x2 < (h 1076 2) then
    ((p_184 h x2).bind fun v3 =>
    if v3 = 0 then
      ((p_186 h x2).bind fun v5 =>
      q_188_26 h x1 x2 (if v5 = 0 then (-1) else 4) x2)
    else
      (q_188_26 h x1 x2 5 x2))
  else
    (some (.inr (x1, h)))
theorem l_188_6_st {X : List Int32} {o : kO}  {h : Hp} {x1 : Int32} {x2 : Int32}  {r : (Int32 × Int32 × Hp) ⊕ Int32 × Hp} (hF : l_188_6 x1 x2 h = some r) (hK : ∀ s' : Int32 × Int32 × Hp, r = .inl s' → ∀ (u3 : Value) (u4 : Value) (u5 : Value) (u6 : Value) (u7 : Value), k_Go X 6 188 (6, [.ref (1076 + 1), .int (s'.1), .int (s'.2.1), u3, u4, u5, u6, u7], []) s'.2.2 o) (hX0 : ∀ e : Int32 × Hp, r = .inr e → ∀ (u2 : Value) (u3 : Value) (u4 : Value) (u5 : Value) (u6 : Value) (u7 : Value), k_Go X 6 188 (43, [.ref (1076 + 1), .int e.1, u2, u3, u4, u5, u6, u7], []) e.2 o) : ∀ (u3 : Value) (u4 : Value) (u5 : Value) (u6 : Value) (u7 : Value), k_Go X 6 188 (6, [.ref (1076 + 1), .int x1, .int x2, u3, u4, u5, u6, u7], []) h o := by
  intro u3 u4 u5 u6 u7
  refine kg_iload hk_188 rfl rfl rfl ?_
  refine kg_aload hk_188 rfl rfl rfl ?_
  refine kg_get (v := .int (h 1076 2)) hk_188 rfl wk_1076_2 rfl rfl ?_
  refine wf_if hF (fun c2 hF => ?_) (fun c2 hF => ?_)
  · refine kg_icF hk_188 rfl (jc_F3 c2) rfl ?_
    refine kg_aload hk_188 rfl rfl rfl ?_
    refine kg_get (v := .ref (1122 + 1)) hk_188 rfl wk_1076_59 rfl rfl ?_
    refine kg_iload hk_188 rfl rfl rfl ?_
    refine kg_aload hk_188 rfl rfl rfl ?_
    refine kg_iload hk_188 rfl rfl rfl ?_
    refine wf_bind hF (fun v3 hv3 hF => ?_)
    refine kg_call (as := [.ref (1076 + 1), .int x2]) (rest := [.int x2, .ref (1122 + 1)]) hk_188 rfl (Or.inr (Or.inr (Or.inr ⟨Or.inl rfl, _, _, rfl, wc_1076⟩))) rfl rfl rfl (Nat.not_lt.mpr (Nat.le_of_ble_eq_true rfl)) (p_184_ok hv3) (by decide) rfl ?_
    refine wf_if hF (fun c4 hF => ?_) (fun c4 hF => ?_)
    · refine kg_ifT hk_188 rfl (jc_T0 c4) ?_
      refine kg_aload hk_188 rfl rfl rfl ?_
      refine kg_iload hk_188 rfl rfl rfl ?_
      refine wf_bind hF (fun v5 hv5 hF => ?_)
      refine kg_call (as := [.ref (1076 + 1), .int x2]) (rest := [.int x2, .ref (1122 + 1)]) hk_188 rfl (Or.inr (Or.inr (Or.inr ⟨Or.inl rfl, _, _, rfl, wc_1076⟩))) rfl rfl rfl (Nat.not_lt.mpr (Nat.le_of_ble_eq_true rfl)) (p_186_ok hv5) (by decide) rfl ?_
      refine kv_mid (p := 26) (L := [.ref (1076 + 1), .int x1, .int x2, u3, u4, u5, u6, u7]) (S := [.int (if v5 = 0 then (-1) else 4), .int x2, .ref (1122 + 1)]) ?_ (fun hK => ?_)
      · exact q_188_26_ok hF hK hX0 _ _ _ _ _
      · by_cases c6 : v5 = 0
        · have hK := kv_T c6 hK
          refine kg_ifT hk_188 rfl (jc_T0 c6) ?_
          refine kg_push (x := (-1)) hk_188 rfl (by decide) rfl ?_
          exact hK
        · have hK := kv_F c6 hK
          refine kg_ifF hk_188 rfl (jc_F0 c6) rfl ?_
          refine kg_push (x := 4) hk_188 rfl (by decide) rfl ?_
          refine kg_goto hk_188 rfl ?_
          exact hK
    · refine kg_ifF hk_188 rfl (jc_F0 c4) rfl ?_
      refine kg_push (x := 5) hk_188 rfl (by decide) rfl ?_
      refine kg_goto hk_188 rfl ?_
      exact q_188_26_ok hF hK hX0 _ _ _ _ _
  · refine kg_icT hk_188 rfl (jc_T3 c2) ?_
    have hF := Option.some.inj hF
    exact hX0 _ hF.symm _ _ _ _ _ _
theorem l_188_6_ok {X : List Int32} {o : kO}    {n : Nat} {s : Int32 × Int32 × Hp} {e : Int32 × Hp} (hF : w_lp (fun (s : Int32 × Int32 × Hp) => l_188_6 s.1 s.2.1 s.2.2) n s = some e) (hX0 : ∀ (u2 : Value) (u3 : Value) (u4 : Value) (u5 : Value) (u6 : Value) (u7 : Value), k_Go X 6 188 (43, [.ref (1076 + 1), .int e.1, u2, u3, u4, u5, u6, u7], []) e.2 o) : ∀ (u3 : Value) (u4 : Value) (u5 : Value) (u6 : Value) (u7 : Value), k_Go X 6 188 (6, [.ref (1076 + 1), .int s.1, .int s.2.1, u3, u4, u5, u6, u7], []) s.2.2 o := by
  exact w_lp_ok (P := (fun (s : Int32 × Int32 × Hp) => ∀ (u3 : Value) (u4 : Value) (u5 : Value) (u6 : Value) (u7 : Value), k_Go X 6 188 (6, [.ref (1076 + 1), .int s.1, .int s.2.1, u3, u4, u5, u6, u7], []) s.2.2 o)) (Q := (fun (e : Int32 × Hp) => (∀ (u2 : Value) (u3 : Value) (u4 : Value) (u5 : Value) (u6 : Value) (u7 : Value), k_Go X 6 188 (43, [.ref (1076 + 1), .int e.1, u2, u3, u4, u5, u6, u7], []) e.2 o))) (fun s r hF hK hX => l_188_6_st hF hK (fun x hx => (hX _ hx))) n s e hF hX0
def q_188_109 (h : Hp) (x1 : Int32) (x3 : Int32) (x5 : Int32) (x6 : Int32) (x7 : Int32) (s0 : Int32) : Option ((Int32 × Int32 × Int32) ⊕ Int32 × Int32) :=
  w_gd ((if x5 = 0 then (if x7 = 0 then true else w_ix x6 16) else true)) <|
  some (.inl (s0, (if x5 = 0 then (if x7 = 0 then 0 else (if (h 1122 x6.toNatClampNeg) = 1 then 1 else 0)) else 1), (x6 + 1)))
theorem q_188_109_ok {X : List Int32} {o : kO}  {h : Hp} {s0 : Int32} {x1 : Int32} {x3 : Int32} {x5 : Int32} {x6 : Int32} {x7 : Int32}  {r : (Int32 × Int32 × Int32) ⊕ Int32 × Int32} (hF : q_188_109 h x1 x3 x5 x6 x7 s0 = some r) (hK : ∀ s' : Int32 × Int32 × Int32, r = .inl s' → ∀ (u2 : Value) (u7 : Value), k_Go X 6 188 (78, [.ref (1076 + 1), .int x1, u2, .int x3, .int (s'.1), .int (s'.2.1), .int (s'.2.2), u7], []) h o) (hX0 : ∀ e : Int32 × Int32, r = .inr e → ∀ (u2 : Value) (u6 : Value) (u7 : Value), k_Go X 6 188 (126, [.ref (1076 + 1), .int x1, u2, .int x3, .int e.1, .int e.2, u6, u7], []) h o) : ∀ (u2 : Value) (u4 : Value), k_Go X 6 188 (109, [.ref (1076 + 1), .int x1, u2, .int x3, u4, .int x5, .int x6, .int x7], [.int s0]) h o := by
  intro u2 u4
  unfold q_188_109 at hF
  refine kg_istore (L2 := [.ref (1076 + 1), .int x1, u2, .int x3, .int s0, .int x5, .int x6, .int x7]) hk_188 rfl (Nat.le_of_ble_eq_true rfl) rfl rfl ?_
  refine kg_iload hk_188 rfl rfl rfl ?_
  refine wf_gd hF (fun g30 hF => ?_)
  refine kv_mid (p := 123) (L := [.ref (1076 + 1), .int x1, u2, .int x3, .int s0, .int x5, .int x6, .int x7]) (S := [.int (if x5 = 0 then (if x7 = 0 then 0 else (if (h 1122 x6.toNatClampNeg) = 1 then 1 else 0)) else 1)]) ?_ (fun hK => ?_)
  · refine kg_istore (L2 := [.ref (1076 + 1), .int x1, u2, .int x3, .int s0, .int (if x5 = 0 then (if x7 = 0 then 0 else (if (h 1122 x6.toNatClampNeg) = 1 then 1 else 0)) else 1), .int x6, .int x7]) hk_188 rfl (Nat.le_of_ble_eq_true rfl) rfl rfl ?_
    refine kg_iinc (y := (x6 + 1)) (L2 := [.ref (1076 + 1), .int x1, u2, .int x3, .int s0, .int (if x5 = 0 then (if x7 = 0 then 0 else (if (h 1122 x6.toNatClampNeg) = 1 then 1 else 0)) else 1), .int (x6 + 1), .int x7]) hk_188 rfl rfl rfl rfl rfl ?_
    refine kg_goto hk_188 rfl ?_
    have hF := Option.some.inj hF
    exact hK _ hF.symm _ _
  · have hg := g30
    by_cases c26 : x5 = 0
    · have hg := wv_T c26 hg
      have hK := kv_T c26 hK
      refine kg_ifF hk_188 rfl (jc_F1 c26) rfl ?_
      refine kg_iload hk_188 rfl rfl rfl ?_
      by_cases c27 : x7 = 0
      · have hK := kv_T c27 hK
        refine kg_ifT hk_188 rfl (jc_T0 c27) ?_
        refine kg_push (x := 0) hk_188 rfl (by decide) rfl ?_
        exact hK
      · have hg := wv_F c27 hg
        have hK := kv_F c27 hK
        have g28 := hg
        refine kg_ifF hk_188 rfl (jc_F0 c27) rfl ?_
        refine kg_aload hk_188 rfl rfl rfl ?_
        refine kg_get (v := .ref (1122 + 1)) hk_188 rfl wk_1076_59 rfl rfl ?_
        refine kg_iload hk_188 rfl rfl rfl ?_
        refine kg_ald (y := (h 1122 x6.toNatClampNeg)) hk_188 rfl wc_1122 g28 rfl rfl ?_
        refine kg_push (x := 1) hk_188 rfl (by decide) rfl ?_
        by_cases c29 : (h 1122 x6.toNatClampNeg) = 1
        · have hK := kv_T c29 hK
          refine kg_icF hk_188 rfl (jc_F1 c29) rfl ?_
          refine kg_push (x := 1) hk_188 rfl (by decide) rfl ?_
          refine kg_goto hk_188 rfl ?_
          exact hK
        · have hK := kv_F c29 hK
          refine kg_icT hk_188 rfl (jc_T1 c29) ?_
          refine kg_push (x := 0) hk_188 rfl (by decide) rfl ?_
          exact hK
    · have hK := kv_F c26 hK
      refine kg_ifT hk_188 rfl (jc_T1 c26) ?_
      refine kg_push (x := 1) hk_188 rfl (by decide) rfl ?_
      refine kg_goto hk_188 rfl ?_
      exact hK
def q_188_95 (h : Hp) (x1 : Int32) (x3 : Int32) (x4 : Int32) (x5 : Int32) (x6 : Int32) (s0 : Int32) : Option ((Int32 × Int32 × Int32) ⊕ Int32 × Int32) :=
  w_gd ((if x4 = 0 then (if s0 = 0 then true else w_ix x6 16) else true)) <|
  q_188_109 h x1 x3 x5 x6 s0 (if x4 = 0 then (if s0 = 0 then 0 else (if (h 1122 x6.toNatClampNeg) ≤ 1 then 0 else 1)) else 1)
theorem q_188_95_ok {X : List Int32} {o : kO}  {h : Hp} {s0 : Int32} {x1 : Int32} {x3 : Int32} {x4 : Int32} {x5 : Int32} {x6 : Int32}  {r : (Int32 × Int32 × Int32) ⊕ Int32 × Int32} (hF : q_188_95 h x1 x3 x4 x5 x6 s0 = some r) (hK : ∀ s' : Int32 × Int32 × Int32, r = .inl s' → ∀ (u2 : Value) (u7 : Value), k_Go X 6 188 (78, [.ref (1076 + 1), .int x1, u2, .int x3, .int (s'.1), .int (s'.2.1), .int (s'.2.2), u7], []) h o) (hX0 : ∀ e : Int32 × Int32, r = .inr e → ∀ (u2 : Value) (u6 : Value) (u7 : Value), k_Go X 6 188 (126, [.ref (1076 + 1), .int x1, u2, .int x3, .int e.1, .int e.2, u6, u7], []) h o) : ∀ (u2 : Value) (u7 : Value), k_Go X 6 188 (95, [.ref (1076 + 1), .int x1, u2, .int x3, .int x4, .int x5, .int x6, u7], [.int s0]) h o := by
  intro u2 u7
  unfold q_188_95 at hF
  refine kg_istore (L2 := [.ref (1076 + 1), .int x1, u2, .int x3, .int x4, .int x5, .int x6, .int s0]) hk_188 rfl (Nat.le_of_ble_eq_true rfl) rfl rfl ?_
  refine kg_iload hk_188 rfl rfl rfl ?_
  refine wf_gd hF (fun g25 hF => ?_)
  refine kv_mid (p := 109) (L := [.ref (1076 + 1), .int x1, u2, .int x3, .int x4, .int x5, .int x6, .int s0]) (S := [.int (if x4 = 0 then (if s0 = 0 then 0 else (if (h 1122 x6.toNatClampNeg) ≤ 1 then 0 else 1)) else 1)]) ?_ (fun hK => ?_)
  · exact q_188_109_ok hF hK hX0 _ _
  · have hg := g25
    by_cases c21 : x4 = 0
    · have hg := wv_T c21 hg
      have hK := kv_T c21 hK
      refine kg_ifF hk_188 rfl (jc_F1 c21) rfl ?_
      refine kg_iload hk_188 rfl rfl rfl ?_
      by_cases c22 : s0 = 0
      · have hK := kv_T c22 hK
        refine kg_ifT hk_188 rfl (jc_T0 c22) ?_
        refine kg_push (x := 0) hk_188 rfl (by decide) rfl ?_
        exact hK
      · have hg := wv_F c22 hg
        have hK := kv_F c22 hK
        have g23 := hg
        refine kg_ifF hk_188 rfl (jc_F0 c22) rfl ?_
        refine kg_aload hk_188 rfl rfl rfl ?_
        refine kg_get (v := .ref (1122 + 1)) hk_188 rfl wk_1076_59 rfl rfl ?_
        refine kg_iload hk_188 rfl rfl rfl ?_
        refine kg_ald (y := (h 1122 x6.toNatClampNeg)) hk_188 rfl wc_1122 g23 rfl rfl ?_
        refine kg_push (x := 1) hk_188 rfl (by decide) rfl ?_
        by_cases c24 : (h 1122 x6.toNatClampNeg) ≤ 1
        · have hK := kv_T c24 hK
          refine kg_icT hk_188 rfl (jc_T5 c24) ?_
          refine kg_push (x := 0) hk_188 rfl (by decide) rfl ?_
          exact hK
        · have hK := kv_F c24 hK
          refine kg_icF hk_188 rfl (jc_F5 c24) rfl ?_
          refine kg_push (x := 1) hk_188 rfl (by decide) rfl ?_
          refine kg_goto hk_188 rfl ?_
          exact hK
    · have hK := kv_F c21 hK
      refine kg_ifT hk_188 rfl (jc_T1 c21) ?_
      refine kg_push (x := 1) hk_188 rfl (by decide) rfl ?_
      refine kg_goto hk_188 rfl ?_
      exact hK
def l_188_78 (h : Hp) (x3 : Int32) (x4 : Int32) (x5 : Int32) (x6 : Int32) : Option ((Int32 × Int32 × Int32) ⊕ Int32 × Int32) :=
  if x6 < (h 1076 2) then
    (w_gd (w_ix x3 16) <|
    q_188_95 h x1 x3 x4 x5 x6 (if (((h 1120 x3.toNatClampNeg) >>> (x6 &&& 31)) &&& 1) = 1 then 1 else 0))
  else
    (some (.inr (x4, x5)))
theorem l_188_78_st {X : List Int32} {o : kO}  {h : Hp} {x1 : Int32} {x3 : Int32} {x4 : Int32} {x5 : Int32} {x6 : Int32}  {r : (Int32 × Int32 × Int32) ⊕ Int32 × Int32} (hF : l_188_78 h x3 x4 x5 x6 = some r) (hK : ∀ s' : Int32 × Int32 × Int32, r = .inl s' → ∀ (u2 : Value) (u7 : Value), k_Go X 6 188 (78, [.ref (1076 + 1), .int x1, u2, .int x3, .int (s'.1), .int (s'.2.1), .int (s'.2.2), u7], []) h o) (hX0 : ∀ e : Int32 × Int32, r = .inr e → ∀ (u2 : Value) (u6 : Value) (u7 : Value), k_Go X 6 188 (126, [.ref (1076 + 1), .int x1, u2, .int x3, .int e.1, .int e.2, u6, u7], []) h o) : ∀ (u2 : Value) (u7 : Value), k_Go X 6 188 (78, [.ref (1076 + 1), .int x1, u2, .int x3, .int x4, .int x5, .int x6, u7], []) h o := by
  intro u2 u7
  refine kg_iload hk_188 rfl rfl rfl ?_
  refine kg_aload hk_188 rfl rfl rfl ?_
  refine kg_get (v := .int (h 1076 2)) hk_188 rfl wk_1076_2 rfl rfl ?_
  refine wf_if hF (fun c18 hF => ?_) (fun c18 hF => ?_)
  · refine kg_icF hk_188 rfl (jc_F3 c18) rfl ?_
    refine kg_aload hk_188 rfl rfl rfl ?_
    refine kg_get (v := .ref (1120 + 1)) hk_188 rfl wk_1076_57 rfl rfl ?_
    refine kg_iload hk_188 rfl rfl rfl ?_
    refine wf_gd hF (fun g19 hF => ?_)
    refine kg_ald (y := (h 1120 x3.toNatClampNeg)) hk_188 rfl wc_1120 g19 rfl rfl ?_
    refine kg_iload hk_188 rfl rfl rfl ?_
    refine kg_bin (z := ((h 1120 x3.toNatClampNeg) >>> (x6 &&& 31))) hk_188 rfl rfl rfl ?_
    refine kg_push (x := 1) hk_188 rfl (by decide) rfl ?_
    refine kg_bin (z := (((h 1120 x3.toNatClampNeg) >>> (x6 &&& 31)) &&& 1)) hk_188 rfl rfl rfl ?_
    refine kg_push (x := 1) hk_188 rfl (by decide) rfl ?_
    refine kv_mid (p := 95) (L := [.ref (1076 + 1), .int x1, u2, .int x3, .int x4, .int x5, .int x6, u7]) (S := [.int (if (((h 1120 x3.toNatClampNeg) >>> (x6 &&& 31)) &&& 1) = 1 then 1 else 0)]) ?_ (fun hK => ?_)
    · exact q_188_95_ok hF hK hX0 _ _
    · by_cases c20 : (((h 1120 x3.toNatClampNeg) >>> (x6 &&& 31)) &&& 1) = 1
      · have hK := kv_T c20 hK
        refine kg_icF hk_188 rfl (jc_F1 c20) rfl ?_
        refine kg_push (x := 1) hk_188 rfl (by decide) rfl ?_
        refine kg_goto hk_188 rfl ?_
        exact hK
      · have hK := kv_F c20 hK
        refine kg_icT hk_188 rfl (jc_T1 c20) ?_
        refine kg_push (x := 0) hk_188 rfl (by decide) rfl ?_
        exact hK
  · refine kg_icT hk_188 rfl (jc_T3 c18) ?_
    have hF := Option.some.inj hF
    exact hX0 _ hF.symm _ _ _
theorem l_188_78_ok {X : List Int32} {o : kO}  {h : Hp} {x1 : Int32} {x3 : Int32}  {n : Nat} {s : Int32 × Int32 × Int32} {e : Int32 × Int32} (hF : w_lp (fun (s : Int32 × Int32 × Int32) => l_188_78 h x3 s.1 s.2.1 s.2.2) n s = some e) (hX0 : ∀ (u2 : Value) (u6 : Value) (u7 : Value), k_Go X 6 188 (126, [.ref (1076 + 1), .int x1, u2, .int x3, .int e.1, .int e.2, u6, u7], []) h o) : ∀ (u2 : Value) (u7 : Value), k_Go X 6 188 (78, [.ref (1076 + 1), .int x1, u2, .int x3, .int s.1, .int s.2.1, .int s.2.2, u7], []) h o := by
  exact w_lp_ok (P := (fun (s : Int32 × Int32 × Int32) => ∀ (u2 : Value) (u7 : Value), k_Go X 6 188 (78, [.ref (1076 + 1), .int x1, u2, .int x3, .int s.1, .int s.2.1, .int s.2.2, u7], []) h o)) (Q := (fun (e : Int32 × Int32) => (∀ (u2 : Value) (u6 : Value) (u7 : Value), k_Go X 6 188 (126, [.ref (1076 + 1), .int x1, u2, .int x3, .int e.1, .int e.2, u6, u7], []) h o))) (fun s r hF hK hX => l_188_78_st hF hK (fun x hx => (hX _ hx))) n s e hF hX0
def q_188_140 (h : Hp) (x1 : Int32) (x3 : Int32) (s0 : Int32) (s1 : Int32) : Option ((Int32 × Int32 × Int32 × Hp) ⊕ Int32 × Int32 × Hp) :=
  w_gd (w_ix s1 16) <|
  w_let (w_up h 1122 s1.toNatClampNeg s0) fun h36 =>
  some (.inl ((x1 ||| (1 <<< (x3 &&& 31))), 1, (x3 + 1), h36))
theorem q_188_140_ok {X : List Int32} {o : kO}  {h : Hp} {s0 : Int32} {s1 : Int32} {x1 : Int32} {x3 : Int32}  {r : (Int32 × Int32 × Int32 × Hp) ⊕ Int32 × Int32 × Hp} (hF : q_188_140 h x1 x3 s0 s1 = some r) (hK : ∀ s' : Int32 × Int32 × Int32 × Hp, r = .inl s' → ∀ (u4 : Value) (u5 : Value) (u6 : Value) (u7 : Value), k_Go X 6 188 (51, [.ref (1076 + 1), .int (s'.1), .int (s'.2.1), .int (s'.2.2.1), u4, u5, u6, u7], []) s'.2.2.2 o) (hX0 : ∀ e : Int32 × Int32 × Hp, r = .inr e → ∀ (u3 : Value) (u4 : Value) (u5 : Value) (u6 : Value) (u7 : Value), k_Go X 6 188 (151, [.ref (1076 + 1), .int e.1, .int e.2.1, u3, u4, u5, u6, u7], []) e.2.2 o) : ∀ (u2 : Value) (u4 : Value) (u5 : Value) (u6 : Value) (u7 : Value), k_Go X 6 188 (140, [.ref (1076 + 1), .int x1, u2, .int x3, u4, u5, u6, u7], [.int s0, .int s1, .ref (1122 + 1)]) h o := by
  intro u2 u4 u5 u6 u7
  unfold q_188_140 at hF
  refine wf_gd hF (fun g35 hF => ?_)
  refine wf_let hF (fun h36 hh36 hF => ?_)
  refine kg_ast hk_188 rfl wc_1122 g35 (by rw [j_nar50]; exact hh36) rfl ?_
  refine kg_iload hk_188 rfl rfl rfl ?_
  refine kg_push (x := 1) hk_188 rfl (by decide) rfl ?_
  refine kg_iload hk_188 rfl rfl rfl ?_
  refine kg_bin (z := (1 <<< (x3 &&& 31))) hk_188 rfl rfl rfl ?_
  refine kg_bin (z := (x1 ||| (1 <<< (x3 &&& 31)))) hk_188 rfl rfl rfl ?_
  refine kg_istore (L2 := [.ref (1076 + 1), .int (x1 ||| (1 <<< (x3 &&& 31))), u2, .int x3, u4, u5, u6, u7]) hk_188 rfl (Nat.le_of_ble_eq_true rfl) rfl rfl ?_
  refine kg_push (x := 1) hk_188 rfl (by decide) rfl ?_
  refine kg_istore (L2 := [.ref (1076 + 1), .int (x1 ||| (1 <<< (x3 &&& 31))), .int 1, .int x3, u4, u5, u6, u7]) hk_188 rfl (Nat.le_of_ble_eq_true rfl) rfl rfl ?_
  refine kg_iinc (y := (x3 + 1)) (L2 := [.ref (1076 + 1), .int (x1 ||| (1 <<< (x3 &&& 31))), .int 1, .int (x3 + 1), u4, u5, u6, u7]) hk_188 rfl rfl rfl rfl rfl ?_
  refine kg_goto hk_188 rfl ?_
  have hF := Option.some.inj hF
  exact hK _ hF.symm _ _ _ _
def l_188_51 (x1 : Int32) (x2 : Int32) (x3 : Int32) (h : Hp) : Option ((Int32 × Int32 × Int32 × Hp) ⊕ Int32 × Int32 × Hp) :=
  if x3 < (h 1076 2) then
    (w_gd (w_ix x3 16) <|
    if (h 1122 x3.toNatClampNeg) = (-1) then
      (w_gd (w_ix x3 16) <|
      if (((h 1120 x3.toNatClampNeg) &&& 65535) &&& (x1 ^^^ (-1))) = 0 then
        ((w_lp (fun (s : Int32 × Int32 × Int32) => l_188_78 h x3 s.1 s.2.1 s.2.2) w_N (0, 0, 0)).bind fun e31 =>
        if e31.1 = 0 then
          (if e31.2 = 0 then
            ((p_187 h x3).bind fun v34 =>
            q_188_140 h x1 x3 v34 x3)
          else
            (q_188_140 h x1 x3 1 x3))
        else
          (q_188_140 h x1 x3 3 x3))
      else
        (some (.inl (x1, x2, (x3 + 1), h))))
    else
      (some (.inl (x1, x2, (x3 + 1), h))))
  else
    (some (.inr (x1, x2, h)))
theorem l_188_51_st {X : List Int32} {o : kO}  {h : Hp} {x1 : Int32} {x2 : Int32} {x3 : Int32}  {r : (Int32 × Int32 × Int32 × Hp) ⊕ Int32 × Int32 × Hp} (hF : l_188_51 x1 x2 x3 h = some r) (hK : ∀ s' : Int32 × Int32 × Int32 × Hp, r = .inl s' → ∀ (u4 : Value) (u5 : Value) (u6 : Value) (u7 : Value), k_Go X 6 188 (51, [.ref (1076 + 1), .int (s'.1), .int (s'.2.1), .int (s'.2.2.1), u4, u5, u6, u7], []) s'.2.2.2 o) (hX0 : ∀ e : Int32 × Int32 × Hp, r = .inr e → ∀ (u3 : Value) (u4 : Value) (u5 : Value) (u6 : Value) (u7 : Value), k_Go X 6 188 (151, [.ref (1076 + 1), .int e.1, .int e.2.1, u3, u4, u5, u6, u7], []) e.2.2 o) : ∀ (u4 : Value) (u5 : Value) (u6 : Value) (u7 : Value), k_Go X 6 188 (51, [.ref (1076 + 1), .int x1, .int x2, .int x3, u4, u5, u6, u7], []) h o := by
  intro u4 u5 u6 u7
  refine kg_iload hk_188 rfl rfl rfl ?_
  refine kg_aload hk_188 rfl rfl rfl ?_
  refine kg_get (v := .int (h 1076 2)) hk_188 rfl wk_1076_2 rfl rfl ?_
  refine wf_if hF (fun c13 hF => ?_) (fun c13 hF => ?_)
  · refine kg_icF hk_188 rfl (jc_F3 c13) rfl ?_
    refine kg_aload hk_188 rfl rfl rfl ?_
    refine kg_get (v := .ref (1122 + 1)) hk_188 rfl wk_1076_59 rfl rfl ?_
    refine kg_iload hk_188 rfl rfl rfl ?_
    refine wf_gd hF (fun g14 hF => ?_)
    refine kg_ald (y := (h 1122 x3.toNatClampNeg)) hk_188 rfl wc_1122 g14 rfl rfl ?_
    refine kg_push (x := (-1)) hk_188 rfl (by decide) rfl ?_
    refine wf_if hF (fun c15 hF => ?_) (fun c15 hF => ?_)
    · refine kg_icF hk_188 rfl (jc_F1 c15) rfl ?_
      refine kg_aload hk_188 rfl rfl rfl ?_
      refine kg_get (v := .ref (1120 + 1)) hk_188 rfl wk_1076_57 rfl rfl ?_
      refine kg_iload hk_188 rfl rfl rfl ?_
      refine wf_gd hF (fun g16 hF => ?_)
      refine kg_ald (y := (h 1120 x3.toNatClampNeg)) hk_188 rfl wc_1120 g16 rfl rfl ?_
      refine kg_push (x := 65535) hk_188 rfl (by decide) rfl ?_
      refine kg_bin (z := ((h 1120 x3.toNatClampNeg) &&& 65535)) hk_188 rfl rfl rfl ?_
      refine kg_iload hk_188 rfl rfl rfl ?_
      refine kg_push (x := (-1)) hk_188 rfl (by decide) rfl ?_
      refine kg_bin (z := (x1 ^^^ (-1))) hk_188 rfl rfl rfl ?_
      refine kg_bin (z := (((h 1120 x3.toNatClampNeg) &&& 65535) &&& (x1 ^^^ (-1)))) hk_188 rfl rfl rfl ?_
      refine wf_if hF (fun c17 hF => ?_) (fun c17 hF => ?_)
      · refine kg_ifF hk_188 rfl (jc_F1 c17) rfl ?_
        refine kg_push (x := 0) hk_188 rfl (by decide) rfl ?_
        refine kg_istore (L2 := [.ref (1076 + 1), .int x1, .int x2, .int x3, .int 0, u5, u6, u7]) hk_188 rfl (Nat.le_of_ble_eq_true rfl) rfl rfl ?_
        refine kg_push (x := 0) hk_188 rfl (by decide) rfl ?_
        refine kg_istore (L2 := [.ref (1076 + 1), .int x1, .int x2, .int x3, .int 0, .int 0, u6, u7]) hk_188 rfl (Nat.le_of_ble_eq_true rfl) rfl rfl ?_
        refine kg_push (x := 0) hk_188 rfl (by decide) rfl ?_
        refine kg_istore (L2 := [.ref (1076 + 1), .int x1, .int x2, .int x3, .int 0, .int 0, .int 0, u7]) hk_188 rfl (Nat.le_of_ble_eq_true rfl) rfl rfl ?_
        refine wf_bind hF (fun e31 he31 hF => ?_)
        refine l_188_78_ok he31 ?_ _ _
        intro u2 u6 u7
        refine kg_aload hk_188 rfl rfl rfl ?_
        refine kg_get (v := .ref (1122 + 1)) hk_188 rfl wk_1076_59 rfl rfl ?_
        refine kg_iload hk_188 rfl rfl rfl ?_
        refine kg_iload hk_188 rfl rfl rfl ?_
        refine wf_if hF (fun c32 hF => ?_) (fun c32 hF => ?_)
        · refine kg_ifT hk_188 rfl (jc_T0 c32) ?_
          refine kg_iload hk_188 rfl rfl rfl ?_
          refine wf_if hF (fun c33 hF => ?_) (fun c33 hF => ?_)
          · refine kg_ifT hk_188 rfl (jc_T0 c33) ?_
            refine kg_aload hk_188 rfl rfl rfl ?_
            refine kg_iload hk_188 rfl rfl rfl ?_
            refine wf_bind hF (fun v34 hv34 hF => ?_)
            refine kg_call (as := [.ref (1076 + 1), .int x3]) (rest := [.int x3, .ref (1122 + 1)]) hk_188 rfl (Or.inr (Or.inr (Or.inr ⟨Or.inl rfl, _, _, rfl, wc_1076⟩))) rfl rfl rfl (Nat.not_lt.mpr (Nat.le_of_ble_eq_true rfl)) (p_187_ok hv34) (by decide) rfl ?_
            exact q_188_140_ok hF hK hX0 _ _ _ _ _
          · refine kg_ifF hk_188 rfl (jc_F0 c33) rfl ?_
            refine kg_push (x := 1) hk_188 rfl (by decide) rfl ?_
            refine kg_goto hk_188 rfl ?_
            exact q_188_140_ok hF hK hX0 _ _ _ _ _
        · refine kg_ifF hk_188 rfl (jc_F0 c32) rfl ?_
          refine kg_push (x := 3) hk_188 rfl (by decide) rfl ?_
          refine kg_goto hk_188 rfl ?_
          exact q_188_140_ok hF hK hX0 _ _ _ _ _
      · refine kg_ifT hk_188 rfl (jc_T1 c17) ?_
        refine kg_iinc (y := (x3 + 1)) (L2 := [.ref (1076 + 1), .int x1, .int x2, .int (x3 + 1), u4, u5, u6, u7]) hk_188 rfl rfl rfl rfl rfl ?_
        refine kg_goto hk_188 rfl ?_
        have hF := Option.some.inj hF
        exact hK _ hF.symm _ _ _ _
    · refine kg_icT hk_188 rfl (jc_T1 c15) ?_
      refine kg_iinc (y := (x3 + 1)) (L2 := [.ref (1076 + 1), .int x1, .int x2, .int (x3 + 1), u4, u5, u6, u7]) hk_188 rfl rfl rfl rfl rfl ?_
      refine kg_goto hk_188 rfl ?_
      have hF := Option.some.inj hF
      exact hK _ hF.symm _ _ _ _
  · refine kg_icT hk_188 rfl (jc_T3 c13) ?_
    have hF := Option.some.inj hF
    exact hX0 _ hF.symm _ _ _ _ _
theorem l_188_51_ok {X : List Int32} {o : kO}    {n : Nat} {s : Int32 × Int32 × Int32 × Hp} {e : Int32 × Int32 × Hp} (hF : w_lp (fun (s : Int32 × Int32 × Int32 × Hp) => l_188_51 s.1 s.2.1 s.2.2.1 s.2.2.2) n s = some e) (hX0 : ∀ (u3 : Value) (u4 : Value) (u5 : Value) (u6 : Value) (u7 : Value), k_Go X 6 188 (151, [.ref (1076 + 1), .int e.1, .int e.2.1, u3, u4, u5, u6, u7], []) e.2.2 o) : ∀ (u4 : Value) (u5 : Value) (u6 : Value) (u7 : Value), k_Go X 6 188 (51, [.ref (1076 + 1), .int s.1, .int s.2.1, .int s.2.2.1, u4, u5, u6, u7], []) s.2.2.2 o := by
  exact w_lp_ok (P := (fun (s : Int32 × Int32 × Int32 × Hp) => ∀ (u4 : Value) (u5 : Value) (u6 : Value) (u7 : Value), k_Go X 6 188 (51, [.ref (1076 + 1), .int s.1, .int s.2.1, .int s.2.2.1, u4, u5, u6, u7], []) s.2.2.2 o)) (Q := (fun (e : Int32 × Int32 × Hp) => (∀ (u3 : Value) (u4 : Value) (u5 : Value) (u6 : Value) (u7 : Value), k_Go X 6 188 (151, [.ref (1076 + 1), .int e.1, .int e.2.1, u3, u4, u5, u6, u7], []) e.2.2 o))) (fun s r hF hK hX => l_188_51_st hF hK (fun x hx => (hX _ hx))) n s e hF hX0
def l_188_45 (x1 : Int32) (x2 : Int32) (h : Hp) : Option ((Int32 × Int32 × Hp) ⊕ Hp) :=
  if x2 = 0 then
    (some (.inr h))
  else
    ((w_lp (fun (s : Int32 × Int32 × Int32 × Hp) => l_188_51 s.1 s.2.1 s.2.2.1 s.2.2.2) w_N (x1, 0, 0, h)).bind fun e37 =>
    some (.inl (e37.1, e37.2.1, e37.2.2)))
theorem l_188_45_st {X : List Int32} {o : kO}  {h : Hp} {x1 : Int32} {x2 : Int32}  {r : (Int32 × Int32 × Hp) ⊕ Hp} (hF : l_188_45 x1 x2 h = some r) (hK : ∀ s' : Int32 × Int32 × Hp, r = .inl s' → ∀ (u3 : Value) (u4 : Value) (u5 : Value) (u6 : Value) (u7 : Value), k_Go X 6 188 (45, [.ref (1076 + 1), .int (s'.1), .int (s'.2.1), u3, u4, u5, u6, u7], []) s'.2.2 o) (hX0 : ∀ e : Hp, r = .inr e → (.inl none, e) = o) : ∀ (u3 : Value) (u4 : Value) (u5 : Value) (u6 : Value) (u7 : Value), k_Go X 6 188 (45, [.ref (1076 + 1), .int x1, .int x2, u3, u4, u5, u6, u7], []) h o := by
  intro u3 u4 u5 u6 u7
  refine kg_iload hk_188 rfl rfl rfl ?_
  refine wf_if hF (fun c12 hF => ?_) (fun c12 hF => ?_)
  · refine kg_ifT hk_188 rfl (jc_T0 c12) ?_
    have hF := Option.some.inj hF
    exact kg_ret hk_188 rfl (hX0 _ hF.symm)
  · refine kg_ifF hk_188 rfl (jc_F0 c12) rfl ?_
    refine kg_push (x := 0) hk_188 rfl (by decide) rfl ?_
    refine kg_istore (L2 := [.ref (1076 + 1), .int x1, .int 0, u3, u4, u5, u6, u7]) hk_188 rfl (Nat.le_of_ble_eq_true rfl) rfl rfl ?_
    refine kg_push (x := 0) hk_188 rfl (by decide) rfl ?_
    refine kg_istore (L2 := [.ref (1076 + 1), .int x1, .int 0, .int 0, u4, u5, u6, u7]) hk_188 rfl (Nat.le_of_ble_eq_true rfl) rfl rfl ?_
    refine wf_bind hF (fun e37 he37 hF => ?_)
    refine l_188_51_ok he37 ?_ _ _ _ _
    intro u3 u4 u5 u6 u7
    refine kg_goto hk_188 rfl ?_
    have hF := Option.some.inj hF
    exact hK _ hF.symm _ _ _ _ _
theorem l_188_45_ok {X : List Int32} {o : kO}    {n : Nat} {s : Int32 × Int32 × Hp} {e : Hp} (hF : w_lp (fun (s : Int32 × Int32 × Hp) => l_188_45 s.1 s.2.1 s.2.2) n s = some e) (hX0 : (.inl none, e) = o) : ∀ (u3 : Value) (u4 : Value) (u5 : Value) (u6 : Value) (u7 : Value), k_Go X 6 188 (45, [.ref (1076 + 1), .int s.1, .int s.2.1, u3, u4, u5, u6, u7], []) s.2.2 o := by
  exact w_lp_ok (P := (fun (s : Int32 × Int32 × Hp) => ∀ (u3 : Value) (u4 : Value) (u5 : Value) (u6 : Value) (u7 : Value), k_Go X 6 188 (45, [.ref (1076 + 1), .int s.1, .int s.2.1, u3, u4, u5, u6, u7], []) s.2.2 o)) (Q := (fun (e : Hp) => ((.inl none, e) = o))) (fun s r hF hK hX => l_188_45_st hF hK (fun x hx => (hX _ hx))) n s e hF hX0
def p_188 (h : Hp) : Option (Hp) :=
  (p_185 h).bind fun v1 =>
  (w_lp (fun (s : Int32 × Int32 × Hp) => l_188_6 s.1 s.2.1 s.2.2) w_N (0, 0, v1)).bind fun e11 =>
  w_lp (fun (s : Int32 × Int32 × Hp) => l_188_45 s.1 s.2.1 s.2.2) w_N (e11.1, 1, e11.2)
theorem p_188_ok {X : List Int32}  {h : Hp}   {r : Hp} (hF : p_188 h = some r) : k_Ev X 6 188 [.ref (1076 + 1)] h (.inl none, r) := by
  refine k_of hk_188 ?_
  show k_Go X 6 188 (0, [.ref (1076 + 1), (.retAddr 0), (.retAddr 0), (.retAddr 0), (.retAddr 0), (.retAddr 0), (.retAddr 0), (.retAddr 0)], []) h _
  unfold p_188 at hF
  refine kg_aload hk_188 rfl rfl rfl ?_
  refine wf_bind hF (fun v1 hv1 hF => ?_)
  refine kg_call (as := [.ref (1076 + 1)]) (rest := []) hk_188 rfl (Or.inr (Or.inr (Or.inr ⟨Or.inl rfl, _, _, rfl, wc_1076⟩))) rfl rfl rfl (Nat.not_lt.mpr (Nat.le_of_ble_eq_true rfl)) (p_185_ok hv1) (by decide) rfl ?_
  refine kg_push (x := 0) hk_188 rfl (by decide) rfl ?_
  refine kg_istore (L2 := [.ref (1076 + 1), .int 0, (.retAddr 0), (.retAddr 0), (.retAddr 0), (.retAddr 0), (.retAddr 0), (.retAddr 0)]) hk_188 rfl (Nat.le_of_ble_eq_true rfl) rfl rfl ?_
  refine kg_push (x := 0) hk_188 rfl (by decide) rfl ?_
  refine kg_istore (L2 := [.ref (1076 + 1), .int 0, .int 0, (.retAddr 0), (.retAddr 0), (.retAddr 0), (.retAddr 0), (.retAddr 0)]) hk_188 rfl (Nat.le_of_ble_eq_true rfl) rfl rfl ?_
  refine wf_bind hF (fun e11 he11 hF => ?_)
  refine l_188_6_ok he11 ?_ _ _ _ _ _
  intro u2 u3 u4 u5 u6 u7
  refine kg_push (x := 1) hk_188 rfl (by decide) rfl ?_
  refine kg_istore (L2 := [.ref (1076 + 1), .int e11.1, .int 1, u3, u4, u5, u6, u7]) hk_188 rfl (Nat.le_of_ble_eq_true rfl) rfl rfl ?_
  exact l_188_45_ok hF rfl _ _ _ _ _
-- NotebookWeirModel.areFresh(I)Z
theorem hk_189 : jP[189]? = some (jc_189, 4, [], []) := by rfl
def l_189_4 (h : Hp) (x1 : Int32) (x2 : Int32) (x3 : Int32) : Option ((Int32 × Int32) ⊕ Int32) :=
  if x3 < (h 1076 2) then
    (w_gd ((if x2 = 0 then true else (if ((x1 >>> (x3 &&& 31)) &&& 1) = 0 then true else w_ix x3 16))) <|
    some (.inl ((if x2 = 0 then 0 else (if ((x1 >>> (x3 &&& 31)) &&& 1) = 0 then 1 else (if (h 1122 x3.toNatClampNeg) = 0 then 1 else 0))), (x3 + 1))))
  else
    (w_gd (w_bo x2) <|
    some (.inr x2))
theorem l_189_4_st {X : List Int32} {o : kO}  {h : Hp} {x1 : Int32} {x2 : Int32} {x3 : Int32}  {r : (Int32 × Int32) ⊕ Int32} (hF : l_189_4 h x1 x2 x3 = some r) (hK : ∀ s' : Int32 × Int32, r = .inl s' → k_Go X 0 189 (4, [.ref (1076 + 1), .int x1, .int (s'.1), .int (s'.2)], []) h o) (hX0 : ∀ e : Int32, r = .inr e → (.inl (some (.int e)), h) = o) : k_Go X 0 189 (4, [.ref (1076 + 1), .int x1, .int x2, .int x3], []) h o := by
  refine kg_iload hk_189 rfl rfl rfl ?_
  refine kg_aload hk_189 rfl rfl rfl ?_
  refine kg_get (v := .int (h 1076 2)) hk_189 rfl wk_1076_2 rfl rfl ?_
  refine wf_if hF (fun c1 hF => ?_) (fun c1 hF => ?_)
  · refine kg_icF hk_189 rfl (jc_F3 c1) rfl ?_
    refine kg_iload hk_189 rfl rfl rfl ?_
    refine wf_gd hF (fun g6 hF => ?_)
    refine kv_mid (p := 24) (L := [.ref (1076 + 1), .int x1, .int x2, .int x3]) (S := [.int (if x2 = 0 then 0 else (if ((x1 >>> (x3 &&& 31)) &&& 1) = 0 then 1 else (if (h 1122 x3.toNatClampNeg) = 0 then 1 else 0)))]) ?_ (fun hK => ?_)
    · refine kg_istore (L2 := [.ref (1076 + 1), .int x1, .int (if x2 = 0 then 0 else (if ((x1 >>> (x3 &&& 31)) &&& 1) = 0 then 1 else (if (h 1122 x3.toNatClampNeg) = 0 then 1 else 0))), .int x3]) hk_189 rfl (Nat.le_of_ble_eq_true rfl) rfl rfl ?_
      refine kg_iinc (y := (x3 + 1)) (L2 := [.ref (1076 + 1), .int x1, .int (if x2 = 0 then 0 else (if ((x1 >>> (x3 &&& 31)) &&& 1) = 0 then 1 else (if (h 1122 x3.toNatClampNeg) = 0 then 1 else 0))), .int (x3 + 1)]) hk_189 rfl rfl rfl rfl rfl ?_
      refine kg_goto hk_189 rfl ?_
      have hF := Option.some.inj hF
      exact hK _ hF.symm
    · have hg := g6
      by_cases c2 : x2 = 0
      · have hK := kv_T c2 hK
        refine kg_ifT hk_189 rfl (jc_T0 c2) ?_
        refine kg_push (x := 0) hk_189 rfl (by decide) rfl ?_
        exact hK
      · have hg := wv_F c2 hg
        have hK := kv_F c2 hK
        refine kg_ifF hk_189 rfl (jc_F0 c2) rfl ?_
        refine kg_iload hk_189 rfl rfl rfl ?_
        refine kg_iload hk_189 rfl rfl rfl ?_
        refine kg_bin (z := (x1 >>> (x3 &&& 31))) hk_189 rfl rfl rfl ?_
        refine kg_push (x := 1) hk_189 rfl (by decide) rfl ?_
        refine kg_bin (z := ((x1 >>> (x3 &&& 31)) &&& 1)) hk_189 rfl rfl rfl ?_
        by_cases c3 : ((x1 >>> (x3 &&& 31)) &&& 1) = 0
        · have hK := kv_T c3 hK
          refine kg_ifT hk_189 rfl (jc_T0 c3) ?_
          refine kg_push (x := 1) hk_189 rfl (by decide) rfl ?_
          refine kg_goto hk_189 rfl ?_
          exact hK
        · have hg := wv_F c3 hg
          have hK := kv_F c3 hK
          have g4 := hg
          refine kg_ifF hk_189 rfl (jc_F0 c3) rfl ?_
          refine kg_aload hk_189 rfl rfl rfl ?_
          refine kg_get (v := .ref (1122 + 1)) hk_189 rfl wk_1076_59 rfl rfl ?_
          refine kg_iload hk_189 rfl rfl rfl ?_
          refine kg_ald (y := (h 1122 x3.toNatClampNeg)) hk_189 rfl wc_1122 g4 rfl rfl ?_
          by_cases c5 : (h 1122 x3.toNatClampNeg) = 0
          · have hK := kv_T c5 hK
            refine kg_ifF hk_189 rfl (jc_F1 c5) rfl ?_
            refine kg_push (x := 1) hk_189 rfl (by decide) rfl ?_
            refine kg_goto hk_189 rfl ?_
            exact hK
          · have hK := kv_F c5 hK
            refine kg_ifT hk_189 rfl (jc_T1 c5) ?_
            refine kg_push (x := 0) hk_189 rfl (by decide) rfl ?_
            exact hK
  · refine kg_icT hk_189 rfl (jc_T3 c1) ?_
    refine kg_iload hk_189 rfl rfl rfl ?_
    refine wf_gd hF (fun g7 hF => ?_)
    have hF := Option.some.inj hF
    exact kg_iret hk_189 rfl (Or.inr g7) (hX0 _ hF.symm)
theorem l_189_4_ok {X : List Int32} {o : kO}  {h : Hp} {x1 : Int32}  {n : Nat} {s : Int32 × Int32} {e : Int32} (hF : w_lp (fun (s : Int32 × Int32) => l_189_4 h x1 s.1 s.2) n s = some e) (hX0 : (.inl (some (.int e)), h) = o) : k_Go X 0 189 (4, [.ref (1076 + 1), .int x1, .int s.1, .int s.2], []) h o := by
  exact w_lp_ok (P := (fun (s : Int32 × Int32) => k_Go X 0 189 (4, [.ref (1076 + 1), .int x1, .int s.1, .int s.2], []) h o)) (Q := (fun (e : Int32) => ((.inl (some (.int e)), h) = o))) (fun s r hF hK hX => l_189_4_st hF hK (fun x hx => (hX _ hx))) n s e hF hX0
def p_189 (h : Hp) (x1 : Int32) : Option (Int32) :=
  w_lp (fun (s : Int32 × Int32) => l_189_4 h x1 s.1 s.2) w_N (1, 0)
theorem p_189_ok {X : List Int32}  {h : Hp} {x1 : Int32}  {r : Int32} (hF : p_189 h x1 = some r) : k_Ev X 0 189 [.ref (1076 + 1), .int x1] h (.inl (some (.int r)), h) := by
  refine k_of hk_189 ?_
  show k_Go X 0 189 (0, [.ref (1076 + 1), .int x1, (.retAddr 0), (.retAddr 0)], []) h _
  unfold p_189 at hF
  refine kg_push (x := 1) hk_189 rfl (by decide) rfl ?_
  refine kg_istore (L2 := [.ref (1076 + 1), .int x1, .int 1, (.retAddr 0)]) hk_189 rfl (Nat.le_of_ble_eq_true rfl) rfl rfl ?_
  refine kg_push (x := 0) hk_189 rfl (by decide) rfl ?_
  refine kg_istore (L2 := [.ref (1076 + 1), .int x1, .int 1, .int 0]) hk_189 rfl (Nat.le_of_ble_eq_true rfl) rfl rfl ?_
  exact l_189_4_ok hF rfl
-- NotebookWeirModel.nextOf(I)I
theorem hk_190 : jP[190]? = some (jc_190, 4, [], []) := by rfl
def l_190_7 (h : Hp) (x1 : Int32) (x2 : Int32) (x3 : Int32) : Option ((Int32 × Int32) ⊕ Int32) :=
  if x3 < 0 then
    (some (.inr x2))
  else
    (if ((x1 >>> (x3 &&& 31)) &&& 1) = 1 then
      (w_gd (w_ix x3 16) <|
      if (h 1122 x3.toNatClampNeg) = 1 then
        (w_gd (w_ix x3 16) <|
        (p_189 h (h 1120 x3.toNatClampNeg)).bind fun v6 =>
        some (.inl ((if v6 = 0 then x2 else x3), (x3 + (-1)))))
      else
        (some (.inl (x2, (x3 + (-1))))))
    else
      (some (.inl (x2, (x3 + (-1))))))
theorem l_190_7_st {X : List Int32} {o : kO}  {h : Hp} {x1 : Int32} {x2 : Int32} {x3 : Int32}  {r : (Int32 × Int32) ⊕ Int32} (hF : l_190_7 h x1 x2 x3 = some r) (hK : ∀ s' : Int32 × Int32, r = .inl s' → k_Go X 1 190 (7, [.ref (1076 + 1), .int x1, .int (s'.1), .int (s'.2)], []) h o) (hX0 : ∀ e : Int32, r = .inr e → (.inl (some (.int e)), h) = o) : k_Go X 1 190 (7, [.ref (1076 + 1), .int x1, .int x2, .int x3], []) h o := by
  refine kg_iload hk_190 rfl rfl rfl ?_
  refine wf_if hF (fun c1 hF => ?_) (fun c1 hF => ?_)
  · refine kg_ifT hk_190 rfl (jc_T2 c1) ?_
    refine kg_iload hk_190 rfl rfl rfl ?_
    have hF := Option.some.inj hF
    exact kg_iret hk_190 rfl (Or.inl rfl) (hX0 _ hF.symm)
  · refine kg_ifF hk_190 rfl (jc_F2 c1) rfl ?_
    refine kg_iload hk_190 rfl rfl rfl ?_
    refine kg_iload hk_190 rfl rfl rfl ?_
    refine kg_bin (z := (x1 >>> (x3 &&& 31))) hk_190 rfl rfl rfl ?_
    refine kg_push (x := 1) hk_190 rfl (by decide) rfl ?_
    refine kg_bin (z := ((x1 >>> (x3 &&& 31)) &&& 1)) hk_190 rfl rfl rfl ?_
    refine kg_push (x := 1) hk_190 rfl (by decide) rfl ?_
    refine wf_if hF (fun c2 hF => ?_) (fun c2 hF => ?_)
    · refine kg_icF hk_190 rfl (jc_F1 c2) rfl ?_
      refine kg_aload hk_190 rfl rfl rfl ?_
      refine kg_get (v := .ref (1122 + 1)) hk_190 rfl wk_1076_59 rfl rfl ?_
      refine kg_iload hk_190 rfl rfl rfl ?_
      refine wf_gd hF (fun g3 hF => ?_)
      refine kg_ald (y := (h 1122 x3.toNatClampNeg)) hk_190 rfl wc_1122 g3 rfl rfl ?_
      refine kg_push (x := 1) hk_190 rfl (by decide) rfl ?_
      refine wf_if hF (fun c4 hF => ?_) (fun c4 hF => ?_)
      · refine kg_icF hk_190 rfl (jc_F1 c4) rfl ?_
        refine kg_aload hk_190 rfl rfl rfl ?_
        refine kg_aload hk_190 rfl rfl rfl ?_
        refine kg_get (v := .ref (1120 + 1)) hk_190 rfl wk_1076_57 rfl rfl ?_
        refine kg_iload hk_190 rfl rfl rfl ?_
        refine wf_gd hF (fun g5 hF => ?_)
        refine kg_ald (y := (h 1120 x3.toNatClampNeg)) hk_190 rfl wc_1120 g5 rfl rfl ?_
        refine wf_bind hF (fun v6 hv6 hF => ?_)
        refine kg_call (as := [.ref (1076 + 1), .int (h 1120 x3.toNatClampNeg)]) (rest := []) hk_190 rfl (Or.inr (Or.inr (Or.inr ⟨Or.inl rfl, _, _, rfl, wc_1076⟩))) rfl rfl rfl (Nat.not_lt.mpr (Nat.le_of_ble_eq_true rfl)) (p_189_ok hv6) (by decide) rfl ?_
        refine kv_mid (p := 32) (L := [.ref (1076 + 1), .int x1, .int x2, .int x3]) (S := [.int (if v6 = 0 then x2 else x3)]) ?_ (fun hK => ?_)
        · refine kg_istore (L2 := [.ref (1076 + 1), .int x1, .int (if v6 = 0 then x2 else x3), .int x3]) hk_190 rfl (Nat.le_of_ble_eq_true rfl) rfl rfl ?_
          refine kg_iinc (y := (x3 + (-1))) (L2 := [.ref (1076 + 1), .int x1, .int (if v6 = 0 then x2 else x3), .int (x3 + (-1))]) hk_190 rfl rfl rfl rfl rfl ?_
          refine kg_goto hk_190 rfl ?_
          have hF := Option.some.inj hF
          exact hK _ hF.symm
        · by_cases c7 : v6 = 0
          · have hK := kv_T c7 hK
            refine kg_ifT hk_190 rfl (jc_T0 c7) ?_
            refine kg_iload hk_190 rfl rfl rfl ?_
            exact hK
          · have hK := kv_F c7 hK
            refine kg_ifF hk_190 rfl (jc_F0 c7) rfl ?_
            refine kg_iload hk_190 rfl rfl rfl ?_
            refine kg_goto hk_190 rfl ?_
            exact hK
      · refine kg_icT hk_190 rfl (jc_T1 c4) ?_
        refine kg_iload hk_190 rfl rfl rfl ?_
        refine kg_istore (L2 := [.ref (1076 + 1), .int x1, .int x2, .int x3]) hk_190 rfl (Nat.le_of_ble_eq_true rfl) rfl rfl ?_
        refine kg_iinc (y := (x3 + (-1))) (L2 := [.ref (1076 + 1), .int x1, .int x2, .int (x3 + (-1))]) hk_190 rfl rfl rfl rfl rfl ?_
        refine kg_goto hk_190 rfl ?_
        have hF := Option.some.inj hF
        exact hK _ hF.symm
    · refine kg_icT hk_190 rfl (jc_T1 c2) ?_
      refine kg_iload hk_190 rfl rfl rfl ?_
      refine kg_istore (L2 := [.ref (1076 + 1), .int x1, .int x2, .int x3]) hk_190 rfl (Nat.le_of_ble_eq_true rfl) rfl rfl ?_
      refine kg_iinc (y := (x3 + (-1))) (L2 := [.ref (1076 + 1), .int x1, .int x2, .int (x3 + (-1))]) hk_190 rfl rfl rfl rfl rfl ?_
      refine kg_goto hk_190 rfl ?_
      have hF := Option.some.inj hF
      exact hK _ hF.symm
theorem l_190_7_ok {X : List Int32} {o : kO}  {h : Hp} {x1 : Int32}  {n : Nat} {s : Int32 × Int32} {e : Int32} (hF : w_lp (fun (s : Int32 × Int32) => l_190_7 h x1 s.1 s.2) n s = some e) (hX0 : (.inl (some (.int e)), h) = o) : k_Go X 1 190 (7, [.ref (1076 + 1), .int x1, .int s.1, .int s.2], []) h o := by
  exact w_lp_ok (P := (fun (s : Int32 × Int32) => k_Go X 1 190 (7, [.ref (1076 + 1), .int x1, .int s.1, .int s.2], []) h o)) (Q := (fun (e : Int32) => ((.inl (some (.int e)), h) = o))) (fun s r hF hK hX => l_190_7_st hF hK (fun x hx => (hX _ hx))) n s e hF hX0
def p_190 (h : Hp) (x1 : Int32) : Option (Int32) :=
  w_lp (fun (s : Int32 × Int32) => l_190_7 h x1 s.1 s.2) w_N ((-1), ((h 1076 2) - 1))
theorem p_190_ok {X : List Int32}  {h : Hp} {x1 : Int32}  {r : Int32} (hF : p_190 h x1 = some r) : k_Ev X 1 190 [.ref (1076 + 1), .int x1] h (.inl (some (.int r)), h) := by
  refine k_of hk_190 ?_
  show k_Go X 1 190 (0, [.ref (1076 + 1), .int x1, (.retAddr 0), (.retAddr 0)], []) h _
  unfold p_190 at hF
  refine kg_push (x := (-1)) hk_190 rfl (by decide) rfl ?_
  refine kg_istore (L2 := [.ref (1076 + 1), .int x1, .int (-1), (.retAddr 0)]) hk_190 rfl (Nat.le_of_ble_eq_true rfl) rfl rfl ?_
  refine kg_aload hk_190 rfl rfl rfl ?_
  refine kg_get (v := .int (h 1076 2)) hk_190 rfl wk_1076_2 rfl rfl ?_
  refine kg_push (x := 1) hk_190 rfl (by decide) rfl ?_
  refine kg_bin (z := ((h 1076 2) - 1)) hk_190 rfl rfl rfl ?_
  refine kg_istore (L2 := [.ref (1076 + 1), .int x1, .int (-1), .int ((h 1076 2) - 1)]) hk_190 rfl (Nat.le_of_ble_eq_true rfl) rfl rfl ?_
  exact l_190_7_ok hF rfl
-- NotebookWeirModel.copies([II[II)V
theorem hk_193 : jP[193]? = some (jc_193, 6, [], []) := by rfl
def l_193_2 (q1 : Nat) (x2 : Int32) (q3 : Nat) (x4 : Int32) (x5 : Int32) (h : Hp) : Option ((Int32 × Hp) ⊕ Hp) :=
  if x5 < 9 then
    (w_gd (w_ix (x2 + x5) (w_len q1)) <|
    w_gd (w_ix (x4 + x5) (w_len q3)) <|
    w_let (w_up h q3 ((x4 + x5).toNatClampNeg) (h q1 (x2 + x5).toNatClampNeg)) fun h4 =>
    some (.inl ((x5 + 1), h4)))
  else
    (some (.inr h))
theorem l_193_2_st {X : List Int32} {o : kO}  {h : Hp} {q1 : Nat} {q3 : Nat} {x2 : Int32} {x4 : Int32} {x5 : Int32} (t1 : w_tab[q1]? = some (50, (w_len q1), [])) (t3 : w_tab[q3]? = some (50, (w_len q3), [])) {r : (Int32 × Hp) ⊕ Hp} (hF : l_193_2 q1 x2 q3 x4 x5 h = some r) (hK : ∀ s' : Int32 × Hp, r = .inl s' → ∀ (u0 : Value), k_Go X 0 193 (2, [u0, .ref (q1 + 1), .int x2, .ref (q3 + 1), .int x4, .int (s'.1)], []) s'.2 o) (hX0 : ∀ e : Hp, r = .inr e → (.inl none, e) = o) : ∀ (u0 : Value), k_Go X 0 193 (2, [u0, .ref (q1 + 1), .int x2, .ref (q3 + 1), .int x4, .int x5], []) h o := by
  intro u0
  refine kg_iload hk_193 rfl rfl rfl ?_
  refine kg_push (x := 9) hk_193 rfl (by decide) rfl ?_
  refine wf_if hF (fun c1 hF => ?_) (fun c1 hF => ?_)
  · refine kg_icF hk_193 rfl (jc_F3 c1) rfl ?_
    refine kg_aload hk_193 rfl rfl rfl ?_
    refine kg_iload hk_193 rfl rfl rfl ?_
    refine kg_iload hk_193 rfl rfl rfl ?_
    refine kg_bin (z := (x4 + x5)) hk_193 rfl rfl rfl ?_
    refine kg_aload hk_193 rfl rfl rfl ?_
    refine kg_iload hk_193 rfl rfl rfl ?_
    refine kg_iload hk_193 rfl rfl rfl ?_
    refine kg_bin (z := (x2 + x5)) hk_193 rfl rfl rfl ?_
    refine wf_gd hF (fun g2 hF => ?_)
    refine kg_ald (y := (h q1 (x2 + x5).toNatClampNeg)) hk_193 rfl t1 g2 rfl rfl ?_
    refine wf_gd hF (fun g3 hF => ?_)
    refine wf_let hF (fun h4 hh4 hF => ?_)
    refine kg_ast hk_193 rfl t3 g3 (by rw [j_nar50]; exact hh4) rfl ?_
    refine kg_iinc (y := (x5 + 1)) (L2 := [u0, .ref (q1 + 1), .int x2, .ref (q3 + 1), .int x4, .int (x5 + 1)]) hk_193 rfl rfl rfl rfl rfl ?_
    refine kg_goto hk_193 rfl ?_
    have hF := Option.some.inj hF
    exact hK _ hF.symm _
  · refine kg_icT hk_193 rfl (jc_T3 c1) ?_
    have hF := Option.some.inj hF
    exact kg_ret hk_193 rfl (hX0 _ hF.symm)
theorem l_193_2_ok {X : List Int32} {o : kO}  {q1 : Nat} {q3 : Nat} {x2 : Int32} {x4 : Int32} (t1 : w_tab[q1]? = some (50, (w_len q1), [])) (t3 : w_tab[q3]? = some (50, (w_len q3), [])) {n : Nat} {s : Int32 × Hp} {e : Hp} (hF : w_lp (fun (s : Int32 × Hp) => l_193_2 q1 x2 q3 x4 s.1 s.2) n s = some e) (hX0 : (.inl none, e) = o) : ∀ (u0 : Value), k_Go X 0 193 (2, [u0, .ref (q1 + 1), .int x2, .ref (q3 + 1), .int x4, .int s.1], []) s.2 o := by
  exact w_lp_ok (P := (fun (s : Int32 × Hp) => ∀ (u0 : Value), k_Go X 0 193 (2, [u0, .ref (q1 + 1), .int x2, .ref (q3 + 1), .int x4, .int s.1], []) s.2 o)) (Q := (fun (e : Hp) => ((.inl none, e) = o))) (fun s r hF hK hX => l_193_2_st t1 t3 hF hK (fun x hx => (hX _ hx))) n s e hF hX0
def p_193 (h : Hp) (q1 : Nat) (x2 : Int32) (q3 : Nat) (x4 : Int32) : Option (Hp) :=
  w_lp (fun (s : Int32 × Hp) => l_193_2 q1 x2 q3 x4 s.1 s.2) w_N (0, h)
theorem p_193_ok {X : List Int32}  {h : Hp} {q1 : Nat} {x2 : Int32} {q3 : Nat} {x4 : Int32} (t1 : w_tab[q1]? = some (50, w_len q1, [])) (t3 : w_tab[q3]? = some (50, w_len q3, [])) {r : Hp} (hF : p_193 h q1 x2 q3 x4 = some r) : k_Ev X 0 193 [.ref (1076 + 1), .ref (q1 + 1), .int x2, .ref (q3 + 1), .int x4] h (.inl none, r) := by
  refine k_of hk_193 ?_
  show k_Go X 0 193 (0, [.ref (1076 + 1), .ref (q1 + 1), .int x2, .ref (q3 + 1), .int x4, (.retAddr 0)], []) h _
  unfold p_193 at hF
  refine kg_push (x := 0) hk_193 rfl (by decide) rfl ?_
  refine kg_istore (L2 := [.ref (1076 + 1), .ref (q1 + 1), .int x2, .ref (q3 + 1), .int x4, .int 0]) hk_193 rfl (Nat.le_of_ble_eq_true rfl) rfl rfl ?_
  exact l_193_2_ok t1 t3 hF rfl _
-- NotebookWeirModel.marksRun(II)V
theorem hk_217 : jP[217]? = some (jc_217, 4, [], []) := by rfl
def l_217_35 (x1 : Int32) (x3 : Int32) (h : Hp) : Option ((Int32 × Hp) ⊕ Hp) :=
  if x3 < (h 1076 48) then
    (w_gd (w_ix x3 4) <|
    w_gd (w_ix ((4 * x1) + x3) 64) <|
    w_let (w_up h 1091 (((4 * x1) + x3).toNatClampNeg) (h 1115 x3.toNatClampNeg)) fun h15 =>
    some (.inl ((x3 + 1), h15)))
  else
    (some (.inr h))
theorem l_217_35_st {X : List Int32} {o : kO}  {h : Hp} {x1 : Int32} {x3 : Int32}  {r : (Int32 × Hp) ⊕ Hp} (hF : l_217_35 x1 x3 h = some r) (hK : ∀ s' : Int32 × Hp, r = .inl s' → ∀ (u2 : Value), k_Go X 0 217 (35, [.ref (1076 + 1), .int x1, u2, .int (s'.1)], []) s'.2 o) (hX0 : ∀ e : Hp, r = .inr e → ∀ (u1 : Value) (u2 : Value) (u3 : Value), k_Go X 0 217 (53, [.ref (1076 + 1), u1, u2, u3], []) e o) : ∀ (u2 : Value), k_Go X 0 217 (35, [.ref (1076 + 1), .int x1, u2, .int x3], []) h o := by
  intro u2
  refine kg_iload hk_217 rfl rfl rfl ?_
  refine kg_aload hk_217 rfl rfl rfl ?_
  refine kg_get (v := .int (h 1076 48)) hk_217 rfl wk_1076_48 rfl rfl ?_
  refine wf_if hF (fun c12 hF => ?_) (fun c12 hF => ?_)
  · refine kg_icF hk_217 rfl (jc_F3 c12) rfl ?_
    refine kg_aload hk_217 rfl rfl rfl ?_
    refine kg_get (v := .ref (1091 + 1)) hk_217 rfl wk_1076_15 rfl rfl ?_
    refine kg_push (x := 4) hk_217 rfl (by decide) rfl ?_
    refine kg_iload hk_217 rfl rfl rfl ?_
    refine kg_bin (z := (4 * x1)) hk_217 rfl rfl rfl ?_
    refine kg_iload hk_217 rfl rfl rfl ?_
    refine kg_bin (z := ((4 * x1) + x3)) hk_217 rfl rfl rfl ?_
    refine kg_aload hk_217 rfl rfl rfl ?_
    refine kg_get (v := .ref (1115 + 1)) hk_217 rfl wk_1076_52 rfl rfl ?_
    refine kg_iload hk_217 rfl rfl rfl ?_
    refine wf_gd hF (fun g13 hF => ?_)
    refine kg_ald (y := (h 1115 x3.toNatClampNeg)) hk_217 rfl wc_1115 g13 rfl rfl ?_
    refine wf_gd hF (fun g14 hF => ?_)
    refine wf_let hF (fun h15 hh15 hF => ?_)
    refine kg_ast hk_217 rfl wc_1091 g14 (by rw [j_nar50]; exact hh15) rfl ?_
    refine kg_iinc (y := (x3 + 1)) (L2 := [.ref (1076 + 1), .int x1, u2, .int (x3 + 1)]) hk_217 rfl rfl rfl rfl rfl ?_
    refine kg_goto hk_217 rfl ?_
    have hF := Option.some.inj hF
    exact hK _ hF.symm _
  · refine kg_icT hk_217 rfl (jc_T3 c12) ?_
    have hF := Option.some.inj hF
    exact hX0 _ hF.symm _ _ _
theorem l_217_35_ok {X : List Int32} {o : kO}  {x1 : Int32}  {n : Nat} {s : Int32 × Hp} {e : Hp} (hF : w_lp (fun (s : Int32 × Hp) => l_217_35 x1 s.1 s.2) n s = some e) (hX0 : ∀ (u1 : Value) (u2 : Value) (u3 : Value), k_Go X 0 217 (53, [.ref (1076 + 1), u1, u2, u3], []) e o) : ∀ (u2 : Value), k_Go X 0 217 (35, [.ref (1076 + 1), .int x1, u2, .int s.1], []) s.2 o := by
  exact w_lp_ok (P := (fun (s : Int32 × Hp) => ∀ (u2 : Value), k_Go X 0 217 (35, [.ref (1076 + 1), .int x1, u2, .int s.1], []) s.2 o)) (Q := (fun (e : Hp) => (∀ (u1 : Value) (u2 : Value) (u3 : Value), k_Go X 0 217 (53, [.ref (1076 + 1), u1, u2, u3], []) e o))) (fun s r hF hK hX => l_217_35_st hF hK (fun x hx => (hX _ hx))) n s e hF hX0
def p_217 (h : Hp) (x1 : Int32) (x2 : Int32) : Option (Hp) :=
  w_let (w_up h 1076 19 ((h 1076 19) + 1)) fun h1 =>
  w_gd (w_ix x1 16) <|
  w_let (w_up h1 1088 x1.toNatClampNeg (h1 1076 19)) fun h3 =>
  w_gd (w_ix x1 16) <|
  w_let (w_up h3 1087 x1.toNatClampNeg x2) fun h5 =>
  w_gd (w_ix x1 16) <|
  w_gd (w_ix x1 16) <|
  w_let (w_up h5 1089 x1.toNatClampNeg (h5 1082 x1.toNatClampNeg)) fun h8 =>
  w_gd (w_ix x1 16) <|
  w_gd (w_ix x1 16) <|
  w_let (w_up h8 1090 x1.toNatClampNeg (h8 1120 x1.toNatClampNeg)) fun h11 =>
  (w_lp (fun (s : Int32 × Hp) => l_217_35 x1 s.1 s.2) w_N (0, h11)).bind fun e16 =>
  w_let (w_up e16 1076 45 0) fun h17 =>
  some h17
theorem p_217_ok {X : List Int32}  {h : Hp} {x1 : Int32} {x2 : Int32}  {r : Hp} (hF : p_217 h x1 x2 = some r) : k_Ev X 0 217 [.ref (1076 + 1), .int x1, .int x2] h (.inl none, r) := by
  refine k_of hk_217 ?_
  show k_Go X 0 217 (0, [.ref (1076 + 1), .int x1, .int x2, (.retAddr 0)], []) h _
  unfold p_217 at hF
  refine kg_aload hk_217 rfl rfl rfl ?_
  refine kg_dup hk_217 rfl rfl rfl ?_
  refine kg_get (v := .int (h 1076 19)) hk_217 rfl wk_1076_19 rfl rfl ?_
  refine kg_push (x := 1) hk_217 rfl (by decide) rfl ?_
  refine kg_bin (z := ((h 1076 19) + 1)) hk_217 rfl rfl rfl ?_
  refine wf_let hF (fun h1 hh1 hF => ?_)
  refine kg_put hk_217 rfl wk_1076_19 rfl rfl hh1 rfl ?_
  refine kg_aload hk_217 rfl rfl rfl ?_
  refine kg_get (v := .ref (1088 + 1)) hk_217 rfl wk_1076_12 rfl rfl ?_
  refine kg_iload hk_217 rfl rfl rfl ?_
  refine kg_aload hk_217 rfl rfl rfl ?_
  refine kg_get (v := .int (h1 1076 19)) hk_217 rfl wk_1076_19 rfl rfl ?_
  refine wf_gd hF (fun g2 hF => ?_)
  refine wf_let hF (fun h3 hh3 hF => ?_)
  refine kg_ast hk_217 rfl wc_1088 g2 (by rw [j_nar50]; exact hh3) rfl ?_
  refine kg_aload hk_217 rfl rfl rfl ?_
  refine kg_get (v := .ref (1087 + 1)) hk_217 rfl wk_1076_11 rfl rfl ?_
  refine kg_iload hk_217 rfl rfl rfl ?_
  refine kg_iload hk_217 rfl rfl rfl ?_
  refine wf_gd hF (fun g4 hF => ?_)
  refine wf_let hF (fun h5 hh5 hF => ?_)
  refine kg_ast hk_217 rfl wc_1087 g4 (by rw [j_nar50]; exact hh5) rfl ?_
  refine kg_aload hk_217 rfl rfl rfl ?_
  refine kg_get (v := .ref (1089 + 1)) hk_217 rfl wk_1076_13 rfl rfl ?_
  refine kg_iload hk_217 rfl rfl rfl ?_
  refine kg_aload hk_217 rfl rfl rfl ?_
  refine kg_get (v := .ref (1082 + 1)) hk_217 rfl wk_1076_6 rfl rfl ?_
  refine kg_iload hk_217 rfl rfl rfl ?_
  refine wf_gd hF (fun g6 hF => ?_)
  refine kg_ald (y := (h5 1082 x1.toNatClampNeg)) hk_217 rfl wc_1082 g6 rfl rfl ?_
  refine wf_gd hF (fun g7 hF => ?_)
  refine wf_let hF (fun h8 hh8 hF => ?_)
  refine kg_ast hk_217 rfl wc_1089 g7 (by rw [j_nar50]; exact hh8) rfl ?_
  refine kg_aload hk_217 rfl rfl rfl ?_
  refine kg_get (v := .ref (1090 + 1)) hk_217 rfl wk_1076_14 rfl rfl ?_
  refine kg_iload hk_217 rfl rfl rfl ?_
  refine kg_aload hk_217 rfl rfl rfl ?_
  refine kg_get (v := .ref (1120 + 1)) hk_217 rfl wk_1076_57 rfl rfl ?_
  refine kg_iload hk_217 rfl rfl rfl ?_
  refine wf_gd hF (fun g9 hF => ?_)
  refine kg_ald (y := (h8 1120 x1.toNatClampNeg)) hk_217 rfl wc_1120 g9 rfl rfl ?_
  refine wf_gd hF (fun g10 hF => ?_)
  refine wf_let hF (fun h11 hh11 hF => ?_)
  refine kg_ast hk_217 rfl wc_1090 g10 (by rw [j_nar50]; exact hh11) rfl ?_
  refine kg_push (x := 0) hk_217 rfl (by decide) rfl ?_
  refine kg_istore (L2 := [.ref (1076 + 1), .int x1, .int x2, .int 0]) hk_217 rfl (Nat.le_of_ble_eq_true rfl) rfl rfl ?_
  refine wf_bind hF (fun e16 he16 hF => ?_)
  refine l_217_35_ok he16 ?_ _
  intro u1 u2 u3
  refine kg_aload hk_217 rfl rfl rfl ?_
  refine kg_push (x := 0) hk_217 rfl (by decide) rfl ?_
  refine wf_let hF (fun h17 hh17 hF => ?_)
  refine kg_put hk_217 rfl wk_1076_45 rfl (w_fitB rfl) hh17 rfl ?_
  have hF := Option.some.inj hF
  subst hF
  exact kg_ret hk_217 rfl rfl
-- NotebookWeirModel.hasSameText(I[III)Z
theorem hk_214 : jP[214]? = some (jc_214, 7, [], []) := by rfl
def l_214_12 (h : Hp) (x1 : Int32) (q2 : Nat) (x3 : Int32) (x4 : Int32) (x5 : Int32) (x6 : Int32) : Option ((Int32 × Int32) ⊕ Int32) :=
  if x6 < x4 then
    (if x5 = 0 then
      (w_gd (w_bo x5) <|
      some (.inr x5))
    else
      (w_gd (w_ix (x3 + x6) (w_len q2)) <|
      w_gd (w_ix ((40 * x1) + x6) 640) <|
      some (.inl ((if (h q2 (x3 + x6).toNatClampNeg) = (h 1079 ((40 * x1) + x6).toNatClampNeg) then 1 else 0), (x6 + 1)))))
  else
    (w_gd (w_bo x5) <|
    some (.inr x5))
theorem l_214_12_st {X : List Int32} {o : kO}  {h : Hp} {q2 : Nat} {x1 : Int32} {x3 : Int32} {x4 : Int32} {x5 : Int32} {x6 : Int32} (t2 : w_tab[q2]? = some (50, (w_len q2), [])) {r : (Int32 × Int32) ⊕ Int32} (hF : l_214_12 h x1 q2 x3 x4 x5 x6 = some r) (hK : ∀ s' : Int32 × Int32, r = .inl s' → k_Go X 0 214 (12, [.ref (1076 + 1), .int x1, .ref (q2 + 1), .int x3, .int x4, .int (s'.1), .int (s'.2)], []) h o) (hX0 : ∀ e : Int32, r = .inr e → (.inl (some (.int e)), h) = o) : k_Go X 0 214 (12, [.ref (1076 + 1), .int x1, .ref (q2 + 1), .int x3, .int x4, .int x5, .int x6], []) h o := by
  refine kg_iload hk_214 rfl rfl rfl ?_
  refine kg_iload hk_214 rfl rfl rfl ?_
  refine wf_if hF (fun c3 hF => ?_) (fun c3 hF => ?_)
  · refine kg_icF hk_214 rfl (jc_F3 c3) rfl ?_
    refine kg_iload hk_214 rfl rfl rfl ?_
    refine wf_if hF (fun c4 hF => ?_) (fun c4 hF => ?_)
    · refine kg_ifT hk_214 rfl (jc_T0 c4) ?_
      refine kg_iload hk_214 rfl rfl rfl ?_
      refine wf_gd hF (fun g5 hF => ?_)
      have hF := Option.some.inj hF
      exact kg_iret hk_214 rfl (Or.inr g5) (hX0 _ hF.symm)
    · refine kg_ifF hk_214 rfl (jc_F0 c4) rfl ?_
      refine kg_aload hk_214 rfl rfl rfl ?_
      refine kg_iload hk_214 rfl rfl rfl ?_
      refine kg_iload hk_214 rfl rfl rfl ?_
      refine kg_bin (z := (x3 + x6)) hk_214 rfl rfl rfl ?_
      refine wf_gd hF (fun g6 hF => ?_)
      refine kg_ald (y := (h q2 (x3 + x6).toNatClampNeg)) hk_214 rfl t2 g6 rfl rfl ?_
      refine kg_aload hk_214 rfl rfl rfl ?_
      refine kg_get (v := .ref (1079 + 1)) hk_214 rfl wk_1076_3 rfl rfl ?_
      refine kg_push (x := 40) hk_214 rfl (by decide) rfl ?_
      refine kg_iload hk_214 rfl rfl rfl ?_
      refine kg_bin (z := (40 * x1)) hk_214 rfl rfl rfl ?_
      refine kg_iload hk_214 rfl rfl rfl ?_
      refine kg_bin (z := ((40 * x1) + x6)) hk_214 rfl rfl rfl ?_
      refine wf_gd hF (fun g7 hF => ?_)
      refine kg_ald (y := (h 1079 ((40 * x1) + x6).toNatClampNeg)) hk_214 rfl wc_1079 g7 rfl rfl ?_
      refine kv_mid (p := 34) (L := [.ref (1076 + 1), .int x1, .ref (q2 + 1), .int x3, .int x4, .int x5, .int x6]) (S := [.int (if (h q2 (x3 + x6).toNatClampNeg) = (h 1079 ((40 * x1) + x6).toNatClampNeg) then 1 else 0)]) ?_ (fun hK => ?_)
      · refine kg_istore (L2 := [.ref (1076 + 1), .int x1, .ref (q2 + 1), .int x3, .int x4, .int (if (h q2 (x3 + x6).toNatClampNeg) = (h 1079 ((40 * x1) + x6).toNatClampNeg) then 1 else 0), .int x6]) hk_214 rfl (Nat.le_of_ble_eq_true rfl) rfl rfl ?_
        refine kg_iinc (y := (x6 + 1)) (L2 := [.ref (1076 + 1), .int x1, .ref (q2 + 1), .int x3, .int x4, .int (if (h q2 (x3 + x6).toNatClampNeg) = (h 1079 ((40 * x1) + x6).toNatClampNeg) then 1 else 0), .int (x6 + 1)]) hk_214 rfl rfl rfl rfl rfl ?_
        refine kg_goto hk_214 rfl ?_
        have hF := Option.some.inj hF
        exact hK _ hF.symm
      · by_cases c8 : (h q2 (x3 + x6).toNatClampNeg) = (h 1079 ((40 * x1) + x6).toNatClampNeg)
        · have hK := kv_T c8 hK
          refine kg_icF hk_214 rfl (jc_F1 c8) rfl ?_
          refine kg_push (x := 1) hk_214 rfl (by decide) rfl ?_
          refine kg_goto hk_214 rfl ?_
          exact hK
        · have hK := kv_F c8 hK
          refine kg_icT hk_214 rfl (jc_T1 c8) ?_
          refine kg_push (x := 0) hk_214 rfl (by decide) rfl ?_
          exact hK
  · refine kg_icT hk_214 rfl (jc_T3 c3) ?_
    refine kg_iload hk_214 rfl rfl rfl ?_
    refine wf_gd hF (fun g9 hF => ?_)
    have hF := Option.some.inj hF
    exact kg_iret hk_214 rfl (Or.inr g9) (hX0 _ hF.symm)
theorem l_214_12_ok {X : List Int32} {o : kO}  {h : Hp} {q2 : Nat} {x1 : Int32} {x3 : Int32} {x4 : Int32} (t2 : w_tab[q2]? = some (50, (w_len q2), [])) {n : Nat} {s : Int32 × Int32} {e : Int32} (hF : w_lp (fun (s : Int32 × Int32) => l_214_12 h x1 q2 x3 x4 s.1 s.2) n s = some e) (hX0 : (.inl (some (.int e)), h) = o) : k_Go X 0 214 (12, [.ref (1076 + 1), .int x1, .ref (q2 + 1), .int x3, .int x4, .int s.1, .int s.2], []) h o := by
  exact w_lp_ok (P := (fun (s : Int32 × Int32) => k_Go X 0 214 (12, [.ref (1076 + 1), .int x1, .ref (q2 + 1), .int x3, .int x4, .int s.1, .int s.2], []) h o)) (Q := (fun (e : Int32) => ((.inl (some (.int e)), h) = o))) (fun s r hF hK hX => l_214_12_st t2 hF hK (fun x hx => (hX _ hx))) n s e hF hX0
def q_214_9 (h : Hp) (x1 : Int32) (q2 : Nat) (x3 : Int32) (x4 : Int32) (s0 : Int32) : Option (Int32) :=
  w_lp (fun (s : Int32 × Int32) => l_214_12 h x1 q2 x3 x4 s.1 s.2) w_N (s0, 0)
theorem q_214_9_ok {X : List Int32}   {h : Hp} {q2 : Nat} {s0 : Int32} {x1 : Int32} {x3 : Int32} {x4 : Int32} (t2 : w_tab[q2]? = some (50, (w_len q2), [])) {r : Int32} (hF : q_214_9 h x1 q2 x3 x4 s0 = some r)  : ∀ (u5 : Value) (u6 : Value), k_Go X 0 214 (9, [.ref (1076 + 1), .int x1, .ref (q2 + 1), .int x3, .int x4, u5, u6], [.int s0]) h (.inl (some (.int r)), h) := by
  intro u5 u6
  unfold q_214_9 at hF
  refine kg_istore (L2 := [.ref (1076 + 1), .int x1, .ref (q2 + 1), .int x3, .int x4, .int s0, u6]) hk_214 rfl (Nat.le_of_ble_eq_true rfl) rfl rfl ?_
  refine kg_push (x := 0) hk_214 rfl (by decide) rfl ?_
  refine kg_istore (L2 := [.ref (1076 + 1), .int x1, .ref (q2 + 1), .int x3, .int x4, .int s0, .int 0]) hk_214 rfl (Nat.le_of_ble_eq_true rfl) rfl rfl ?_
  exact l_214_12_ok t2 hF rfl
def p_214 (h : Hp) (x1 : Int32) (q2 : Nat) (x3 : Int32) (x4 : Int32) : Option (Int32) :=
  w_gd (w_ix x1 16) <|
  q_214_9 h x1 q2 x3 x4 (if x4 = (h 1080 x1.toNatClampNeg) then 1 else 0)
theorem p_214_ok {X : List Int32}  {h : Hp} {x1 : Int32} {q2 : Nat} {x3 : Int32} {x4 : Int32} (t2 : w_tab[q2]? = some (50, w_len q2, [])) {r : Int32} (hF : p_214 h x1 q2 x3 x4 = some r) : k_Ev X 0 214 [.ref (1076 + 1), .int x1, .ref (q2 + 1), .int x3, .int x4] h (.inl (some (.int r)), h) := by
  refine k_of hk_214 ?_
  show k_Go X 0 214 (0, [.ref (1076 + 1), .int x1, .ref (q2 + 1), .int x3, .int x4, (.retAddr 0), (.retAddr 0)], []) h _
  unfold p_214 at hF
  refine kg_iload hk_214 rfl rfl rfl ?_
  refine kg_aload hk_214 rfl rfl rfl ?_
  refine kg_get (v := .ref (1080 + 1)) hk_214 rfl wk_1076_4 rfl rfl ?_
  refine kg_iload hk_214 rfl rfl rfl ?_
  refine wf_gd hF (fun g1 hF => ?_)
  refine kg_ald (y := (h 1080 x1.toNatClampNeg)) hk_214 rfl wc_1080 g1 rfl rfl ?_
  refine kv_mid (p := 9) (L := [.ref (1076 + 1), .int x1, .ref (q2 + 1), .int x3, .int x4, (.retAddr 0), (.retAddr 0)]) (S := [.int (if x4 = (h 1080 x1.toNatClampNeg) then 1 else 0)]) ?_ (fun hK => ?_)
  · exact q_214_9_ok t2 hF _ _
  · by_cases c2 : x4 = (h 1080 x1.toNatClampNeg)
    · have hK := kv_T c2 hK
      refine kg_icF hk_214 rfl (jc_F1 c2) rfl ?_
      refine kg_push (x := 1) hk_214 rfl (by decide) rfl ?_
      refine kg_goto hk_214 rfl ?_
      exact hK
    · have hK := kv_F c2 hK
      refine kg_icT hk_214 rfl (jc_T1 c2) ?_
      refine kg_push (x := 0) hk_214 rfl (by decide) rfl ?_
      exact hK
-- NotebookWeirModel.fetches(II)Z
theorem hk_194 : jP[194]? = some (jc_194, 4, [], []) := by rfl
def q_194_57 (h : Hp) : Option (Int32 × Hp) :=
  some ((if (h 1132 0) = (-2) then 0 else 1), h)
theorem q_194_57_ok {X : List Int32}   {h : Hp}  {r : Int32 × Hp} (hF : q_194_57 h = some r)  : ∀ (u1 : Value) (u2 : Value) (u3 : Value), k_Go X 4 194 (57, [.ref (1076 + 1), u1, u2, u3], []) h (.inl (some (.int r.1)), r.2) := by
  intro u1 u2 u3
  unfold q_194_57 at hF
  refine kg_aload hk_194 rfl rfl rfl ?_
  refine kg_get (v := .ref (1132 + 1)) hk_194 rfl wk_1076_78 rfl rfl ?_
  refine kg_push (x := 0) hk_194 rfl (by decide) rfl ?_
  refine kg_ald (y := (h 1132 0)) hk_194 rfl wc_1132 (by decide) rfl rfl ?_
  refine kg_push (x := (-2)) hk_194 rfl (by decide) rfl ?_
  refine kv_mid (p := 66) (L := [.ref (1076 + 1), u1, u2, u3]) (S := [.int (if (h 1132 0) = (-2) then 0 else 1)]) ?_ (fun hK => ?_)
  · have hF := Option.some.inj hF
    subst hF
    exact kg_iret hk_194 rfl (Or.inr (w_boi rfl rfl)) rfl
  · by_cases c5 : (h 1132 0) = (-2)
    · have hK := kv_T c5 hK
      refine kg_icT hk_194 rfl (jc_T0 c5) ?_
      refine kg_push (x := 0) hk_194 rfl (by decide) rfl ?_
      exact hK
    · have hK := kv_F c5 hK
      refine kg_icF hk_194 rfl (jc_F0 c5) rfl ?_
      refine kg_push (x := 1) hk_194 rfl (by decide) rfl ?_
      refine kg_goto hk_194 rfl ?_
      exact hK
def q_194_44 (h : Hp) (x2 : Int32) (x3 : Int32) : Option (Int32 × Hp) :=
  (p_193 h 1123 ((234 * x3) + (9 * (x2 - 97))) 1132 0).bind fun v8 =>
  q_194_57 v8
theorem q_194_44_ok {X : List Int32}   {h : Hp} {x2 : Int32} {x3 : Int32}  {r : Int32 × Hp} (hF : q_194_44 h x2 x3 = some r)  : ∀ (u1 : Value), k_Go X 4 194 (44, [.ref (1076 + 1), u1, .int x2, .int x3], [.ref (1123 + 1), .ref (1076 + 1)]) h (.inl (some (.int r.1)), r.2) := by
  intro u1
  unfold q_194_44 at hF
  refine kg_push (x := 234) hk_194 rfl (by decide) rfl ?_
  refine kg_iload hk_194 rfl rfl rfl ?_
  refine kg_bin (z := (234 * x3)) hk_194 rfl rfl rfl ?_
  refine kg_push (x := 9) hk_194 rfl (by decide) rfl ?_
  refine kg_iload hk_194 rfl rfl rfl ?_
  refine kg_push (x := 97) hk_194 rfl (by decide) rfl ?_
  refine kg_bin (z := (x2 - 97)) hk_194 rfl rfl rfl ?_
  refine kg_bin (z := (9 * (x2 - 97))) hk_194 rfl rfl rfl ?_
  refine kg_bin (z := ((234 * x3) + (9 * (x2 - 97)))) hk_194 rfl rfl rfl ?_
  refine kg_aload hk_194 rfl rfl rfl ?_
  refine kg_get (v := .ref (1132 + 1)) hk_194 rfl wk_1076_78 rfl rfl ?_
  refine kg_push (x := 0) hk_194 rfl (by decide) rfl ?_
  refine wf_bind hF (fun v8 hv8 hF => ?_)
  refine kg_call (as := [.ref (1076 + 1), .ref (1123 + 1), .int ((234 * x3) + (9 * (x2 - 97))), .ref (1132 + 1), .int 0]) (rest := []) hk_194 rfl (Or.inr (Or.inr (Or.inr ⟨Or.inl rfl, _, _, rfl, wc_1076⟩))) rfl rfl rfl (Nat.not_lt.mpr (Nat.le_of_ble_eq_true rfl)) (p_193_ok wc_1123 wc_1132 hv8) (by decide) rfl ?_
  exact q_194_57_ok hF _ _ _
def p_194 (h : Hp) (x1 : Int32) (x2 : Int32) : Option (Int32 × Hp) :=
  (p_182 h x1 x2).bind fun v1 =>
  w_let (w_up h 1132 0 (-2)) fun h2 =>
  if v1 < 16 then
    (if v1 < 0 then
      (q_194_57 h2)
    else
      (if v1 = x1 then
        (q_194_57 h2)
      else
        (if (h2 1076 29) = 2 then
          (q_194_44 h2 x2 v1)
        else
          (q_194_44 h2 x2 v1))))
  else
    (w_let (w_up h2 1132 0 (-1)) fun h9 =>
    w_gd (w_ix (v1 - 16) 4) <|
    w_let (w_up h9 1132 1 (h9 1115 (v1 - 16).toNatClampNeg)) fun h11 =>
    q_194_57 h11)
theorem p_194_ok {X : List Int32}  {h : Hp} {x1 : Int32} {x2 : Int32}  {r : Int32 × Hp} (hF : p_194 h x1 x2 = some r) : k_Ev X 4 194 [.ref (1076 + 1), .int x1, .int x2] h (.inl (some (.int r.1)), r.2) := by
  refine k_of hk_194 ?_
  show k_Go X 4 194 (0, [.ref (1076 + 1), .int x1, .int x2, (.retAddr 0)], []) h _
  unfold p_194 at hF
  refine kg_aload hk_194 rfl rfl rfl ?_
  refine kg_iload hk_194 rfl rfl rfl ?_
  refine kg_iload hk_194 rfl rfl rfl ?_
  refine wf_bind hF (fun v1 hv1 hF => ?_)
  refine kg_call (as := [.ref (1076 + 1), .int x1, .int x2]) (rest := []) hk_194 rfl (Or.inr (Or.inr (Or.inr ⟨Or.inl rfl, _, _, rfl, wc_1076⟩))) rfl rfl rfl (Nat.not_lt.mpr (Nat.le_of_ble_eq_true rfl)) (p_182_ok hv1) (by decide) rfl ?_
  refine kg_istore (L2 := [.ref (1076 + 1), .int x1, .int x2, .int v1]) hk_194 rfl (Nat.le_of_ble_eq_true rfl) rfl rfl ?_
  refine kg_aload hk_194 rfl rfl rfl ?_
  refine kg_get (v := .ref (1132 + 1)) hk_194 rfl wk_1076_78 rfl rfl ?_
  refine kg_push (x := 0) hk_194 rfl (by decide) rfl ?_
  refine kg_push (x := (-2)) hk_194 rfl (by decide) rfl ?_
  refine wf_let hF (fun h2 hh2 hF => ?_)
  refine kg_ast hk_194 rfl wc_1132 (by decide) (by rw [j_nar50]; exact hh2) rfl ?_
  refine kg_iload hk_194 rfl rfl rfl ?_
  refine kg_push (x := 16) hk_194 rfl (by decide) rfl ?_
  refine wf_if hF (fun c3 hF => ?_) (fun c3 hF => ?_)
  · refine kg_icT hk_194 rfl (jc_T2 c3) ?_
    refine kg_iload hk_194 rfl rfl rfl ?_
    refine wf_if hF (fun c4 hF => ?_) (fun c4 hF => ?_)
    · refine kg_ifT hk_194 rfl (jc_T2 c4) ?_
      exact q_194_57_ok hF _ _ _
    · refine kg_ifF hk_194 rfl (jc_F2 c4) rfl ?_
      refine kg_iload hk_194 rfl rfl rfl ?_
      refine kg_iload hk_194 rfl rfl rfl ?_
      refine wf_if hF (fun c6 hF => ?_) (fun c6 hF => ?_)
      · refine kg_icT hk_194 rfl (jc_T0 c6) ?_
        exact q_194_57_ok hF _ _ _
      · refine kg_icF hk_194 rfl (jc_F0 c6) rfl ?_
        refine kg_aload hk_194 rfl rfl rfl ?_
        refine kg_aload hk_194 rfl rfl rfl ?_
        refine kg_get (v := .int (h2 1076 29)) hk_194 rfl wk_1076_29 rfl rfl ?_
        refine kg_push (x := 2) hk_194 rfl (by decide) rfl ?_
        refine wf_if hF (fun c7 hF => ?_) (fun c7 hF => ?_)
        · refine kg_icF hk_194 rfl (jc_F1 c7) rfl ?_
          refine kg_aload hk_194 rfl rfl rfl ?_
          refine kg_get (v := .ref (1123 + 1)) hk_194 rfl wk_1076_60 rfl rfl ?_
          refine kg_goto hk_194 rfl ?_
          exact q_194_44_ok hF _
        · refine kg_icT hk_194 rfl (jc_T1 c7) ?_
          refine kg_aload hk_194 rfl rfl rfl ?_
          refine kg_get (v := .ref (1093 + 1)) hk_194 rfl wk_1076_17 rfl rfl ?_
          exact q_194_44_ok hF _
  · refine kg_icF hk_194 rfl (jc_F2 c3) rfl ?_
    refine kg_aload hk_194 rfl rfl rfl ?_
    refine kg_get (v := .ref (1132 + 1)) hk_194 rfl wk_1076_78 rfl rfl ?_
    refine kg_push (x := 0) hk_194 rfl (by decide) rfl ?_
    refine kg_push (x := (-1)) hk_194 rfl (by decide) rfl ?_
    refine wf_let hF (fun h9 hh9 hF => ?_)
    refine kg_ast hk_194 rfl wc_1132 (by decide) (by rw [j_nar50]; exact hh9) rfl ?_
    refine kg_aload hk_194 rfl rfl rfl ?_
    refine kg_get (v := .ref (1132 + 1)) hk_194 rfl wk_1076_78 rfl rfl ?_
    refine kg_push (x := 1) hk_194 rfl (by decide) rfl ?_
    refine kg_aload hk_194 rfl rfl rfl ?_
    refine kg_get (v := .ref (1115 + 1)) hk_194 rfl wk_1076_52 rfl rfl ?_
    refine kg_iload hk_194 rfl rfl rfl ?_
    refine kg_push (x := 16) hk_194 rfl (by decide) rfl ?_
    refine kg_bin (z := (v1 - 16)) hk_194 rfl rfl rfl ?_
    refine wf_gd hF (fun g10 hF => ?_)
    refine kg_ald (y := (h9 1115 (v1 - 16).toNatClampNeg)) hk_194 rfl wc_1115 g10 rfl rfl ?_
    refine wf_let hF (fun h11 hh11 hF => ?_)
    refine kg_ast hk_194 rfl wc_1132 (by decide) (by rw [j_nar50]; exact hh11) rfl ?_
    refine kg_goto hk_194 rfl ?_
    exact q_194_57_ok hF _ _ _
-- NotebookWeirModel.hasSameValues(I[II)Z
theorem hk_218 : jP[218]? = some (jc_218, 7, [], []) := by rfl
def q_218_62 (h : Hp) (x1 : Int32) (q2 : Nat) (x3 : Int32) (x5 : Int32) (x6 : Int32) (s0 : Int32) (s1 : Int32) : Option ((Int32 × Int32) ⊕ Int32) :=
  w_gd ((if s1 ≤ s0 then (w_ix x6 9) && (w_ix ((x3 + (9 * x5)) + x6) (w_len q2)) else true)) <|
  some (.inl ((if s1 ≤ s0 then (if (h 1132 x6.toNatClampNeg) = (h q2 ((x3 + (9 * x5)) + x6).toNatClampNeg) then 1 else 0) else 1), (x6 + 1)))
theorem q_218_62_ok {X : List Int32} {o : kO}  {h : Hp} {q2 : Nat} {s0 : Int32} {s1 : Int32} {x1 : Int32} {x3 : Int32} {x5 : Int32} {x6 : Int32} (t2 : w_tab[q2]? = some (50, (w_len q2), [])) {r : (Int32 × Int32) ⊕ Int32} (hF : q_218_62 h x1 q2 x3 x5 x6 s0 s1 = some r) (hK : ∀ s' : Int32 × Int32, r = .inl s' → k_Go X 5 218 (44, [.ref (1076 + 1), .int x1, .ref (q2 + 1), .int x3, .int (s'.1), .int x5, .int (s'.2)], []) h o) (hX0 : ∀ e : Int32, r = .inr e → ∀ (u6 : Value), k_Go X 5 218 (83, [.ref (1076 + 1), .int x1, .ref (q2 + 1), .int x3, .int e, .int x5, u6], []) h o) : ∀ (u4 : Value), k_Go X 5 218 (62, [.ref (1076 + 1), .int x1, .ref (q2 + 1), .int x3, u4, .int x5, .int x6], [.int s0, .int s1]) h o := by
  intro u4
  unfold q_218_62 at hF
  refine wf_gd hF (fun g18 hF => ?_)
  refine kv_mid (p := 80) (L := [.ref (1076 + 1), .int x1, .ref (q2 + 1), .int x3, u4, .int x5, .int x6]) (S := [.int (if s1 ≤ s0 then (if (h 1132 x6.toNatClampNeg) = (h q2 ((x3 + (9 * x5)) + x6).toNatClampNeg) then 1 else 0) else 1)]) ?_ (fun hK => ?_)
  · refine kg_istore (L2 := [.ref (1076 + 1), .int x1, .ref (q2 + 1), .int x3, .int (if s1 ≤ s0 then (if (h 1132 x6.toNatClampNeg) = (h q2 ((x3 + (9 * x5)) + x6).toNatClampNeg) then 1 else 0) else 1), .int x5, .int x6]) hk_218 rfl (Nat.le_of_ble_eq_true rfl) rfl rfl ?_
    refine kg_iinc (y := (x6 + 1)) (L2 := [.ref (1076 + 1), .int x1, .ref (q2 + 1), .int x3, .int (if s1 ≤ s0 then (if (h 1132 x6.toNatClampNeg) = (h q2 ((x3 + (9 * x5)) + x6).toNatClampNeg) then 1 else 0) else 1), .int x5, .int (x6 + 1)]) hk_218 rfl rfl rfl rfl rfl ?_
    refine kg_goto hk_218 rfl ?_
    have hF := Option.some.inj hF
    exact hK _ hF.symm
  · have hg := g18
    by_cases c14 : s1 ≤ s0
    · have hg := wv_T c14 hg
      have hK := kv_T c14 hK
      have g15 := wb_1 hg
      have hg := wb_2 hg
      have g16 := hg
      refine kg_icF hk_218 rfl (jc_F4 c14) rfl ?_
      refine kg_aload hk_218 rfl rfl rfl ?_
      refine kg_get (v := .ref (1132 + 1)) hk_218 rfl wk_1076_78 rfl rfl ?_
      refine kg_iload hk_218 rfl rfl rfl ?_
      refine kg_ald (y := (h 1132 x6.toNatClampNeg)) hk_218 rfl wc_1132 g15 rfl rfl ?_
      refine kg_aload hk_218 rfl rfl rfl ?_
      refine kg_iload hk_218 rfl rfl rfl ?_
      refine kg_push (x := 9) hk_218 rfl (by decide) rfl ?_
      refine kg_iload hk_218 rfl rfl rfl ?_
      refine kg_bin (z := (9 * x5)) hk_218 rfl rfl rfl ?_
      refine kg_bin (z := (x3 + (9 * x5))) hk_218 rfl rfl rfl ?_
      refine kg_iload hk_218 rfl rfl rfl ?_
      refine kg_bin (z := ((x3 + (9 * x5)) + x6)) hk_218 rfl rfl rfl ?_
      refine kg_ald (y := (h q2 ((x3 + (9 * x5)) + x6).toNatClampNeg)) hk_218 rfl t2 g16 rfl rfl ?_
      by_cases c17 : (h 1132 x6.toNatClampNeg) = (h q2 ((x3 + (9 * x5)) + x6).toNatClampNeg)
      · have hK := kv_T c17 hK
        refine kg_icF hk_218 rfl (jc_F1 c17) rfl ?_
        refine kg_push (x := 1) hk_218 rfl (by decide) rfl ?_
        refine kg_goto hk_218 rfl ?_
        exact hK
      · have hK := kv_F c17 hK
        refine kg_icT hk_218 rfl (jc_T1 c17) ?_
        refine kg_push (x := 0) hk_218 rfl (by decide) rfl ?_
        exact hK
    · have hK := kv_F c14 hK
      refine kg_icT hk_218 rfl (jc_T4 c14) ?_
      refine kg_push (x := 1) hk_218 rfl (by decide) rfl ?_
      refine kg_goto hk_218 rfl ?_
      exact hK
def l_218_44 (h : Hp) (q2 : Nat) (x3 : Int32) (x5 : Int32) (x4 : Int32) (x6 : Int32) : Option ((Int32 × Int32) ⊕ Int32) :=
  if x6 < 9 then
    (if x4 = 0 then
      (some (.inr x4))
    else
      (q_218_62 h x1 q2 x3 x5 x6 (if (h 1132 0) = (-1) then 1 else (h 1132 0)) x6))
  else
    (some (.inr x4))
theorem l_218_44_st {X : List Int32} {o : kO}  {h : Hp} {q2 : Nat} {x1 : Int32} {x3 : Int32} {x4 : Int32} {x5 : Int32} {x6 : Int32} (t2 : w_tab[q2]? = some (50, (w_len q2), [])) {r : (Int32 × Int32) ⊕ Int32} (hF : l_218_44 h q2 x3 x5 x4 x6 = some r) (hK : ∀ s' : Int32 × Int32, r = .inl s' → k_Go X 5 218 (44, [.ref (1076 + 1), .int x1, .ref (q2 + 1), .int x3, .int (s'.1), .int x5, .int (s'.2)], []) h o) (hX0 : ∀ e : Int32, r = .inr e → ∀ (u6 : Value), k_Go X 5 218 (83, [.ref (1076 + 1), .int x1, .ref (q2 + 1), .int x3, .int e, .int x5, u6], []) h o) : k_Go X 5 218 (44, [.ref (1076 + 1), .int x1, .ref (q2 + 1), .int x3, .int x4, .int x5, .int x6], []) h o := by
  refine kg_iload hk_218 rfl rfl rfl ?_
  refine kg_push (x := 9) hk_218 rfl (by decide) rfl ?_
  refine wf_if hF (fun c11 hF => ?_) (fun c11 hF => ?_)
  · refine kg_icF hk_218 rfl (jc_F3 c11) rfl ?_
    refine kg_iload hk_218 rfl rfl rfl ?_
    refine wf_if hF (fun c12 hF => ?_) (fun c12 hF => ?_)
    · refine kg_ifT hk_218 rfl (jc_T0 c12) ?_
      have hF := Option.some.inj hF
      exact hX0 _ hF.symm _
    · refine kg_ifF hk_218 rfl (jc_F0 c12) rfl ?_
      refine kg_iload hk_218 rfl rfl rfl ?_
      refine kg_aload hk_218 rfl rfl rfl ?_
      refine kg_get (v := .ref (1132 + 1)) hk_218 rfl wk_1076_78 rfl rfl ?_
      refine kg_push (x := 0) hk_218 rfl (by decide) rfl ?_
      refine kg_ald (y := (h 1132 0)) hk_218 rfl wc_1132 (by decide) rfl rfl ?_
      refine kg_push (x := (-1)) hk_218 rfl (by decide) rfl ?_
      refine kv_mid (p := 62) (L := [.ref (1076 + 1), .int x1, .ref (q2 + 1), .int x3, .int x4, .int x5, .int x6]) (S := [.int (if (h 1132 0) = (-1) then 1 else (h 1132 0)), .int x6]) ?_ (fun hK => ?_)
      · exact q_218_62_ok t2 hF hK hX0 _
      · by_cases c13 : (h 1132 0) = (-1)
        · have hK := kv_T c13 hK
          refine kg_icF hk_218 rfl (jc_F1 c13) rfl ?_
          refine kg_push (x := 1) hk_218 rfl (by decide) rfl ?_
          refine kg_goto hk_218 rfl ?_
          exact hK
        · have hK := kv_F c13 hK
          refine kg_icT hk_218 rfl (jc_T1 c13) ?_
          refine kg_aload hk_218 rfl rfl rfl ?_
          refine kg_get (v := .ref (1132 + 1)) hk_218 rfl wk_1076_78 rfl rfl ?_
          refine kg_push (x := 0) hk_218 rfl (by decide) rfl ?_
          refine kg_ald (y := (h 1132 0)) hk_218 rfl wc_1132 (by decide) rfl rfl ?_
          exact hK
  · refine kg_icT hk_218 rfl (jc_T3 c11) ?_
    have hF := Option.some.inj hF
    exact hX0 _ hF.symm _
theorem l_218_44_ok {X : List Int32} {o : kO}  {h : Hp} {q2 : Nat} {x1 : Int32} {x3 : Int32} {x5 : Int32} (t2 : w_tab[q2]? = some (50, (w_len q2), [])) {n : Nat} {s : Int32 × Int32} {e : Int32} (hF : w_lp (fun (s : Int32 × Int32) => l_218_44 h q2 x3 x5 s.1 s.2) n s = some e) (hX0 : ∀ (u6 : Value), k_Go X 5 218 (83, [.ref (1076 + 1), .int x1, .ref (q2 + 1), .int x3, .int e, .int x5, u6], []) h o) : k_Go X 5 218 (44, [.ref (1076 + 1), .int x1, .ref (q2 + 1), .int x3, .int s.1, .int x5, .int s.2], []) h o := by
  exact w_lp_ok (P := (fun (s : Int32 × Int32) => k_Go X 5 218 (44, [.ref (1076 + 1), .int x1, .ref (q2 + 1), .int x3, .int s.1, .int x5, .int s.2], []) h o)) (Q := (fun (e : Int32) => (∀ (u6 : Value), k_Go X 5 218 (83, [.ref (1076 + 1), .int x1, .ref (q2 + 1), .int x3, .int e, .int x5, u6], []) h o))) (fun s r hF hK hX => l_218_44_st t2 hF hK (fun x hx => (hX _ hx))) n s e hF hX0
def q_218_41 (h : Hp) (x1 : Int32) (q2 : Nat) (x3 : Int32) (x5 : Int32) (s0 : Int32) : Option ((Int32 × Int32 × Hp) ⊕ Int32 × Hp) :=
  (w_lp (fun (s : Int32 × Int32) => l_218_44 h q2 x3 x5 s.1 s.2) w_N (s0, 1)).bind fun e19 =>
  some (.inl (e19, (x5 + 1), h))
theorem q_218_41_ok {X : List Int32} {o : kO}  {h : Hp} {q2 : Nat} {s0 : Int32} {x1 : Int32} {x3 : Int32} {x5 : Int32} (t2 : w_tab[q2]? = some (50, (w_len q2), [])) {r : (Int32 × Int32 × Hp) ⊕ Int32 × Hp} (hF : q_218_41 h x1 q2 x3 x5 s0 = some r) (hK : ∀ s' : Int32 × Int32 × Hp, r = .inl s' → ∀ (u6 : Value), k_Go X 5 218 (4, [.ref (1076 + 1), .int x1, .ref (q2 + 1), .int x3, .int (s'.1), .int (s'.2.1), u6], []) s'.2.2 o) (hX0 : ∀ e : Int32 × Hp, r = .inr e → (.inl (some (.int e.1)), e.2) = o) : ∀ (u4 : Value) (u6 : Value), k_Go X 5 218 (41, [.ref (1076 + 1), .int x1, .ref (q2 + 1), .int x3, u4, .int x5, u6], [.int s0]) h o := by
  intro u4 u6
  unfold q_218_41 at hF
  refine kg_istore (L2 := [.ref (1076 + 1), .int x1, .ref (q2 + 1), .int x3, .int s0, .int x5, u6]) hk_218 rfl (Nat.le_of_ble_eq_true rfl) rfl rfl ?_
  refine kg_push (x := 1) hk_218 rfl (by decide) rfl ?_
  refine kg_istore (L2 := [.ref (1076 + 1), .int x1, .ref (q2 + 1), .int x3, .int s0, .int x5, .int 1]) hk_218 rfl (Nat.le_of_ble_eq_true rfl) rfl rfl ?_
  refine wf_bind hF (fun e19 he19 hF => ?_)
  refine l_218_44_ok t2 he19 ?_
  intro u6
  refine kg_iinc (y := (x5 + 1)) (L2 := [.ref (1076 + 1), .int x1, .ref (q2 + 1), .int x3, .int e19, .int (x5 + 1), u6]) hk_218 rfl rfl rfl rfl rfl ?_
  refine kg_goto hk_218 rfl ?_
  have hF := Option.some.inj hF
  exact hK _ hF.symm _
def l_218_4 (x1 : Int32) (q2 : Nat) (x3 : Int32) (x4 : Int32) (x5 : Int32) (h : Hp) : Option ((Int32 × Int32 × Hp) ⊕ Int32 × Hp) :=
  if x5 < 26 then
    (if x4 = 0 then
      (w_gd (w_bo x4) <|
      some (.inr (x4, h)))
    else
      (w_gd (w_ix x1 16) <|
      if (((h 1085 x1.toNatClampNeg) >>> (x5 &&& 31)) &&& 1) = 1 then
        ((p_194 h x1 (97 + x5)).bind fun v6 =>
        w_gd ((if v6.1 = 0 then true else w_ix (x3 + (9 * x5)) (w_len q2))) <|
        q_218_41 v6.2 x1 q2 x3 x5 (if v6.1 = 0 then 0 else (if (v6.2 1132 0) = (v6.2 q2 (x3 + (9 * x5)).toNatClampNeg) then 1 else 0)))
      else
        (some (.inl (x4, (x5 + 1), h)))))
  else
    (w_gd (w_bo x4) <|
    some (.inr (x4, h)))
theorem l_218_4_st {X : List Int32} {o : kO}  {h : Hp} {q2 : Nat} {x1 : Int32} {x3 : Int32} {x4 : Int32} {x5 : Int32} (t2 : w_tab[q2]? = some (50, (w_len q2), [])) {r : (Int32 × Int32 × Hp) ⊕ Int32 × Hp} (hF : l_218_4 x1 q2 x3 x4 x5 h = some r) (hK : ∀ s' : Int32 × Int32 × Hp, r = .inl s' → ∀ (u6 : Value), k_Go X 5 218 (4, [.ref (1076 + 1), .int x1, .ref (q2 + 1), .int x3, .int (s'.1), .int (s'.2.1), u6], []) s'.2.2 o) (hX0 : ∀ e : Int32 × Hp, r = .inr e → (.inl (some (.int e.1)), e.2) = o) : ∀ (u6 : Value), k_Go X 5 218 (4, [.ref (1076 + 1), .int x1, .ref (q2 + 1), .int x3, .int x4, .int x5, u6], []) h o := by
  intro u6
  refine kg_iload hk_218 rfl rfl rfl ?_
  refine kg_push (x := 26) hk_218 rfl (by decide) rfl ?_
  refine wf_if hF (fun c1 hF => ?_) (fun c1 hF => ?_)
  · refine kg_icF hk_218 rfl (jc_F3 c1) rfl ?_
    refine kg_iload hk_218 rfl rfl rfl ?_
    refine wf_if hF (fun c2 hF => ?_) (fun c2 hF => ?_)
    · refine kg_ifT hk_218 rfl (jc_T0 c2) ?_
      refine kg_iload hk_218 rfl rfl rfl ?_
      refine wf_gd hF (fun g3 hF => ?_)
      have hF := Option.some.inj hF
      exact kg_iret hk_218 rfl (Or.inr g3) (hX0 _ hF.symm)
    · refine kg_ifF hk_218 rfl (jc_F0 c2) rfl ?_
      refine kg_aload hk_218 rfl rfl rfl ?_
      refine kg_get (v := .ref (1085 + 1)) hk_218 rfl wk_1076_9 rfl rfl ?_
      refine kg_iload hk_218 rfl rfl rfl ?_
      refine wf_gd hF (fun g4 hF => ?_)
      refine kg_ald (y := (h 1085 x1.toNatClampNeg)) hk_218 rfl wc_1085 g4 rfl rfl ?_
      refine kg_iload hk_218 rfl rfl rfl ?_
      refine kg_bin (z := ((h 1085 x1.toNatClampNeg) >>> (x5 &&& 31))) hk_218 rfl rfl rfl ?_
      refine kg_push (x := 1) hk_218 rfl (by decide) rfl ?_
      refine kg_bin (z := (((h 1085 x1.toNatClampNeg) >>> (x5 &&& 31)) &&& 1)) hk_218 rfl rfl rfl ?_
      refine kg_push (x := 1) hk_218 rfl (by decide) rfl ?_
      refine wf_if hF (fun c5 hF => ?_) (fun c5 hF => ?_)
      · refine kg_icF hk_218 rfl (jc_F1 c5) rfl ?_
        refine kg_aload hk_218 rfl rfl rfl ?_
        refine kg_iload hk_218 rfl rfl rfl ?_
        refine kg_push (x := 97) hk_218 rfl (by decide) rfl ?_
        refine kg_iload hk_218 rfl rfl rfl ?_
        refine kg_bin (z := (97 + x5)) hk_218 rfl rfl rfl ?_
        refine wf_bind hF (fun v6 hv6 hF => ?_)
        refine kg_call (as := [.ref (1076 + 1), .int x1, .int (97 + x5)]) (rest := []) hk_218 rfl (Or.inr (Or.inr (Or.inr ⟨Or.inl rfl, _, _, rfl, wc_1076⟩))) rfl rfl rfl (Nat.not_lt.mpr (Nat.le_of_ble_eq_true rfl)) (p_194_ok hv6) (by decide) rfl ?_
        refine wf_gd hF (fun g10 hF => ?_)
        refine kv_mid (p := 41) (L := [.ref (1076 + 1), .int x1, .ref (q2 + 1), .int x3, .int x4, .int x5, u6]) (S := [.int (if v6.1 = 0 then 0 else (if (v6.2 1132 0) = (v6.2 q2 (x3 + (9 * x5)).toNatClampNeg) then 1 else 0))]) ?_ (fun hK => ?_)
        · exact q_218_41_ok t2 hF hK hX0 _ _
        · have hg := g10
          by_cases c7 : v6.1 = 0
          · have hK := kv_T c7 hK
            refine kg_ifT hk_218 rfl (jc_T0 c7) ?_
            refine kg_push (x := 0) hk_218 rfl (by decide) rfl ?_
            exact hK
          · have hg := wv_F c7 hg
            have hK := kv_F c7 hK
            have g8 := hg
            refine kg_ifF hk_218 rfl (jc_F0 c7) rfl ?_
            refine kg_aload hk_218 rfl rfl rfl ?_
            refine kg_get (v := .ref (1132 + 1)) hk_218 rfl wk_1076_78 rfl rfl ?_
            refine kg_push (x := 0) hk_218 rfl (by decide) rfl ?_
            refine kg_ald (y := (v6.2 1132 0)) hk_218 rfl wc_1132 (by decide) rfl rfl ?_
            refine kg_aload hk_218 rfl rfl rfl ?_
            refine kg_iload hk_218 rfl rfl rfl ?_
            refine kg_push (x := 9) hk_218 rfl (by decide) rfl ?_
            refine kg_iload hk_218 rfl rfl rfl ?_
            refine kg_bin (z := (9 * x5)) hk_218 rfl rfl rfl ?_
            refine kg_bin (z := (x3 + (9 * x5))) hk_218 rfl rfl rfl ?_
            refine kg_ald (y := (v6.2 q2 (x3 + (9 * x5)).toNatClampNeg)) hk_218 rfl t2 g8 rfl rfl ?_
            by_cases c9 : (v6.2 1132 0) = (v6.2 q2 (x3 + (9 * x5)).toNatClampNeg)
            · have hK := kv_T c9 hK
              refine kg_icF hk_218 rfl (jc_F1 c9) rfl ?_
              refine kg_push (x := 1) hk_218 rfl (by decide) rfl ?_
              refine kg_goto hk_218 rfl ?_
              exact hK
            · have hK := kv_F c9 hK
              refine kg_icT hk_218 rfl (jc_T1 c9) ?_
              refine kg_push (x := 0) hk_218 rfl (by decide) rfl ?_
              exact hK
      · refine kg_icT hk_218 rfl (jc_T1 c5) ?_
        refine kg_iinc (y := (x5 + 1)) (L2 := [.ref (1076 + 1), .int x1, .ref (q2 + 1), .int x3, .int x4, .int (x5 + 1), u6]) hk_218 rfl rfl rfl rfl rfl ?_
        refine kg_goto hk_218 rfl ?_
        have hF := Option.some.inj hF
        exact hK _ hF.symm _
  · refine kg_icT hk_218 rfl (jc_T3 c1) ?_
    refine kg_iload hk_218 rfl rfl rfl ?_
    refine wf_gd hF (fun g20 hF => ?_)
    have hF := Option.some.inj hF
    exact kg_iret hk_218 rfl (Or.inr g20) (hX0 _ hF.symm)
theorem l_218_4_ok {X : List Int32} {o : kO}  {q2 : Nat} {x1 : Int32} {x3 : Int32} (t2 : w_tab[q2]? = some (50, (w_len q2), [])) {n : Nat} {s : Int32 × Int32 × Hp} {e : Int32 × Hp} (hF : w_lp (fun (s : Int32 × Int32 × Hp) => l_218_4 x1 q2 x3 s.1 s.2.1 s.2.2) n s = some e) (hX0 : (.inl (some (.int e.1)), e.2) = o) : ∀ (u6 : Value), k_Go X 5 218 (4, [.ref (1076 + 1), .int x1, .ref (q2 + 1), .int x3, .int s.1, .int s.2.1, u6], []) s.2.2 o := by
  exact w_lp_ok (P := (fun (s : Int32 × Int32 × Hp) => ∀ (u6 : Value), k_Go X 5 218 (4, [.ref (1076 + 1), .int x1, .ref (q2 + 1), .int x3, .int s.1, .int s.2.1, u6], []) s.2.2 o)) (Q := (fun (e : Int32 × Hp) => ((.inl (some (.int e.1)), e.2) = o))) (fun s r hF hK hX => l_218_4_st t2 hF hK (fun x hx => (hX _ hx))) n s e hF hX0
def p_218 (h : Hp) (x1 : Int32) (q2 : Nat) (x3 : Int32) : Option (Int32 × Hp) :=
  w_lp (fun (s : Int32 × Int32 × Hp) => l_218_4 x1 q2 x3 s.1 s.2.1 s.2.2) w_N (1, 0, h)
theorem p_218_ok {X : List Int32}  {h : Hp} {x1 : Int32} {q2 : Nat} {x3 : Int32} (t2 : w_tab[q2]? = some (50, w_len q2, [])) {r : Int32 × Hp} (hF : p_218 h x1 q2 x3 = some r) : k_Ev X 5 218 [.ref (1076 + 1), .int x1, .ref (q2 + 1), .int x3] h (.inl (some (.int r.1)), r.2) := by
  refine k_of hk_218 ?_
  show k_Go X 5 218 (0, [.ref (1076 + 1), .int x1, .ref (q2 + 1), .int x3, (.retAddr 0), (.retAddr 0), (.retAddr 0)], []) h _
  unfold p_218 at hF
  refine kg_push (x := 1) hk_218 rfl (by decide) rfl ?_
  refine kg_istore (L2 := [.ref (1076 + 1), .int x1, .ref (q2 + 1), .int x3, .int 1, (.retAddr 0), (.retAddr 0)]) hk_218 rfl (Nat.le_of_ble_eq_true rfl) rfl rfl ?_
  refine kg_push (x := 0) hk_218 rfl (by decide) rfl ?_
  refine kg_istore (L2 := [.ref (1076 + 1), .int x1, .ref (q2 + 1), .int x3, .int 1, .int 0, (.retAddr 0)]) hk_218 rfl (Nat.le_of_ble_eq_true rfl) rfl rfl ?_
  exact l_218_4_ok t2 hF rfl _
-- NotebookWeirModel.keptOf(I)I
theorem hk_220 : jP[220]? = some (jc_220, 5, [], []) := by rfl
def q_220_41 (h : Hp) (x1 : Int32) (x2 : Int32) (x3 : Int32) (s0 : Int32) : Option ((Int32 × Int32 × Hp) ⊕ Int32 × Hp) :=
  some (.inl ((if s0 = 0 then x2 else x3), (x3 + 1), h))
theorem q_220_41_ok {X : List Int32} {o : kO}  {h : Hp} {s0 : Int32} {x1 : Int32} {x2 : Int32} {x3 : Int32}  {r : (Int32 × Int32 × Hp) ⊕ Int32 × Hp} (hF : q_220_41 h x1 x2 x3 s0 = some r) (hK : ∀ s' : Int32 × Int32 × Hp, r = .inl s' → ∀ (u4 : Value), k_Go X 6 220 (6, [.ref (1076 + 1), .int x1, .int (s'.1), .int (s'.2.1), u4], []) s'.2.2 o) (hX0 : ∀ e : Int32 × Hp, r = .inr e → (.inl (some (.int e.1)), e.2) = o) : ∀ (u4 : Value), k_Go X 6 220 (41, [.ref (1076 + 1), .int x1, .int x2, .int x3, u4], [.int s0]) h o := by
  intro u4
  unfold q_220_41 at hF
  refine kg_istore (L2 := [.ref (1076 + 1), .int x1, .int x2, .int x3, .int s0]) hk_220 rfl (Nat.le_of_ble_eq_true rfl) rfl rfl ?_
  refine kg_iload hk_220 rfl rfl rfl ?_
  refine kv_mid (p := 47) (L := [.ref (1076 + 1), .int x1, .int x2, .int x3, .int s0]) (S := [.int (if s0 = 0 then x2 else x3)]) ?_ (fun hK => ?_)
  · refine kg_istore (L2 := [.ref (1076 + 1), .int x1, .int (if s0 = 0 then x2 else x3), .int x3, .int s0]) hk_220 rfl (Nat.le_of_ble_eq_true rfl) rfl rfl ?_
    refine kg_iinc (y := (x3 + 1)) (L2 := [.ref (1076 + 1), .int x1, .int (if s0 = 0 then x2 else x3), .int (x3 + 1), .int s0]) hk_220 rfl rfl rfl rfl rfl ?_
    refine kg_goto hk_220 rfl ?_
    have hF := Option.some.inj hF
    exact hK _ hF.symm _
  · by_cases c6 : s0 = 0
    · have hK := kv_T c6 hK
      refine kg_ifT hk_220 rfl (jc_T0 c6) ?_
      refine kg_iload hk_220 rfl rfl rfl ?_
      exact hK
    · have hK := kv_F c6 hK
      refine kg_ifF hk_220 rfl (jc_F0 c6) rfl ?_
      refine kg_iload hk_220 rfl rfl rfl ?_
      refine kg_goto hk_220 rfl ?_
      exact hK
def q_220_40 (h : Hp) (x1 : Int32) (x2 : Int32) (x3 : Int32) : Option ((Int32 × Int32 × Hp) ⊕ Int32 × Hp) :=
  q_220_41 h x1 x2 x3 0
theorem q_220_40_ok {X : List Int32} {o : kO}  {h : Hp} {x1 : Int32} {x2 : Int32} {x3 : Int32}  {r : (Int32 × Int32 × Hp) ⊕ Int32 × Hp} (hF : q_220_40 h x1 x2 x3 = some r) (hK : ∀ s' : Int32 × Int32 × Hp, r = .inl s' → ∀ (u4 : Value), k_Go X 6 220 (6, [.ref (1076 + 1), .int x1, .int (s'.1), .int (s'.2.1), u4], []) s'.2.2 o) (hX0 : ∀ e : Int32 × Hp, r = .inr e → (.inl (some (.int e.1)), e.2) = o) : ∀ (u4 : Value), k_Go X 6 220 (40, [.ref (1076 + 1), .int x1, .int x2, .int x3, u4], []) h o := by
  intro u4
  unfold q_220_40 at hF
  refine kg_push (x := 0) hk_220 rfl (by decide) rfl ?_
  exact q_220_41_ok hF hK hX0 _
def l_220_6 (x1 : Int32) (x2 : Int32) (x3 : Int32) (h : Hp) : Option ((Int32 × Int32 × Hp) ⊕ Int32 × Hp) :=
  w_gd (w_ix x1 16) <|
  if x3 < ((4 * x1) + (h 1100 x1.toNatClampNeg)) then
    (w_gd (w_ix x3 64) <|
    (p_214 h x1 1101 (40 * x3) (h 1102 x3.toNatClampNeg)).bind fun v4 =>
    if v4 = 0 then
      (q_220_40 h x1 x2 x3)
    else
      ((p_218 h x1 1103 (234 * x3)).bind fun v7 =>
      q_220_41 v7.2 x1 x2 x3 (if v7.1 = 0 then 0 else 1)))
  else
    (some (.inr (x2, h)))
theorem l_220_6_st {X : List Int32} {o : kO}  {h : Hp} {x1 : Int32} {x2 : Int32} {x3 : Int32}  {r : (Int32 × Int32 × Hp) ⊕ Int32 × Hp} (hF : l_220_6 x1 x2 x3 h = some r) (hK : ∀ s' : Int32 × Int32 × Hp, r = .inl s' → ∀ (u4 : Value), k_Go X 6 220 (6, [.ref (1076 + 1), .int x1, .int (s'.1), .int (s'.2.1), u4], []) s'.2.2 o) (hX0 : ∀ e : Int32 × Hp, r = .inr e → (.inl (some (.int e.1)), e.2) = o) : ∀ (u4 : Value), k_Go X 6 220 (6, [.ref (1076 + 1), .int x1, .int x2, .int x3, u4], []) h o := by
  intro u4
  refine kg_iload hk_220 rfl rfl rfl ?_
  refine kg_push (x := 4) hk_220 rfl (by decide) rfl ?_
  refine kg_iload hk_220 rfl rfl rfl ?_
  refine kg_bin (z := (4 * x1)) hk_220 rfl rfl rfl ?_
  refine kg_aload hk_220 rfl rfl rfl ?_
  refine kg_get (v := .ref (1100 + 1)) hk_220 rfl wk_1076_33 rfl rfl ?_
  refine kg_iload hk_220 rfl rfl rfl ?_
  refine wf_gd hF (fun g1 hF => ?_)
  refine kg_ald (y := (h 1100 x1.toNatClampNeg)) hk_220 rfl wc_1100 g1 rfl rfl ?_
  refine kg_bin (z := ((4 * x1) + (h 1100 x1.toNatClampNeg))) hk_220 rfl rfl rfl ?_
  refine wf_if hF (fun c2 hF => ?_) (fun c2 hF => ?_)
  · refine kg_icF hk_220 rfl (jc_F3 c2) rfl ?_
    refine kg_aload hk_220 rfl rfl rfl ?_
    refine kg_iload hk_220 rfl rfl rfl ?_
    refine kg_aload hk_220 rfl rfl rfl ?_
    refine kg_get (v := .ref (1101 + 1)) hk_220 rfl wk_1076_34 rfl rfl ?_
    refine kg_push (x := 40) hk_220 rfl (by decide) rfl ?_
    refine kg_iload hk_220 rfl rfl rfl ?_
    refine kg_bin (z := (40 * x3)) hk_220 rfl rfl rfl ?_
    refine kg_aload hk_220 rfl rfl rfl ?_
    refine kg_get (v := .ref (1102 + 1)) hk_220 rfl wk_1076_35 rfl rfl ?_
    refine kg_iload hk_220 rfl rfl rfl ?_
    refine wf_gd hF (fun g3 hF => ?_)
    refine kg_ald (y := (h 1102 x3.toNatClampNeg)) hk_220 rfl wc_1102 g3 rfl rfl ?_
    refine wf_bind hF (fun v4 hv4 hF => ?_)
    refine kg_call (as := [.ref (1076 + 1), .int x1, .ref (1101 + 1), .int (40 * x3), .int (h 1102 x3.toNatClampNeg)]) (rest := []) hk_220 rfl (Or.inr (Or.inr (Or.inr ⟨Or.inl rfl, _, _, rfl, wc_1076⟩))) rfl rfl rfl (Nat.not_lt.mpr (Nat.le_of_ble_eq_true rfl)) (p_214_ok wc_1101 hv4) (by decide) rfl ?_
    refine wf_if hF (fun c5 hF => ?_) (fun c5 hF => ?_)
    · refine kg_ifT hk_220 rfl (jc_T0 c5) ?_
      exact q_220_40_ok hF hK hX0 _
    · refine kg_ifF hk_220 rfl (jc_F0 c5) rfl ?_
      refine kg_aload hk_220 rfl rfl rfl ?_
      refine kg_iload hk_220 rfl rfl rfl ?_
      refine kg_aload hk_220 rfl rfl rfl ?_
      refine kg_get (v := .ref (1103 + 1)) hk_220 rfl wk_1076_36 rfl rfl ?_
      refine kg_push (x := 234) hk_220 rfl (by decide) rfl ?_
      refine kg_iload hk_220 rfl rfl rfl ?_
      refine kg_bin (z := (234 * x3)) hk_220 rfl rfl rfl ?_
      refine wf_bind hF (fun v7 hv7 hF => ?_)
      refine kg_call (as := [.ref (1076 + 1), .int x1, .ref (1103 + 1), .int (234 * x3)]) (rest := []) hk_220 rfl (Or.inr (Or.inr (Or.inr ⟨Or.inl rfl, _, _, rfl, wc_1076⟩))) rfl rfl rfl (Nat.not_lt.mpr (Nat.le_of_ble_eq_true rfl)) (p_218_ok wc_1103 hv7) (by decide) rfl ?_
      refine kv_mid (p := 41) (L := [.ref (1076 + 1), .int x1, .int x2, .int x3, u4]) (S := [.int (if v7.1 = 0 then 0 else 1)]) ?_ (fun hK => ?_)
      · exact q_220_41_ok hF hK hX0 _
      · by_cases c8 : v7.1 = 0
        · have hK := kv_T c8 hK
          refine kg_ifT hk_220 rfl (jc_T0 c8) ?_
          refine kg_push (x := 0) hk_220 rfl (by decide) rfl ?_
          exact hK
        · have hK := kv_F c8 hK
          refine kg_ifF hk_220 rfl (jc_F0 c8) rfl ?_
          refine kg_push (x := 1) hk_220 rfl (by decide) rfl ?_
          refine kg_goto hk_220 rfl ?_
          exact hK
  · refine kg_icT hk_220 rfl (jc_T3 c2) ?_
    refine kg_iload hk_220 rfl rfl rfl ?_
    have hF := Option.some.inj hF
    exact kg_iret hk_220 rfl (Or.inl rfl) (hX0 _ hF.symm)
theorem l_220_6_ok {X : List Int32} {o : kO}  {x1 : Int32}  {n : Nat} {s : Int32 × Int32 × Hp} {e : Int32 × Hp} (hF : w_lp (fun (s : Int32 × Int32 × Hp) => l_220_6 x1 s.1 s.2.1 s.2.2) n s = some e) (hX0 : (.inl (some (.int e.1)), e.2) = o) : ∀ (u4 : Value), k_Go X 6 220 (6, [.ref (1076 + 1), .int x1, .int s.1, .int s.2.1, u4], []) s.2.2 o := by
  exact w_lp_ok (P := (fun (s : Int32 × Int32 × Hp) => ∀ (u4 : Value), k_Go X 6 220 (6, [.ref (1076 + 1), .int x1, .int s.1, .int s.2.1, u4], []) s.2.2 o)) (Q := (fun (e : Int32 × Hp) => ((.inl (some (.int e.1)), e.2) = o))) (fun s r hF hK hX => l_220_6_st hF hK (fun x hx => (hX _ hx))) n s e hF hX0
def p_220 (h : Hp) (x1 : Int32) : Option (Int32 × Hp) :=
  w_lp (fun (s : Int32 × Int32 × Hp) => l_220_6 x1 s.1 s.2.1 s.2.2) w_N ((-1), (4 * x1), h)
theorem p_220_ok {X : List Int32}  {h : Hp} {x1 : Int32}  {r : Int32 × Hp} (hF : p_220 h x1 = some r) : k_Ev X 6 220 [.ref (1076 + 1), .int x1] h (.inl (some (.int r.1)), r.2) := by
  refine k_of hk_220 ?_
  show k_Go X 6 220 (0, [.ref (1076 + 1), .int x1, (.retAddr 0), (.retAddr 0), (.retAddr 0)], []) h _
  unfold p_220 at hF
  refine kg_push (x := (-1)) hk_220 rfl (by decide) rfl ?_
  refine kg_istore (L2 := [.ref (1076 + 1), .int x1, .int (-1), (.retAddr 0), (.retAddr 0)]) hk_220 rfl (Nat.le_of_ble_eq_true rfl) rfl rfl ?_
  refine kg_push (x := 4) hk_220 rfl (by decide) rfl ?_
  refine kg_iload hk_220 rfl rfl rfl ?_
  refine kg_bin (z := (4 * x1)) hk_220 rfl rfl rfl ?_
  refine kg_istore (L2 := [.ref (1076 + 1), .int x1, .int (-1), .int (4 * x1), (.retAddr 0)]) hk_220 rfl (Nat.le_of_ble_eq_true rfl) rfl rfl ?_
  exact l_220_6_ok hF rfl _
-- NotebookWeirModel.keepsText(I[II)V
theorem hk_215 : jP[215]? = some (jc_215, 5, [], []) := by rfl
def l_215_2 (x1 : Int32) (q2 : Nat) (x3 : Int32) (x4 : Int32) (h : Hp) : Option ((Int32 × Hp) ⊕ Hp) :=
  w_gd (w_ix x1 16) <|
  if x4 < (h 1080 x1.toNatClampNeg) then
    (w_gd (w_ix ((40 * x1) + x4) 640) <|
    w_gd (w_ix (x3 + x4) (w_len q2)) <|
    w_let (w_up h q2 ((x3 + x4).toNatClampNeg) (h 1079 ((40 * x1) + x4).toNatClampNeg)) fun h5 =>
    some (.inl ((x4 + 1), h5)))
  else
    (some (.inr h))
theorem l_215_2_st {X : List Int32} {o : kO}  {h : Hp} {q2 : Nat} {x1 : Int32} {x3 : Int32} {x4 : Int32} (t2 : w_tab[q2]? = some (50, (w_len q2), [])) {r : (Int32 × Hp) ⊕ Hp} (hF : l_215_2 x1 q2 x3 x4 h = some r) (hK : ∀ s' : Int32 × Hp, r = .inl s' → k_Go X 0 215 (2, [.ref (1076 + 1), .int x1, .ref (q2 + 1), .int x3, .int (s'.1)], []) s'.2 o) (hX0 : ∀ e : Hp, r = .inr e → (.inl none, e) = o) : k_Go X 0 215 (2, [.ref (1076 + 1), .int x1, .ref (q2 + 1), .int x3, .int x4], []) h o := by
  refine kg_iload hk_215 rfl rfl rfl ?_
  refine kg_aload hk_215 rfl rfl rfl ?_
  refine kg_get (v := .ref (1080 + 1)) hk_215 rfl wk_1076_4 rfl rfl ?_
  refine kg_iload hk_215 rfl rfl rfl ?_
  refine wf_gd hF (fun g1 hF => ?_)
  refine kg_ald (y := (h 1080 x1.toNatClampNeg)) hk_215 rfl wc_1080 g1 rfl rfl ?_
  refine wf_if hF (fun c2 hF => ?_) (fun c2 hF => ?_)
  · refine kg_icF hk_215 rfl (jc_F3 c2) rfl ?_
    refine kg_aload hk_215 rfl rfl rfl ?_
    refine kg_iload hk_215 rfl rfl rfl ?_
    refine kg_iload hk_215 rfl rfl rfl ?_
    refine kg_bin (z := (x3 + x4)) hk_215 rfl rfl rfl ?_
    refine kg_aload hk_215 rfl rfl rfl ?_
    refine kg_get (v := .ref (1079 + 1)) hk_215 rfl wk_1076_3 rfl rfl ?_
    refine kg_push (x := 40) hk_215 rfl (by decide) rfl ?_
    refine kg_iload hk_215 rfl rfl rfl ?_
    refine kg_bin (z := (40 * x1)) hk_215 rfl rfl rfl ?_
    refine kg_iload hk_215 rfl rfl rfl ?_
    refine kg_bin (z := ((40 * x1) + x4)) hk_215 rfl rfl rfl ?_
    refine wf_gd hF (fun g3 hF => ?_)
    refine kg_ald (y := (h 1079 ((40 * x1) + x4).toNatClampNeg)) hk_215 rfl wc_1079 g3 rfl rfl ?_
    refine wf_gd hF (fun g4 hF => ?_)
    refine wf_let hF (fun h5 hh5 hF => ?_)
    refine kg_ast hk_215 rfl t2 g4 (by rw [j_nar50]; exact hh5) rfl ?_
    refine kg_iinc (y := (x4 + 1)) (L2 := [.ref (1076 + 1), .int x1, .ref (q2 + 1), .int x3, .int (x4 + 1)]) hk_215 rfl rfl rfl rfl rfl ?_
    refine kg_goto hk_215 rfl ?_
    have hF := Option.some.inj hF
    exact hK _ hF.symm
  · refine kg_icT hk_215 rfl (jc_T3 c2) ?_
    have hF := Option.some.inj hF
    exact kg_ret hk_215 rfl (hX0 _ hF.symm)
theorem l_215_2_ok {X : List Int32} {o : kO}  {q2 : Nat} {x1 : Int32} {x3 : Int32} (t2 : w_tab[q2]? = some (50, (w_len q2), [])) {n : Nat} {s : Int32 × Hp} {e : Hp} (hF : w_lp (fun (s : Int32 × Hp) => l_215_2 x1 q2 x3 s.1 s.2) n s = some e) (hX0 : (.inl none, e) = o) : k_Go X 0 215 (2, [.ref (1076 + 1), .int x1, .ref (q2 + 1), .int x3, .int s.1], []) s.2 o := by
  exact w_lp_ok (P := (fun (s : Int32 × Hp) => k_Go X 0 215 (2, [.ref (1076 + 1), .int x1, .ref (q2 + 1), .int x3, .int s.1], []) s.2 o)) (Q := (fun (e : Hp) => ((.inl none, e) = o))) (fun s r hF hK hX => l_215_2_st t2 hF hK (fun x hx => (hX _ hx))) n s e hF hX0
def p_215 (h : Hp) (x1 : Int32) (q2 : Nat) (x3 : Int32) : Option (Hp) :=
  w_lp (fun (s : Int32 × Hp) => l_215_2 x1 q2 x3 s.1 s.2) w_N (0, h)
theorem p_215_ok {X : List Int32}  {h : Hp} {x1 : Int32} {q2 : Nat} {x3 : Int32} (t2 : w_tab[q2]? = some (50, w_len q2, [])) {r : Hp} (hF : p_215 h x1 q2 x3 = some r) : k_Ev X 0 215 [.ref (1076 + 1), .int x1, .ref (q2 + 1), .int x3] h (.inl none, r) := by
  refine k_of hk_215 ?_
  show k_Go X 0 215 (0, [.ref (1076 + 1), .int x1, .ref (q2 + 1), .int x3, (.retAddr 0)], []) h _
  unfold p_215 at hF
  refine kg_push (x := 0) hk_215 rfl (by decide) rfl ?_
  refine kg_istore (L2 := [.ref (1076 + 1), .int x1, .ref (q2 + 1), .int x3, .int 0]) hk_215 rfl (Nat.le_of_ble_eq_true rfl) rfl rfl ?_
  exact l_215_2_ok t2 hF rfl
-- NotebookWeirModel.fails(II)V
theorem hk_195 : jP[195]? = some (jc_195, 3, [], []) := by rfl
def q_195_8 (h : Hp) (x1 : Int32) (x2 : Int32) (s0 : Int32) : Option (Hp) :=
  w_let (w_up h 1076 75 s0) fun h2 =>
  w_let (w_up h2 1076 76 (if (h2 1076 75) = x1 then (if (h2 1076 76) < 0 then x2 else (h2 1076 76)) else (h2 1076 76))) fun h5 =>
  some h5
theorem q_195_8_ok {X : List Int32}   {h : Hp} {s0 : Int32} {x1 : Int32} {x2 : Int32}  {r : Hp} (hF : q_195_8 h x1 x2 s0 = some r)  : k_Go X 0 195 (8, [.ref (1076 + 1), .int x1, .int x2], [.int s0, .ref (1076 + 1)]) h (.inl none, r) := by
  unfold q_195_8 at hF
  refine wf_let hF (fun h2 hh2 hF => ?_)
  refine kg_put hk_195 rfl wk_1076_75 rfl rfl hh2 rfl ?_
  refine kg_aload hk_195 rfl rfl rfl ?_
  refine kg_aload hk_195 rfl rfl rfl ?_
  refine kg_get (v := .int (h2 1076 75)) hk_195 rfl wk_1076_75 rfl rfl ?_
  refine kg_iload hk_195 rfl rfl rfl ?_
  refine kv_mid (p := 21) (L := [.ref (1076 + 1), .int x1, .int x2]) (S := [.int (if (h2 1076 75) = x1 then (if (h2 1076 76) < 0 then x2 else (h2 1076 76)) else (h2 1076 76)), .ref (1076 + 1)]) ?_ (fun hK => ?_)
  · refine wf_let hF (fun h5 hh5 hF => ?_)
    refine kg_put hk_195 rfl wk_1076_76 rfl rfl hh5 rfl ?_
    have hF := Option.some.inj hF
    subst hF
    exact kg_ret hk_195 rfl rfl
  · by_cases c3 : (h2 1076 75) = x1
    · have hK := kv_T c3 hK
      refine kg_icF hk_195 rfl (jc_F1 c3) rfl ?_
      refine kg_aload hk_195 rfl rfl rfl ?_
      refine kg_get (v := .int (h2 1076 76)) hk_195 rfl wk_1076_76 rfl rfl ?_
      by_cases c4 : (h2 1076 76) < 0
      · have hK := kv_T c4 hK
        refine kg_ifF hk_195 rfl (jc_F3 c4) rfl ?_
        refine kg_iload hk_195 rfl rfl rfl ?_
        refine kg_goto hk_195 rfl ?_
        exact hK
      · have hK := kv_F c4 hK
        refine kg_ifT hk_195 rfl (jc_T3 c4) ?_
        refine kg_aload hk_195 rfl rfl rfl ?_
        refine kg_get (v := .int (h2 1076 76)) hk_195 rfl wk_1076_76 rfl rfl ?_
        exact hK
    · have hK := kv_F c3 hK
      refine kg_icT hk_195 rfl (jc_T1 c3) ?_
      refine kg_aload hk_195 rfl rfl rfl ?_
      refine kg_get (v := .int (h2 1076 76)) hk_195 rfl wk_1076_76 rfl rfl ?_
      exact hK
def p_195 (h : Hp) (x1 : Int32) (x2 : Int32) : Option (Hp) :=
  q_195_8 h x1 x2 (if (h 1076 75) = 0 then x1 else (h 1076 75))
theorem p_195_ok {X : List Int32}  {h : Hp} {x1 : Int32} {x2 : Int32}  {r : Hp} (hF : p_195 h x1 x2 = some r) : k_Ev X 0 195 [.ref (1076 + 1), .int x1, .int x2] h (.inl none, r) := by
  refine k_of hk_195 ?_
  show k_Go X 0 195 (0, [.ref (1076 + 1), .int x1, .int x2], []) h _
  unfold p_195 at hF
  refine kg_aload hk_195 rfl rfl rfl ?_
  refine kg_aload hk_195 rfl rfl rfl ?_
  refine kg_get (v := .int (h 1076 75)) hk_195 rfl wk_1076_75 rfl rfl ?_
  refine kv_mid (p := 8) (L := [.ref (1076 + 1), .int x1, .int x2]) (S := [.int (if (h 1076 75) = 0 then x1 else (h 1076 75)), .ref (1076 + 1)]) ?_ (fun hK => ?_)
  · exact q_195_8_ok hF
  · by_cases c1 : (h 1076 75) = 0
    · have hK := kv_T c1 hK
      refine kg_ifF hk_195 rfl (jc_F1 c1) rfl ?_
      refine kg_iload hk_195 rfl rfl rfl ?_
      refine kg_goto hk_195 rfl ?_
      exact hK
    · have hK := kv_F c1 hK
      refine kg_ifT hk_195 rfl (jc_T1 c1) ?_
      refine kg_aload hk_195 rfl rfl rfl ?_
      refine kg_get (v := .int (h 1076 75)) hk_195 rfl wk_1076_75 rfl rfl ?_
      exact hK
