/-! ===== the methods as functions over the flat heap, and that the interpreter does what they say (printed by wip/whole/dec.py) ===== -/
-- NotebookWeirModel.own(I)I
theorem hk_187 : jP[187]? = some (jc_187, 4, [], []) := by rfl
def l_187_29 (h : Hp) (x1 : Int32) (x2 : Int32) (x3 : Int32) : Option ((Int32 × Int32) ⊕ Int32) :=
  if x3 < (h 1076 2) then
    (w_gd ((if x2 = 0 then true else (w_ix x1 16) && ((if (((h 1120 x1.toNatClampNeg) >>> (x3 &&& 31)) &&& 1) = 0 then true else (w_ix x3 16) && (w_ix x1 16))))) <|
    some (.inl ((if x2 = 0 then 0 else (if (((h 1120 x1.toNatClampNeg) >>> (x3 &&& 31)) &&& 1) = 0 then 1 else (if (h 1088 x3.toNatClampNeg) < (h 1088 x1.toNatClampNeg) then 1 else 0 : Int32) : Int32) : Int32), (x3 + 1))))
  else
    (some (.inr x2))
theorem l_187_29_st {X : List Int32} {o : kO}  {h : Hp} {x1 : Int32} {x2 : Int32} {x3 : Int32}  {r : (Int32 × Int32) ⊕ Int32} (hF : l_187_29 h x1 x2 x3 = some r) (hK : ∀ s' : Int32 × Int32, r = .inl s' → k_Go X 0 187 (29, [.ref (1076 + 1), .int x1, .int (s'.1), .int (s'.2)], []) h o) (hX0 : ∀ e : Int32, r = .inr e → ∀ (u3 : Value), k_Go X 0 187 (59, [.ref (1076 + 1), .int x1, .int e, u3], []) h o) : k_Go X 0 187 (29, [.ref (1076 + 1), .int x1, .int x2, .int x3], []) h o := by
  refine kg_iload hk_187 rfl rfl rfl ?_
  refine kg_aload hk_187 rfl rfl rfl ?_
  refine kg_get (v := .int (h 1076 2)) hk_187 rfl wk_1076_2 rfl rfl ?_
  refine wf_if hF (fun cz10 hF => ?_) (fun cz10 hF => ?_)
  · refine kg_icF hk_187 rfl (jc_F3 cz10) rfl ?_
    refine kg_iload hk_187 rfl rfl rfl ?_
    refine wf_gd hF (fun gz17 hF => ?_)
    refine kv_mid (p := 56) (L := [.ref (1076 + 1), .int x1, .int x2, .int x3]) (S := [.int (if x2 = 0 then 0 else (if (((h 1120 x1.toNatClampNeg) >>> (x3 &&& 31)) &&& 1) = 0 then 1 else (if (h 1088 x3.toNatClampNeg) < (h 1088 x1.toNatClampNeg) then 1 else 0 : Int32) : Int32) : Int32)]) ?_ (fun hK => ?_)
    · refine kg_istore (L2 := [.ref (1076 + 1), .int x1, .int (if x2 = 0 then 0 else (if (((h 1120 x1.toNatClampNeg) >>> (x3 &&& 31)) &&& 1) = 0 then 1 else (if (h 1088 x3.toNatClampNeg) < (h 1088 x1.toNatClampNeg) then 1 else 0 : Int32) : Int32) : Int32), .int x3]) hk_187 rfl (Nat.le_of_ble_eq_true rfl) rfl rfl ?_
      refine kg_iinc (y := (x3 + 1)) (L2 := [.ref (1076 + 1), .int x1, .int (if x2 = 0 then 0 else (if (((h 1120 x1.toNatClampNeg) >>> (x3 &&& 31)) &&& 1) = 0 then 1 else (if (h 1088 x3.toNatClampNeg) < (h 1088 x1.toNatClampNeg) then 1 else 0 : Int32) : Int32) : Int32), .int (x3 + 1)]) hk_187 rfl rfl rfl rfl rfl ?_
      refine kg_goto hk_187 rfl ?_
      have hF := Option.some.inj hF
      exact hK _ hF.symm
    · have hg := gz17
      by_cases cz11 : x2 = 0
      · have hK := kv_T cz11 hK
        refine kg_ifT hk_187 rfl (jc_T0 cz11) ?_
        refine kg_push (x := 0) hk_187 rfl (by decide) rfl ?_
        exact hK
      · have hg := wv_F cz11 hg
        have hK := kv_F cz11 hK
        have gz12 := wb_1 hg
        have hg := wb_2 hg
        refine kg_ifF hk_187 rfl (jc_F0 cz11) rfl ?_
        refine kg_aload hk_187 rfl rfl rfl ?_
        refine kg_get (v := .ref (1120 + 1)) hk_187 rfl wk_1076_57 rfl rfl ?_
        refine kg_iload hk_187 rfl rfl rfl ?_
        refine kg_ald (y := (h 1120 x1.toNatClampNeg)) hk_187 rfl wc_1120 gz12 rfl rfl ?_
        refine kg_iload hk_187 rfl rfl rfl ?_
        refine kg_bin (z := ((h 1120 x1.toNatClampNeg) >>> (x3 &&& 31))) hk_187 rfl rfl rfl ?_
        refine kg_push (x := 1) hk_187 rfl (by decide) rfl ?_
        refine kg_bin (z := (((h 1120 x1.toNatClampNeg) >>> (x3 &&& 31)) &&& 1)) hk_187 rfl rfl rfl ?_
        by_cases cz13 : (((h 1120 x1.toNatClampNeg) >>> (x3 &&& 31)) &&& 1) = 0
        · have hK := kv_T cz13 hK
          refine kg_ifT hk_187 rfl (jc_T0 cz13) ?_
          refine kg_push (x := 1) hk_187 rfl (by decide) rfl ?_
          refine kg_goto hk_187 rfl ?_
          exact hK
        · have hg := wv_F cz13 hg
          have hK := kv_F cz13 hK
          have gz14 := wb_1 hg
          have hg := wb_2 hg
          have gz15 := hg
          refine kg_ifF hk_187 rfl (jc_F0 cz13) rfl ?_
          refine kg_aload hk_187 rfl rfl rfl ?_
          refine kg_get (v := .ref (1088 + 1)) hk_187 rfl wk_1076_12 rfl rfl ?_
          refine kg_iload hk_187 rfl rfl rfl ?_
          refine kg_ald (y := (h 1088 x3.toNatClampNeg)) hk_187 rfl wc_1088 gz14 rfl rfl ?_
          refine kg_aload hk_187 rfl rfl rfl ?_
          refine kg_get (v := .ref (1088 + 1)) hk_187 rfl wk_1076_12 rfl rfl ?_
          refine kg_iload hk_187 rfl rfl rfl ?_
          refine kg_ald (y := (h 1088 x1.toNatClampNeg)) hk_187 rfl wc_1088 gz15 rfl rfl ?_
          by_cases cz16 : (h 1088 x3.toNatClampNeg) < (h 1088 x1.toNatClampNeg)
          · have hK := kv_T cz16 hK
            refine kg_icF hk_187 rfl (jc_F3 cz16) rfl ?_
            refine kg_push (x := 1) hk_187 rfl (by decide) rfl ?_
            refine kg_goto hk_187 rfl ?_
            exact hK
          · have hK := kv_F cz16 hK
            refine kg_icT hk_187 rfl (jc_T3 cz16) ?_
            refine kg_push (x := 0) hk_187 rfl (by decide) rfl ?_
            exact hK
  · refine kg_icT hk_187 rfl (jc_T3 cz10) ?_
    have hF := Option.some.inj hF
    exact hX0 _ hF.symm _
theorem l_187_29_ok {X : List Int32} {o : kO}  {h : Hp} {x1 : Int32}  {n : Nat} {s : Int32 × Int32} {e : Int32} (hF : w_lp (fun (s : Int32 × Int32) => l_187_29 h x1 s.1 s.2) n s = some e) (hX0 : ∀ (u3 : Value), k_Go X 0 187 (59, [.ref (1076 + 1), .int x1, .int e, u3], []) h o) : k_Go X 0 187 (29, [.ref (1076 + 1), .int x1, .int s.1, .int s.2], []) h o := by
  exact w_lp_ok (P := (fun (s : Int32 × Int32) => k_Go X 0 187 (29, [.ref (1076 + 1), .int x1, .int s.1, .int s.2], []) h o)) (Q := (fun (e : Int32) => (∀ (u3 : Value), k_Go X 0 187 (59, [.ref (1076 + 1), .int x1, .int e, u3], []) h o))) (fun s r hF hK hX => l_187_29_st hF hK (fun x hx => (hX _ hx))) n s e hF hX0
def l_187_61 (h : Hp) (x1 : Int32) (x2 : Int32) (x3 : Int32) : Option ((Int32 × Int32) ⊕ Int32) :=
  if x3 < (h 1076 48) then
    (w_gd ((if x2 = 0 then true else (w_ix x1 16) && ((if (((h 1120 x1.toNatClampNeg) >>> ((16 + x3) &&& 31)) &&& 1) = 0 then true else (w_ix ((4 * x1) + x3) 64) && (w_ix x3 4))))) <|
    some (.inl ((if x2 = 0 then 0 else (if (((h 1120 x1.toNatClampNeg) >>> ((16 + x3) &&& 31)) &&& 1) = 0 then 1 else (if (h 1091 ((4 * x1) + x3).toNatClampNeg) = (h 1115 x3.toNatClampNeg) then 1 else 0 : Int32) : Int32) : Int32), (x3 + 1))))
  else
    (some (.inr x2))
theorem l_187_61_st {X : List Int32} {o : kO}  {h : Hp} {x1 : Int32} {x2 : Int32} {x3 : Int32}  {r : (Int32 × Int32) ⊕ Int32} (hF : l_187_61 h x1 x2 x3 = some r) (hK : ∀ s' : Int32 × Int32, r = .inl s' → k_Go X 0 187 (61, [.ref (1076 + 1), .int x1, .int (s'.1), .int (s'.2)], []) h o) (hX0 : ∀ e : Int32, r = .inr e → ∀ (u3 : Value), k_Go X 0 187 (97, [.ref (1076 + 1), .int x1, .int e, u3], []) h o) : k_Go X 0 187 (61, [.ref (1076 + 1), .int x1, .int x2, .int x3], []) h o := by
  refine kg_iload hk_187 rfl rfl rfl ?_
  refine kg_aload hk_187 rfl rfl rfl ?_
  refine kg_get (v := .int (h 1076 48)) hk_187 rfl wk_1076_48 rfl rfl ?_
  refine wf_if hF (fun cz19 hF => ?_) (fun cz19 hF => ?_)
  · refine kg_icF hk_187 rfl (jc_F3 cz19) rfl ?_
    refine kg_iload hk_187 rfl rfl rfl ?_
    refine wf_gd hF (fun gz26 hF => ?_)
    refine kv_mid (p := 94) (L := [.ref (1076 + 1), .int x1, .int x2, .int x3]) (S := [.int (if x2 = 0 then 0 else (if (((h 1120 x1.toNatClampNeg) >>> ((16 + x3) &&& 31)) &&& 1) = 0 then 1 else (if (h 1091 ((4 * x1) + x3).toNatClampNeg) = (h 1115 x3.toNatClampNeg) then 1 else 0 : Int32) : Int32) : Int32)]) ?_ (fun hK => ?_)
    · refine kg_istore (L2 := [.ref (1076 + 1), .int x1, .int (if x2 = 0 then 0 else (if (((h 1120 x1.toNatClampNeg) >>> ((16 + x3) &&& 31)) &&& 1) = 0 then 1 else (if (h 1091 ((4 * x1) + x3).toNatClampNeg) = (h 1115 x3.toNatClampNeg) then 1 else 0 : Int32) : Int32) : Int32), .int x3]) hk_187 rfl (Nat.le_of_ble_eq_true rfl) rfl rfl ?_
      refine kg_iinc (y := (x3 + 1)) (L2 := [.ref (1076 + 1), .int x1, .int (if x2 = 0 then 0 else (if (((h 1120 x1.toNatClampNeg) >>> ((16 + x3) &&& 31)) &&& 1) = 0 then 1 else (if (h 1091 ((4 * x1) + x3).toNatClampNeg) = (h 1115 x3.toNatClampNeg) then 1 else 0 : Int32) : Int32) : Int32), .int (x3 + 1)]) hk_187 rfl rfl rfl rfl rfl ?_
      refine kg_goto hk_187 rfl ?_
      have hF := Option.some.inj hF
      exact hK _ hF.symm
    · have hg := gz26
      by_cases cz20 : x2 = 0
      · have hK := kv_T cz20 hK
        refine kg_ifT hk_187 rfl (jc_T0 cz20) ?_
        refine kg_push (x := 0) hk_187 rfl (by decide) rfl ?_
        exact hK
      · have hg := wv_F cz20 hg
        have hK := kv_F cz20 hK
        have gz21 := wb_1 hg
        have hg := wb_2 hg
        refine kg_ifF hk_187 rfl (jc_F0 cz20) rfl ?_
        refine kg_aload hk_187 rfl rfl rfl ?_
        refine kg_get (v := .ref (1120 + 1)) hk_187 rfl wk_1076_57 rfl rfl ?_
        refine kg_iload hk_187 rfl rfl rfl ?_
        refine kg_ald (y := (h 1120 x1.toNatClampNeg)) hk_187 rfl wc_1120 gz21 rfl rfl ?_
        refine kg_push (x := 16) hk_187 rfl (by decide) rfl ?_
        refine kg_iload hk_187 rfl rfl rfl ?_
        refine kg_bin (z := (16 + x3)) hk_187 rfl rfl rfl ?_
        refine kg_bin (z := ((h 1120 x1.toNatClampNeg) >>> ((16 + x3) &&& 31))) hk_187 rfl rfl rfl ?_
        refine kg_push (x := 1) hk_187 rfl (by decide) rfl ?_
        refine kg_bin (z := (((h 1120 x1.toNatClampNeg) >>> ((16 + x3) &&& 31)) &&& 1)) hk_187 rfl rfl rfl ?_
        by_cases cz22 : (((h 1120 x1.toNatClampNeg) >>> ((16 + x3) &&& 31)) &&& 1) = 0
        · have hK := kv_T cz22 hK
          refine kg_ifT hk_187 rfl (jc_T0 cz22) ?_
          refine kg_push (x := 1) hk_187 rfl (by decide) rfl ?_
          refine kg_goto hk_187 rfl ?_
          exact hK
        · have hg := wv_F cz22 hg
          have hK := kv_F cz22 hK
          have gz23 := wb_1 hg
          have hg := wb_2 hg
          have gz24 := hg
          refine kg_ifF hk_187 rfl (jc_F0 cz22) rfl ?_
          refine kg_aload hk_187 rfl rfl rfl ?_
          refine kg_get (v := .ref (1091 + 1)) hk_187 rfl wk_1076_15 rfl rfl ?_
          refine kg_push (x := 4) hk_187 rfl (by decide) rfl ?_
          refine kg_iload hk_187 rfl rfl rfl ?_
          refine kg_bin (z := (4 * x1)) hk_187 rfl rfl rfl ?_
          refine kg_iload hk_187 rfl rfl rfl ?_
          refine kg_bin (z := ((4 * x1) + x3)) hk_187 rfl rfl rfl ?_
          refine kg_ald (y := (h 1091 ((4 * x1) + x3).toNatClampNeg)) hk_187 rfl wc_1091 gz23 rfl rfl ?_
          refine kg_aload hk_187 rfl rfl rfl ?_
          refine kg_get (v := .ref (1115 + 1)) hk_187 rfl wk_1076_52 rfl rfl ?_
          refine kg_iload hk_187 rfl rfl rfl ?_
          refine kg_ald (y := (h 1115 x3.toNatClampNeg)) hk_187 rfl wc_1115 gz24 rfl rfl ?_
          by_cases cz25 : (h 1091 ((4 * x1) + x3).toNatClampNeg) = (h 1115 x3.toNatClampNeg)
          · have hK := kv_T cz25 hK
            refine kg_icF hk_187 rfl (jc_F1 cz25) rfl ?_
            refine kg_push (x := 1) hk_187 rfl (by decide) rfl ?_
            refine kg_goto hk_187 rfl ?_
            exact hK
          · have hK := kv_F cz25 hK
            refine kg_icT hk_187 rfl (jc_T1 cz25) ?_
            refine kg_push (x := 0) hk_187 rfl (by decide) rfl ?_
            exact hK
  · refine kg_icT hk_187 rfl (jc_T3 cz19) ?_
    have hF := Option.some.inj hF
    exact hX0 _ hF.symm _
theorem l_187_61_ok {X : List Int32} {o : kO}  {h : Hp} {x1 : Int32}  {n : Nat} {s : Int32 × Int32} {e : Int32} (hF : w_lp (fun (s : Int32 × Int32) => l_187_61 h x1 s.1 s.2) n s = some e) (hX0 : ∀ (u3 : Value), k_Go X 0 187 (97, [.ref (1076 + 1), .int x1, .int e, u3], []) h o) : k_Go X 0 187 (61, [.ref (1076 + 1), .int x1, .int s.1, .int s.2], []) h o := by
  exact w_lp_ok (P := (fun (s : Int32 × Int32) => k_Go X 0 187 (61, [.ref (1076 + 1), .int x1, .int s.1, .int s.2], []) h o)) (Q := (fun (e : Int32) => (∀ (u3 : Value), k_Go X 0 187 (97, [.ref (1076 + 1), .int x1, .int e, u3], []) h o))) (fun s r hF hK hX => l_187_61_st hF hK (fun x hx => (hX _ hx))) n s e hF hX0
def q_187_26 (h : Hp) (x1 : Int32) (s0 : Int32) : Option (Int32) :=
  (w_lp (fun (s : Int32 × Int32) => l_187_29 h x1 s.1 s.2) w_N (s0, 0)).bind fun ez18 =>
  (w_lp (fun (s : Int32 × Int32) => l_187_61 h x1 s.1 s.2) w_N (ez18, 0)).bind fun ez27 =>
  w_gd ((if ez27 = 0 then true else w_ix x1 16)) <|
  some (if ez27 = 0 then 1 else (if (h 1087 x1.toNatClampNeg) = 1 then 0 else 2 : Int32) : Int32)
theorem q_187_26_ok {X : List Int32}   {h : Hp} {s0 : Int32} {x1 : Int32}  {r : Int32} (hF : q_187_26 h x1 s0 = some r)  : ∀ (u2 : Value) (u3 : Value), k_Go X 0 187 (26, [.ref (1076 + 1), .int x1, u2, u3], [.int s0]) h (.inl (some (.int r)), h) := by
  intro u2 u3
  unfold q_187_26 at hF
  refine kg_istore (L2 := [.ref (1076 + 1), .int x1, .int s0, u3]) hk_187 rfl (Nat.le_of_ble_eq_true rfl) rfl rfl ?_
  refine kg_push (x := 0) hk_187 rfl (by decide) rfl ?_
  refine kg_istore (L2 := [.ref (1076 + 1), .int x1, .int s0, .int 0]) hk_187 rfl (Nat.le_of_ble_eq_true rfl) rfl rfl ?_
  refine wf_bind hF (fun ez18 hez18 hF => ?_)
  refine l_187_29_ok hez18 ?_
  intro u3
  refine kg_push (x := 0) hk_187 rfl (by decide) rfl ?_
  refine kg_istore (L2 := [.ref (1076 + 1), .int x1, .int ez18, .int 0]) hk_187 rfl (Nat.le_of_ble_eq_true rfl) rfl rfl ?_
  refine wf_bind hF (fun ez27 hez27 hF => ?_)
  refine l_187_61_ok hez27 ?_
  intro u3
  refine kg_iload hk_187 rfl rfl rfl ?_
  refine wf_gd hF (fun gz31 hF => ?_)
  refine kv_mid (p := 110) (L := [.ref (1076 + 1), .int x1, .int ez27, u3]) (S := [.int (if ez27 = 0 then 1 else (if (h 1087 x1.toNatClampNeg) = 1 then 0 else 2 : Int32) : Int32)]) ?_ (fun hK => ?_)
  · have hF := Option.some.inj hF
    subst hF
    exact kg_iret hk_187 rfl (Or.inl rfl) rfl
  · have hg := gz31
    by_cases cz28 : ez27 = 0
    · have hK := kv_T cz28 hK
      refine kg_ifF hk_187 rfl (jc_F1 cz28) rfl ?_
      refine kg_push (x := 1) hk_187 rfl (by decide) rfl ?_
      refine kg_goto hk_187 rfl ?_
      exact hK
    · have hg := wv_F cz28 hg
      have hK := kv_F cz28 hK
      have gz29 := hg
      refine kg_ifT hk_187 rfl (jc_T1 cz28) ?_
      refine kg_aload hk_187 rfl rfl rfl ?_
      refine kg_get (v := .ref (1087 + 1)) hk_187 rfl wk_1076_11 rfl rfl ?_
      refine kg_iload hk_187 rfl rfl rfl ?_
      refine kg_ald (y := (h 1087 x1.toNatClampNeg)) hk_187 rfl wc_1087 gz29 rfl rfl ?_
      refine kg_push (x := 1) hk_187 rfl (by decide) rfl ?_
      by_cases cz30 : (h 1087 x1.toNatClampNeg) = 1
      · have hK := kv_T cz30 hK
        refine kg_icF hk_187 rfl (jc_F1 cz30) rfl ?_
        refine kg_push (x := 0) hk_187 rfl (by decide) rfl ?_
        refine kg_goto hk_187 rfl ?_
        exact hK
      · have hK := kv_F cz30 hK
        refine kg_icT hk_187 rfl (jc_T1 cz30) ?_
        refine kg_push (x := 2) hk_187 rfl (by decide) rfl ?_
        exact hK
def p_187 (h : Hp) (x1 : Int32) : Option (Int32) :=
  w_gd (w_ix x1 16) <|
  w_gd ((if (h 1087 x1.toNatClampNeg) ≤ 0 then true else (w_ix x1 16) && ((w_ix x1 16) && ((if (h 1089 x1.toNatClampNeg) = (h 1082 x1.toNatClampNeg) then (w_ix x1 16) && (w_ix x1 16) else true))))) <|
  q_187_26 h x1 (if (h 1087 x1.toNatClampNeg) ≤ 0 then 0 else (if (h 1089 x1.toNatClampNeg) = (h 1082 x1.toNatClampNeg) then (if (h 1090 x1.toNatClampNeg) = (h 1120 x1.toNatClampNeg) then 1 else 0 : Int32) else 0 : Int32) : Int32)
theorem p_187_ok {X : List Int32}  {h : Hp} {x1 : Int32}  {r : Int32} (hF : p_187 h x1 = some r) : k_Ev X 0 187 [.ref (1076 + 1), .int x1] h (.inl (some (.int r)), h) := by
  refine k_of hk_187 ?_
  show k_Go X 0 187 (0, [.ref (1076 + 1), .int x1, (.retAddr 0), (.retAddr 0)], []) h _
  unfold p_187 at hF
  refine kg_aload hk_187 rfl rfl rfl ?_
  refine kg_get (v := .ref (1087 + 1)) hk_187 rfl wk_1076_11 rfl rfl ?_
  refine kg_iload hk_187 rfl rfl rfl ?_
  refine wf_gd hF (fun gz1 hF => ?_)
  refine kg_ald (y := (h 1087 x1.toNatClampNeg)) hk_187 rfl wc_1087 gz1 rfl rfl ?_
  refine wf_gd hF (fun gz9 hF => ?_)
  refine kv_mid (p := 26) (L := [.ref (1076 + 1), .int x1, (.retAddr 0), (.retAddr 0)]) (S := [.int (if (h 1087 x1.toNatClampNeg) ≤ 0 then 0 else (if (h 1089 x1.toNatClampNeg) = (h 1082 x1.toNatClampNeg) then (if (h 1090 x1.toNatClampNeg) = (h 1120 x1.toNatClampNeg) then 1 else 0 : Int32) else 0 : Int32) : Int32)]) ?_ (fun hK => ?_)
  · exact q_187_26_ok hF _ _
  · have hg := gz9
    by_cases cz2 : (h 1087 x1.toNatClampNeg) ≤ 0
    · have hK := kv_T cz2 hK
      refine kg_ifT hk_187 rfl (jc_T5 cz2) ?_
      refine kg_push (x := 0) hk_187 rfl (by decide) rfl ?_
      exact hK
    · have hg := wv_F cz2 hg
      have hK := kv_F cz2 hK
      have gz3 := wb_1 hg
      have hg := wb_2 hg
      have gz4 := wb_1 hg
      have hg := wb_2 hg
      refine kg_ifF hk_187 rfl (jc_F5 cz2) rfl ?_
      refine kg_aload hk_187 rfl rfl rfl ?_
      refine kg_get (v := .ref (1089 + 1)) hk_187 rfl wk_1076_13 rfl rfl ?_
      refine kg_iload hk_187 rfl rfl rfl ?_
      refine kg_ald (y := (h 1089 x1.toNatClampNeg)) hk_187 rfl wc_1089 gz3 rfl rfl ?_
      refine kg_aload hk_187 rfl rfl rfl ?_
      refine kg_get (v := .ref (1082 + 1)) hk_187 rfl wk_1076_6 rfl rfl ?_
      refine kg_iload hk_187 rfl rfl rfl ?_
      refine kg_ald (y := (h 1082 x1.toNatClampNeg)) hk_187 rfl wc_1082 gz4 rfl rfl ?_
      by_cases cz5 : (h 1089 x1.toNatClampNeg) = (h 1082 x1.toNatClampNeg)
      · have hg := wv_T cz5 hg
        have hK := kv_T cz5 hK
        have gz6 := wb_1 hg
        have hg := wb_2 hg
        have gz7 := hg
        refine kg_icF hk_187 rfl (jc_F1 cz5) rfl ?_
        refine kg_aload hk_187 rfl rfl rfl ?_
        refine kg_get (v := .ref (1090 + 1)) hk_187 rfl wk_1076_14 rfl rfl ?_
        refine kg_iload hk_187 rfl rfl rfl ?_
        refine kg_ald (y := (h 1090 x1.toNatClampNeg)) hk_187 rfl wc_1090 gz6 rfl rfl ?_
        refine kg_aload hk_187 rfl rfl rfl ?_
        refine kg_get (v := .ref (1120 + 1)) hk_187 rfl wk_1076_57 rfl rfl ?_
        refine kg_iload hk_187 rfl rfl rfl ?_
        refine kg_ald (y := (h 1120 x1.toNatClampNeg)) hk_187 rfl wc_1120 gz7 rfl rfl ?_
        by_cases cz8 : (h 1090 x1.toNatClampNeg) = (h 1120 x1.toNatClampNeg)
        · have hK := kv_T cz8 hK
          refine kg_icF hk_187 rfl (jc_F1 cz8) rfl ?_
          refine kg_push (x := 1) hk_187 rfl (by decide) rfl ?_
          refine kg_goto hk_187 rfl ?_
          exact hK
        · have hK := kv_F cz8 hK
          refine kg_icT hk_187 rfl (jc_T1 cz8) ?_
          refine kg_push (x := 0) hk_187 rfl (by decide) rfl ?_
          exact hK
      · have hK := kv_F cz5 hK
        refine kg_icT hk_187 rfl (jc_T1 cz5) ?_
        refine kg_push (x := 0) hk_187 rfl (by decide) rfl ?_
        exact hK
-- NotebookWeirModel.looks()V
theorem hk_188 : jP[188]? = some (jc_188, 8, [], []) := by rfl
def q_188_26 (h : Hp) (x1 : Int32) (x2 : Int32) (s0 : Int32) (s1 : Int32) : Option ((Int32 × Int32 × Hp) ⊕ Int32 × Hp) :=
  w_gd (w_ix s1 16) <|
  w_let (w_up h 1122 s1.toNatClampNeg s0) fun hz8 =>
  w_gd (w_ix x2 16) <|
  some (.inl ((x1 ||| (if (hz8 1122 x2.toNatClampNeg) = (-1) then 0 else (1 <<< (x2 &&& 31)) : Int32)), (x2 + 1), hz8))
theorem q_188_26_ok {X : List Int32} {o : kO}  {h : Hp} {s0 : Int32} {s1 : Int32} {x1 : Int32} {x2 : Int32}  {r : (Int32 × Int32 × Hp) ⊕ Int32 × Hp} (hF : q_188_26 h x1 x2 s0 s1 = some r) (hK : ∀ s' : Int32 × Int32 × Hp, r = .inl s' → ∀ (u3 : Value) (u4 : Value) (u5 : Value) (u6 : Value) (u7 : Value), k_Go X 6 188 (6, [.ref (1076 + 1), .int (s'.1), .int (s'.2.1), u3, u4, u5, u6, u7], []) s'.2.2 o) (hX0 : ∀ e : Int32 × Hp, r = .inr e → ∀ (u2 : Value) (u3 : Value) (u4 : Value) (u5 : Value) (u6 : Value) (u7 : Value), k_Go X 6 188 (43, [.ref (1076 + 1), .int e.1, u2, u3, u4, u5, u6, u7], []) e.2 o) : ∀ (u3 : Value) (u4 : Value) (u5 : Value) (u6 : Value) (u7 : Value), k_Go X 6 188 (26, [.ref (1076 + 1), .int x1, .int x2, u3, u4, u5, u6, u7], [.int s0, .int s1, .ref (1122 + 1)]) h o := by
  intro u3 u4 u5 u6 u7
  unfold q_188_26 at hF
  refine wf_gd hF (fun gz7 hF => ?_)
  refine wf_let hF (fun hz8 hhz8 hF => ?_)
  refine kg_ast hk_188 rfl wc_1122 gz7 hhz8 rfl ?_
  refine kg_iload hk_188 rfl rfl rfl ?_
  refine kg_aload hk_188 rfl rfl rfl ?_
  refine kg_get (v := .ref (1122 + 1)) hk_188 rfl wk_1076_59 rfl rfl ?_
  refine kg_iload hk_188 rfl rfl rfl ?_
  refine wf_gd hF (fun gz9 hF => ?_)
  refine kg_ald (y := (hz8 1122 x2.toNatClampNeg)) hk_188 rfl wc_1122 gz9 rfl rfl ?_
  refine kg_push (x := (-1)) hk_188 rfl (by decide) rfl ?_
  refine kv_mid (p := 39) (L := [.ref (1076 + 1), .int x1, .int x2, u3, u4, u5, u6, u7]) (S := [.int (if (hz8 1122 x2.toNatClampNeg) = (-1) then 0 else (1 <<< (x2 &&& 31)) : Int32), .int x1]) ?_ (fun hK => ?_)
  · refine kg_bin (z := (x1 ||| (if (hz8 1122 x2.toNatClampNeg) = (-1) then 0 else (1 <<< (x2 &&& 31)) : Int32))) hk_188 rfl rfl rfl ?_
    refine kg_istore (L2 := [.ref (1076 + 1), .int (x1 ||| (if (hz8 1122 x2.toNatClampNeg) = (-1) then 0 else (1 <<< (x2 &&& 31)) : Int32)), .int x2, u3, u4, u5, u6, u7]) hk_188 rfl (Nat.le_of_ble_eq_true rfl) rfl rfl ?_
    refine kg_iinc (y := (x2 + 1)) (L2 := [.ref (1076 + 1), .int (x1 ||| (if (hz8 1122 x2.toNatClampNeg) = (-1) then 0 else (1 <<< (x2 &&& 31)) : Int32)), .int (x2 + 1), u3, u4, u5, u6, u7]) hk_188 rfl rfl rfl rfl rfl ?_
    refine kg_goto hk_188 rfl ?_
    have hF := Option.some.inj hF
    exact hK _ hF.symm _ _ _ _ _
  · by_cases cz10 : (hz8 1122 x2.toNatClampNeg) = (-1)
    · have hK := kv_T cz10 hK
      refine kg_icF hk_188 rfl (jc_F1 cz10) rfl ?_
      refine kg_push (x := 0) hk_188 rfl (by decide) rfl ?_
      refine kg_goto hk_188 rfl ?_
      exact hK
    · have hK := kv_F cz10 hK
      refine kg_icT hk_188 rfl (jc_T1 cz10) ?_
      refine kg_push (x := 1) hk_188 rfl (by decide) rfl ?_
      refine kg_iload hk_188 rfl rfl rfl ?_
      refine kg_bin (z := (1 <<< (x2 &&& 31))) hk_188 rfl rfl rfl ?_
      exact hK
def l_188_6 (x1 : Int32) (x2 : Int32) (h : Hp) : Option ((Int32 × Int32 × Hp) ⊕ Int32 × Hp) :=
  if x2 < (h 1076 2) then
    ((p_184 h x2).bind fun vz3 =>
    if vz3 = 0 then
      ((p_186 h x2).bind fun vz5 =>
      q_188_26 h x1 x2 (if vz5 = 0 then (-1) else 4 : Int32) x2)
    else
      (q_188_26 h x1 x2 5 x2))
  else
    (some (.inr (x1, h)))
theorem l_188_6_st {X : List Int32} {o : kO}  {h : Hp} {x1 : Int32} {x2 : Int32}  {r : (Int32 × Int32 × Hp) ⊕ Int32 × Hp} (hF : l_188_6 x1 x2 h = some r) (hK : ∀ s' : Int32 × Int32 × Hp, r = .inl s' → ∀ (u3 : Value) (u4 : Value) (u5 : Value) (u6 : Value) (u7 : Value), k_Go X 6 188 (6, [.ref (1076 + 1), .int (s'.1), .int (s'.2.1), u3, u4, u5, u6, u7], []) s'.2.2 o) (hX0 : ∀ e : Int32 × Hp, r = .inr e → ∀ (u2 : Value) (u3 : Value) (u4 : Value) (u5 : Value) (u6 : Value) (u7 : Value), k_Go X 6 188 (43, [.ref (1076 + 1), .int e.1, u2, u3, u4, u5, u6, u7], []) e.2 o) : ∀ (u3 : Value) (u4 : Value) (u5 : Value) (u6 : Value) (u7 : Value), k_Go X 6 188 (6, [.ref (1076 + 1), .int x1, .int x2, u3, u4, u5, u6, u7], []) h o := by
  intro u3 u4 u5 u6 u7
  refine kg_iload hk_188 rfl rfl rfl ?_
  refine kg_aload hk_188 rfl rfl rfl ?_
  refine kg_get (v := .int (h 1076 2)) hk_188 rfl wk_1076_2 rfl rfl ?_
  refine wf_if hF (fun cz2 hF => ?_) (fun cz2 hF => ?_)
  · refine kg_icF hk_188 rfl (jc_F3 cz2) rfl ?_
    refine kg_aload hk_188 rfl rfl rfl ?_
    refine kg_get (v := .ref (1122 + 1)) hk_188 rfl wk_1076_59 rfl rfl ?_
    refine kg_iload hk_188 rfl rfl rfl ?_
    refine kg_aload hk_188 rfl rfl rfl ?_
    refine kg_iload hk_188 rfl rfl rfl ?_
    refine wf_bind hF (fun vz3 hvz3 hF => ?_)
    refine kg_call (as := [.ref (1076 + 1), .int x2]) (rest := [.int x2, .ref (1122 + 1)]) hk_188 rfl (Or.inr (Or.inr (Or.inr ⟨Or.inl rfl, _, _, rfl, wc_1076⟩))) rfl rfl rfl (Nat.not_lt.mpr (Nat.le_of_ble_eq_true rfl)) (p_184_ok hvz3) (by decide) rfl ?_
    refine wf_if hF (fun cz4 hF => ?_) (fun cz4 hF => ?_)
    · refine kg_ifT hk_188 rfl (jc_T0 cz4) ?_
      refine kg_aload hk_188 rfl rfl rfl ?_
      refine kg_iload hk_188 rfl rfl rfl ?_
      refine wf_bind hF (fun vz5 hvz5 hF => ?_)
      refine kg_call (as := [.ref (1076 + 1), .int x2]) (rest := [.int x2, .ref (1122 + 1)]) hk_188 rfl (Or.inr (Or.inr (Or.inr ⟨Or.inl rfl, _, _, rfl, wc_1076⟩))) rfl rfl rfl (Nat.not_lt.mpr (Nat.le_of_ble_eq_true rfl)) (p_186_ok hvz5) (by decide) rfl ?_
      refine kv_mid (p := 26) (L := [.ref (1076 + 1), .int x1, .int x2, u3, u4, u5, u6, u7]) (S := [.int (if vz5 = 0 then (-1) else 4 : Int32), .int x2, .ref (1122 + 1)]) ?_ (fun hK => ?_)
      · exact q_188_26_ok hF hK hX0 _ _ _ _ _
      · by_cases cz6 : vz5 = 0
        · have hK := kv_T cz6 hK
          refine kg_ifT hk_188 rfl (jc_T0 cz6) ?_
          refine kg_push (x := (-1)) hk_188 rfl (by decide) rfl ?_
          exact hK
        · have hK := kv_F cz6 hK
          refine kg_ifF hk_188 rfl (jc_F0 cz6) rfl ?_
          refine kg_push (x := 4) hk_188 rfl (by decide) rfl ?_
          refine kg_goto hk_188 rfl ?_
          exact hK
    · refine kg_ifF hk_188 rfl (jc_F0 cz4) rfl ?_
      refine kg_push (x := 5) hk_188 rfl (by decide) rfl ?_
      refine kg_goto hk_188 rfl ?_
      exact q_188_26_ok hF hK hX0 _ _ _ _ _
  · refine kg_icT hk_188 rfl (jc_T3 cz2) ?_
    have hF := Option.some.inj hF
    exact hX0 _ hF.symm _ _ _ _ _ _
theorem l_188_6_ok {X : List Int32} {o : kO}    {n : Nat} {s : Int32 × Int32 × Hp} {e : Int32 × Hp} (hF : w_lp (fun (s : Int32 × Int32 × Hp) => l_188_6 s.1 s.2.1 s.2.2) n s = some e) (hX0 : ∀ (u2 : Value) (u3 : Value) (u4 : Value) (u5 : Value) (u6 : Value) (u7 : Value), k_Go X 6 188 (43, [.ref (1076 + 1), .int e.1, u2, u3, u4, u5, u6, u7], []) e.2 o) : ∀ (u3 : Value) (u4 : Value) (u5 : Value) (u6 : Value) (u7 : Value), k_Go X 6 188 (6, [.ref (1076 + 1), .int s.1, .int s.2.1, u3, u4, u5, u6, u7], []) s.2.2 o := by
  exact w_lp_ok (P := (fun (s : Int32 × Int32 × Hp) => ∀ (u3 : Value) (u4 : Value) (u5 : Value) (u6 : Value) (u7 : Value), k_Go X 6 188 (6, [.ref (1076 + 1), .int s.1, .int s.2.1, u3, u4, u5, u6, u7], []) s.2.2 o)) (Q := (fun (e : Int32 × Hp) => (∀ (u2 : Value) (u3 : Value) (u4 : Value) (u5 : Value) (u6 : Value) (u7 : Value), k_Go X 6 188 (43, [.ref (1076 + 1), .int e.1, u2, u3, u4, u5, u6, u7], []) e.2 o))) (fun s r hF hK hX => l_188_6_st hF hK (fun x hx => (hX _ hx))) n s e hF hX0
def q_188_109 (h : Hp) (x1 : Int32) (x3 : Int32) (x5 : Int32) (x6 : Int32) (x7 : Int32) (s0 : Int32) : Option ((Int32 × Int32 × Int32) ⊕ Int32 × Int32) :=
  w_gd ((if x5 = 0 then (if x7 = 0 then true else w_ix x6 16) else true)) <|
  some (.inl (s0, (if x5 = 0 then (if x7 = 0 then 0 else (if (h 1122 x6.toNatClampNeg) = 1 then 1 else 0 : Int32) : Int32) else 1 : Int32), (x6 + 1)))
theorem q_188_109_ok {X : List Int32} {o : kO}  {h : Hp} {s0 : Int32} {x1 : Int32} {x3 : Int32} {x5 : Int32} {x6 : Int32} {x7 : Int32}  {r : (Int32 × Int32 × Int32) ⊕ Int32 × Int32} (hF : q_188_109 h x1 x3 x5 x6 x7 s0 = some r) (hK : ∀ s' : Int32 × Int32 × Int32, r = .inl s' → ∀ (u2 : Value) (u7 : Value), k_Go X 6 188 (78, [.ref (1076 + 1), .int x1, u2, .int x3, .int (s'.1), .int (s'.2.1), .int (s'.2.2), u7], []) h o) (hX0 : ∀ e : Int32 × Int32, r = .inr e → ∀ (u2 : Value) (u6 : Value) (u7 : Value), k_Go X 6 188 (126, [.ref (1076 + 1), .int x1, u2, .int x3, .int e.1, .int e.2, u6, u7], []) h o) : ∀ (u2 : Value) (u4 : Value), k_Go X 6 188 (109, [.ref (1076 + 1), .int x1, u2, .int x3, u4, .int x5, .int x6, .int x7], [.int s0]) h o := by
  intro u2 u4
  unfold q_188_109 at hF
  refine kg_istore (L2 := [.ref (1076 + 1), .int x1, u2, .int x3, .int s0, .int x5, .int x6, .int x7]) hk_188 rfl (Nat.le_of_ble_eq_true rfl) rfl rfl ?_
  refine kg_iload hk_188 rfl rfl rfl ?_
  refine wf_gd hF (fun gz30 hF => ?_)
  refine kv_mid (p := 123) (L := [.ref (1076 + 1), .int x1, u2, .int x3, .int s0, .int x5, .int x6, .int x7]) (S := [.int (if x5 = 0 then (if x7 = 0 then 0 else (if (h 1122 x6.toNatClampNeg) = 1 then 1 else 0 : Int32) : Int32) else 1 : Int32)]) ?_ (fun hK => ?_)
  · refine kg_istore (L2 := [.ref (1076 + 1), .int x1, u2, .int x3, .int s0, .int (if x5 = 0 then (if x7 = 0 then 0 else (if (h 1122 x6.toNatClampNeg) = 1 then 1 else 0 : Int32) : Int32) else 1 : Int32), .int x6, .int x7]) hk_188 rfl (Nat.le_of_ble_eq_true rfl) rfl rfl ?_
    refine kg_iinc (y := (x6 + 1)) (L2 := [.ref (1076 + 1), .int x1, u2, .int x3, .int s0, .int (if x5 = 0 then (if x7 = 0 then 0 else (if (h 1122 x6.toNatClampNeg) = 1 then 1 else 0 : Int32) : Int32) else 1 : Int32), .int (x6 + 1), .int x7]) hk_188 rfl rfl rfl rfl rfl ?_
    refine kg_goto hk_188 rfl ?_
    have hF := Option.some.inj hF
    exact hK _ hF.symm _ _
  · have hg := gz30
    by_cases cz26 : x5 = 0
    · have hg := wv_T cz26 hg
      have hK := kv_T cz26 hK
      refine kg_ifF hk_188 rfl (jc_F1 cz26) rfl ?_
      refine kg_iload hk_188 rfl rfl rfl ?_
      by_cases cz27 : x7 = 0
      · have hK := kv_T cz27 hK
        refine kg_ifT hk_188 rfl (jc_T0 cz27) ?_
        refine kg_push (x := 0) hk_188 rfl (by decide) rfl ?_
        exact hK
      · have hg := wv_F cz27 hg
        have hK := kv_F cz27 hK
        have gz28 := hg
        refine kg_ifF hk_188 rfl (jc_F0 cz27) rfl ?_
        refine kg_aload hk_188 rfl rfl rfl ?_
        refine kg_get (v := .ref (1122 + 1)) hk_188 rfl wk_1076_59 rfl rfl ?_
        refine kg_iload hk_188 rfl rfl rfl ?_
        refine kg_ald (y := (h 1122 x6.toNatClampNeg)) hk_188 rfl wc_1122 gz28 rfl rfl ?_
        refine kg_push (x := 1) hk_188 rfl (by decide) rfl ?_
        by_cases cz29 : (h 1122 x6.toNatClampNeg) = 1
        · have hK := kv_T cz29 hK
          refine kg_icF hk_188 rfl (jc_F1 cz29) rfl ?_
          refine kg_push (x := 1) hk_188 rfl (by decide) rfl ?_
          refine kg_goto hk_188 rfl ?_
          exact hK
        · have hK := kv_F cz29 hK
          refine kg_icT hk_188 rfl (jc_T1 cz29) ?_
          refine kg_push (x := 0) hk_188 rfl (by decide) rfl ?_
          exact hK
    · have hK := kv_F cz26 hK
      refine kg_ifT hk_188 rfl (jc_T1 cz26) ?_
      refine kg_push (x := 1) hk_188 rfl (by decide) rfl ?_
      refine kg_goto hk_188 rfl ?_
      exact hK
def q_188_95 (h : Hp) (x1 : Int32) (x3 : Int32) (x4 : Int32) (x5 : Int32) (x6 : Int32) (s0 : Int32) : Option ((Int32 × Int32 × Int32) ⊕ Int32 × Int32) :=
  w_gd ((if x4 = 0 then (if s0 = 0 then true else w_ix x6 16) else true)) <|
  q_188_109 h x1 x3 x5 x6 s0 (if x4 = 0 then (if s0 = 0 then 0 else (if (h 1122 x6.toNatClampNeg) ≤ 1 then 0 else 1 : Int32) : Int32) else 1 : Int32)
theorem q_188_95_ok {X : List Int32} {o : kO}  {h : Hp} {s0 : Int32} {x1 : Int32} {x3 : Int32} {x4 : Int32} {x5 : Int32} {x6 : Int32}  {r : (Int32 × Int32 × Int32) ⊕ Int32 × Int32} (hF : q_188_95 h x1 x3 x4 x5 x6 s0 = some r) (hK : ∀ s' : Int32 × Int32 × Int32, r = .inl s' → ∀ (u2 : Value) (u7 : Value), k_Go X 6 188 (78, [.ref (1076 + 1), .int x1, u2, .int x3, .int (s'.1), .int (s'.2.1), .int (s'.2.2), u7], []) h o) (hX0 : ∀ e : Int32 × Int32, r = .inr e → ∀ (u2 : Value) (u6 : Value) (u7 : Value), k_Go X 6 188 (126, [.ref (1076 + 1), .int x1, u2, .int x3, .int e.1, .int e.2, u6, u7], []) h o) : ∀ (u2 : Value) (u7 : Value), k_Go X 6 188 (95, [.ref (1076 + 1), .int x1, u2, .int x3, .int x4, .int x5, .int x6, u7], [.int s0]) h o := by
  intro u2 u7
  unfold q_188_95 at hF
  refine kg_istore (L2 := [.ref (1076 + 1), .int x1, u2, .int x3, .int x4, .int x5, .int x6, .int s0]) hk_188 rfl (Nat.le_of_ble_eq_true rfl) rfl rfl ?_
  refine kg_iload hk_188 rfl rfl rfl ?_
  refine wf_gd hF (fun gz25 hF => ?_)
  refine kv_mid (p := 109) (L := [.ref (1076 + 1), .int x1, u2, .int x3, .int x4, .int x5, .int x6, .int s0]) (S := [.int (if x4 = 0 then (if s0 = 0 then 0 else (if (h 1122 x6.toNatClampNeg) ≤ 1 then 0 else 1 : Int32) : Int32) else 1 : Int32)]) ?_ (fun hK => ?_)
  · exact q_188_109_ok hF hK hX0 _ _
  · have hg := gz25
    by_cases cz21 : x4 = 0
    · have hg := wv_T cz21 hg
      have hK := kv_T cz21 hK
      refine kg_ifF hk_188 rfl (jc_F1 cz21) rfl ?_
      refine kg_iload hk_188 rfl rfl rfl ?_
      by_cases cz22 : s0 = 0
      · have hK := kv_T cz22 hK
        refine kg_ifT hk_188 rfl (jc_T0 cz22) ?_
        refine kg_push (x := 0) hk_188 rfl (by decide) rfl ?_
        exact hK
      · have hg := wv_F cz22 hg
        have hK := kv_F cz22 hK
        have gz23 := hg
        refine kg_ifF hk_188 rfl (jc_F0 cz22) rfl ?_
        refine kg_aload hk_188 rfl rfl rfl ?_
        refine kg_get (v := .ref (1122 + 1)) hk_188 rfl wk_1076_59 rfl rfl ?_
        refine kg_iload hk_188 rfl rfl rfl ?_
        refine kg_ald (y := (h 1122 x6.toNatClampNeg)) hk_188 rfl wc_1122 gz23 rfl rfl ?_
        refine kg_push (x := 1) hk_188 rfl (by decide) rfl ?_
        by_cases cz24 : (h 1122 x6.toNatClampNeg) ≤ 1
        · have hK := kv_T cz24 hK
          refine kg_icT hk_188 rfl (jc_T5 cz24) ?_
          refine kg_push (x := 0) hk_188 rfl (by decide) rfl ?_
          exact hK
        · have hK := kv_F cz24 hK
          refine kg_icF hk_188 rfl (jc_F5 cz24) rfl ?_
          refine kg_push (x := 1) hk_188 rfl (by decide) rfl ?_
          refine kg_goto hk_188 rfl ?_
          exact hK
    · have hK := kv_F cz21 hK
      refine kg_ifT hk_188 rfl (jc_T1 cz21) ?_
      refine kg_push (x := 1) hk_188 rfl (by decide) rfl ?_
      refine kg_goto hk_188 rfl ?_
      exact hK
def l_188_78 (h : Hp) (x1 : Int32) (x3 : Int32) (x4 : Int32) (x5 : Int32) (x6 : Int32) : Option ((Int32 × Int32 × Int32) ⊕ Int32 × Int32) :=
  if x6 < (h 1076 2) then
    (w_gd (w_ix x3 16) <|
    q_188_95 h x1 x3 x4 x5 x6 (if (((h 1120 x3.toNatClampNeg) >>> (x6 &&& 31)) &&& 1) = 1 then 1 else 0 : Int32))
  else
    (some (.inr (x4, x5)))
theorem l_188_78_st {X : List Int32} {o : kO}  {h : Hp} {x1 : Int32} {x3 : Int32} {x4 : Int32} {x5 : Int32} {x6 : Int32}  {r : (Int32 × Int32 × Int32) ⊕ Int32 × Int32} (hF : l_188_78 h x1 x3 x4 x5 x6 = some r) (hK : ∀ s' : Int32 × Int32 × Int32, r = .inl s' → ∀ (u2 : Value) (u7 : Value), k_Go X 6 188 (78, [.ref (1076 + 1), .int x1, u2, .int x3, .int (s'.1), .int (s'.2.1), .int (s'.2.2), u7], []) h o) (hX0 : ∀ e : Int32 × Int32, r = .inr e → ∀ (u2 : Value) (u6 : Value) (u7 : Value), k_Go X 6 188 (126, [.ref (1076 + 1), .int x1, u2, .int x3, .int e.1, .int e.2, u6, u7], []) h o) : ∀ (u2 : Value) (u7 : Value), k_Go X 6 188 (78, [.ref (1076 + 1), .int x1, u2, .int x3, .int x4, .int x5, .int x6, u7], []) h o := by
  intro u2 u7
  refine kg_iload hk_188 rfl rfl rfl ?_
  refine kg_aload hk_188 rfl rfl rfl ?_
  refine kg_get (v := .int (h 1076 2)) hk_188 rfl wk_1076_2 rfl rfl ?_
  refine wf_if hF (fun cz18 hF => ?_) (fun cz18 hF => ?_)
  · refine kg_icF hk_188 rfl (jc_F3 cz18) rfl ?_
    refine kg_aload hk_188 rfl rfl rfl ?_
    refine kg_get (v := .ref (1120 + 1)) hk_188 rfl wk_1076_57 rfl rfl ?_
    refine kg_iload hk_188 rfl rfl rfl ?_
    refine wf_gd hF (fun gz19 hF => ?_)
    refine kg_ald (y := (h 1120 x3.toNatClampNeg)) hk_188 rfl wc_1120 gz19 rfl rfl ?_
    refine kg_iload hk_188 rfl rfl rfl ?_
    refine kg_bin (z := ((h 1120 x3.toNatClampNeg) >>> (x6 &&& 31))) hk_188 rfl rfl rfl ?_
    refine kg_push (x := 1) hk_188 rfl (by decide) rfl ?_
    refine kg_bin (z := (((h 1120 x3.toNatClampNeg) >>> (x6 &&& 31)) &&& 1)) hk_188 rfl rfl rfl ?_
    refine kg_push (x := 1) hk_188 rfl (by decide) rfl ?_
    refine kv_mid (p := 95) (L := [.ref (1076 + 1), .int x1, u2, .int x3, .int x4, .int x5, .int x6, u7]) (S := [.int (if (((h 1120 x3.toNatClampNeg) >>> (x6 &&& 31)) &&& 1) = 1 then 1 else 0 : Int32)]) ?_ (fun hK => ?_)
    · exact q_188_95_ok hF hK hX0 _ _
    · by_cases cz20 : (((h 1120 x3.toNatClampNeg) >>> (x6 &&& 31)) &&& 1) = 1
      · have hK := kv_T cz20 hK
        refine kg_icF hk_188 rfl (jc_F1 cz20) rfl ?_
        refine kg_push (x := 1) hk_188 rfl (by decide) rfl ?_
        refine kg_goto hk_188 rfl ?_
        exact hK
      · have hK := kv_F cz20 hK
        refine kg_icT hk_188 rfl (jc_T1 cz20) ?_
        refine kg_push (x := 0) hk_188 rfl (by decide) rfl ?_
        exact hK
  · refine kg_icT hk_188 rfl (jc_T3 cz18) ?_
    have hF := Option.some.inj hF
    exact hX0 _ hF.symm _ _ _
theorem l_188_78_ok {X : List Int32} {o : kO}  {h : Hp} {x1 : Int32} {x3 : Int32}  {n : Nat} {s : Int32 × Int32 × Int32} {e : Int32 × Int32} (hF : w_lp (fun (s : Int32 × Int32 × Int32) => l_188_78 h x1 x3 s.1 s.2.1 s.2.2) n s = some e) (hX0 : ∀ (u2 : Value) (u6 : Value) (u7 : Value), k_Go X 6 188 (126, [.ref (1076 + 1), .int x1, u2, .int x3, .int e.1, .int e.2, u6, u7], []) h o) : ∀ (u2 : Value) (u7 : Value), k_Go X 6 188 (78, [.ref (1076 + 1), .int x1, u2, .int x3, .int s.1, .int s.2.1, .int s.2.2, u7], []) h o := by
  exact w_lp_ok (P := (fun (s : Int32 × Int32 × Int32) => ∀ (u2 : Value) (u7 : Value), k_Go X 6 188 (78, [.ref (1076 + 1), .int x1, u2, .int x3, .int s.1, .int s.2.1, .int s.2.2, u7], []) h o)) (Q := (fun (e : Int32 × Int32) => (∀ (u2 : Value) (u6 : Value) (u7 : Value), k_Go X 6 188 (126, [.ref (1076 + 1), .int x1, u2, .int x3, .int e.1, .int e.2, u6, u7], []) h o))) (fun s r hF hK hX => l_188_78_st hF hK (fun x hx => (hX _ hx))) n s e hF hX0
def q_188_140 (h : Hp) (x1 : Int32) (x3 : Int32) (s0 : Int32) (s1 : Int32) : Option ((Int32 × Int32 × Int32 × Hp) ⊕ Int32 × Int32 × Hp) :=
  w_gd (w_ix s1 16) <|
  w_let (w_up h 1122 s1.toNatClampNeg s0) fun hz36 =>
  some (.inl ((x1 ||| (1 <<< (x3 &&& 31))), 1, (x3 + 1), hz36))
theorem q_188_140_ok {X : List Int32} {o : kO}  {h : Hp} {s0 : Int32} {s1 : Int32} {x1 : Int32} {x3 : Int32}  {r : (Int32 × Int32 × Int32 × Hp) ⊕ Int32 × Int32 × Hp} (hF : q_188_140 h x1 x3 s0 s1 = some r) (hK : ∀ s' : Int32 × Int32 × Int32 × Hp, r = .inl s' → ∀ (u4 : Value) (u5 : Value) (u6 : Value) (u7 : Value), k_Go X 6 188 (51, [.ref (1076 + 1), .int (s'.1), .int (s'.2.1), .int (s'.2.2.1), u4, u5, u6, u7], []) s'.2.2.2 o) (hX0 : ∀ e : Int32 × Int32 × Hp, r = .inr e → ∀ (u3 : Value) (u4 : Value) (u5 : Value) (u6 : Value) (u7 : Value), k_Go X 6 188 (151, [.ref (1076 + 1), .int e.1, .int e.2.1, u3, u4, u5, u6, u7], []) e.2.2 o) : ∀ (u2 : Value) (u4 : Value) (u5 : Value) (u6 : Value) (u7 : Value), k_Go X 6 188 (140, [.ref (1076 + 1), .int x1, u2, .int x3, u4, u5, u6, u7], [.int s0, .int s1, .ref (1122 + 1)]) h o := by
  intro u2 u4 u5 u6 u7
  unfold q_188_140 at hF
  refine wf_gd hF (fun gz35 hF => ?_)
  refine wf_let hF (fun hz36 hhz36 hF => ?_)
  refine kg_ast hk_188 rfl wc_1122 gz35 hhz36 rfl ?_
  refine kg_iload hk_188 rfl rfl rfl ?_
  refine kg_push (x := 1) hk_188 rfl (by decide) rfl ?_
  refine kg_iload hk_188 rfl rfl rfl ?_
  refine kg_bin (z := (1 <<< (x3 &&& 31))) hk_188 rfl rfl rfl ?_
  refine kg_bin (z := (x1 ||| (1 <<< (x3 &&& 31)))) hk_188 rfl rfl rfl ?_
  refine kg_istore (L2 := [.ref (1076 + 1), .int (x1 ||| (1 <<< (x3 &&& 31))), u2, .int x3, u4, u5, u6, u7]) hk_188 rfl (Nat.le_of_ble_eq_true rfl) rfl rfl ?_
  refine kg_push (x := 1) hk_188 rfl (by decide) rfl ?_
  refine kg_istore (L2 := [.ref (1076 + 1), .int (x1 ||| (1 <<< (x3 &&& 31))), .int 1, .int x3, u4, u5, u6, u7]) hk_188 rfl (Nat.le_of_ble_eq_true rfl) rfl rfl ?_
  refine kg_iinc (y := (x3 + 1)) (L2 := [.ref (1076 + 1), .int (x1 ||| (1 <<< (x3 &&& 31))), .int 1, .int (x3 + 1), u4, u5, u6, u7]) hk_188 rfl rfl rfl rfl rfl ?_
  refine kg_goto hk_188 rfl ?_
  have hF := Option.some.inj hF
  exact hK _ hF.symm _ _ _ _
def l_188_51 (x1 : Int32) (x2 : Int32) (x3 : Int32) (h : Hp) : Option ((Int32 × Int32 × Int32 × Hp) ⊕ Int32 × Int32 × Hp) :=
  if x3 < (h 1076 2) then
    (w_gd (w_ix x3 16) <|
    if (h 1122 x3.toNatClampNeg) = (-1) then
      (w_gd (w_ix x3 16) <|
      if (((h 1120 x3.toNatClampNeg) &&& 65535) &&& (x1 ^^^ (-1))) = 0 then
        ((w_lp (fun (s : Int32 × Int32 × Int32) => l_188_78 h x1 x3 s.1 s.2.1 s.2.2) w_N (0, 0, 0)).bind fun ez31 =>
        if ez31.1 = 0 then
          (if ez31.2 = 0 then
            ((p_187 h x3).bind fun vz34 =>
            q_188_140 h x1 x3 vz34 x3)
          else
            (q_188_140 h x1 x3 1 x3))
        else
          (q_188_140 h x1 x3 3 x3))
      else
        (some (.inl (x1, x2, (x3 + 1), h))))
    else
      (some (.inl (x1, x2, (x3 + 1), h))))
  else
    (some (.inr (x1, x2, h)))
theorem l_188_51_st {X : List Int32} {o : kO}  {h : Hp} {x1 : Int32} {x2 : Int32} {x3 : Int32}  {r : (Int32 × Int32 × Int32 × Hp) ⊕ Int32 × Int32 × Hp} (hF : l_188_51 x1 x2 x3 h = some r) (hK : ∀ s' : Int32 × Int32 × Int32 × Hp, r = .inl s' → ∀ (u4 : Value) (u5 : Value) (u6 : Value) (u7 : Value), k_Go X 6 188 (51, [.ref (1076 + 1), .int (s'.1), .int (s'.2.1), .int (s'.2.2.1), u4, u5, u6, u7], []) s'.2.2.2 o) (hX0 : ∀ e : Int32 × Int32 × Hp, r = .inr e → ∀ (u3 : Value) (u4 : Value) (u5 : Value) (u6 : Value) (u7 : Value), k_Go X 6 188 (151, [.ref (1076 + 1), .int e.1, .int e.2.1, u3, u4, u5, u6, u7], []) e.2.2 o) : ∀ (u4 : Value) (u5 : Value) (u6 : Value) (u7 : Value), k_Go X 6 188 (51, [.ref (1076 + 1), .int x1, .int x2, .int x3, u4, u5, u6, u7], []) h o := by
  intro u4 u5 u6 u7
  refine kg_iload hk_188 rfl rfl rfl ?_
  refine kg_aload hk_188 rfl rfl rfl ?_
  refine kg_get (v := .int (h 1076 2)) hk_188 rfl wk_1076_2 rfl rfl ?_
  refine wf_if hF (fun cz13 hF => ?_) (fun cz13 hF => ?_)
  · refine kg_icF hk_188 rfl (jc_F3 cz13) rfl ?_
    refine kg_aload hk_188 rfl rfl rfl ?_
    refine kg_get (v := .ref (1122 + 1)) hk_188 rfl wk_1076_59 rfl rfl ?_
    refine kg_iload hk_188 rfl rfl rfl ?_
    refine wf_gd hF (fun gz14 hF => ?_)
    refine kg_ald (y := (h 1122 x3.toNatClampNeg)) hk_188 rfl wc_1122 gz14 rfl rfl ?_
    refine kg_push (x := (-1)) hk_188 rfl (by decide) rfl ?_
    refine wf_if hF (fun cz15 hF => ?_) (fun cz15 hF => ?_)
    · refine kg_icF hk_188 rfl (jc_F1 cz15) rfl ?_
      refine kg_aload hk_188 rfl rfl rfl ?_
      refine kg_get (v := .ref (1120 + 1)) hk_188 rfl wk_1076_57 rfl rfl ?_
      refine kg_iload hk_188 rfl rfl rfl ?_
      refine wf_gd hF (fun gz16 hF => ?_)
      refine kg_ald (y := (h 1120 x3.toNatClampNeg)) hk_188 rfl wc_1120 gz16 rfl rfl ?_
      refine kg_push (x := 65535) hk_188 rfl (by decide) rfl ?_
      refine kg_bin (z := ((h 1120 x3.toNatClampNeg) &&& 65535)) hk_188 rfl rfl rfl ?_
      refine kg_iload hk_188 rfl rfl rfl ?_
      refine kg_push (x := (-1)) hk_188 rfl (by decide) rfl ?_
      refine kg_bin (z := (x1 ^^^ (-1))) hk_188 rfl rfl rfl ?_
      refine kg_bin (z := (((h 1120 x3.toNatClampNeg) &&& 65535) &&& (x1 ^^^ (-1)))) hk_188 rfl rfl rfl ?_
      refine wf_if hF (fun cz17 hF => ?_) (fun cz17 hF => ?_)
      · refine kg_ifF hk_188 rfl (jc_F1 cz17) rfl ?_
        refine kg_push (x := 0) hk_188 rfl (by decide) rfl ?_
        refine kg_istore (L2 := [.ref (1076 + 1), .int x1, .int x2, .int x3, .int 0, u5, u6, u7]) hk_188 rfl (Nat.le_of_ble_eq_true rfl) rfl rfl ?_
        refine kg_push (x := 0) hk_188 rfl (by decide) rfl ?_
        refine kg_istore (L2 := [.ref (1076 + 1), .int x1, .int x2, .int x3, .int 0, .int 0, u6, u7]) hk_188 rfl (Nat.le_of_ble_eq_true rfl) rfl rfl ?_
        refine kg_push (x := 0) hk_188 rfl (by decide) rfl ?_
        refine kg_istore (L2 := [.ref (1076 + 1), .int x1, .int x2, .int x3, .int 0, .int 0, .int 0, u7]) hk_188 rfl (Nat.le_of_ble_eq_true rfl) rfl rfl ?_
        refine wf_bind hF (fun ez31 hez31 hF => ?_)
        refine l_188_78_ok hez31 ?_ _ _
        intro u2 u6 u7
        refine kg_aload hk_188 rfl rfl rfl ?_
        refine kg_get (v := .ref (1122 + 1)) hk_188 rfl wk_1076_59 rfl rfl ?_
        refine kg_iload hk_188 rfl rfl rfl ?_
        refine kg_iload hk_188 rfl rfl rfl ?_
        refine wf_if hF (fun cz32 hF => ?_) (fun cz32 hF => ?_)
        · refine kg_ifT hk_188 rfl (jc_T0 cz32) ?_
          refine kg_iload hk_188 rfl rfl rfl ?_
          refine wf_if hF (fun cz33 hF => ?_) (fun cz33 hF => ?_)
          · refine kg_ifT hk_188 rfl (jc_T0 cz33) ?_
            refine kg_aload hk_188 rfl rfl rfl ?_
            refine kg_iload hk_188 rfl rfl rfl ?_
            refine wf_bind hF (fun vz34 hvz34 hF => ?_)
            refine kg_call (as := [.ref (1076 + 1), .int x3]) (rest := [.int x3, .ref (1122 + 1)]) hk_188 rfl (Or.inr (Or.inr (Or.inr ⟨Or.inl rfl, _, _, rfl, wc_1076⟩))) rfl rfl rfl (Nat.not_lt.mpr (Nat.le_of_ble_eq_true rfl)) (p_187_ok hvz34) (by decide) rfl ?_
            exact q_188_140_ok hF hK hX0 _ _ _ _ _
          · refine kg_ifF hk_188 rfl (jc_F0 cz33) rfl ?_
            refine kg_push (x := 1) hk_188 rfl (by decide) rfl ?_
            refine kg_goto hk_188 rfl ?_
            exact q_188_140_ok hF hK hX0 _ _ _ _ _
        · refine kg_ifF hk_188 rfl (jc_F0 cz32) rfl ?_
          refine kg_push (x := 3) hk_188 rfl (by decide) rfl ?_
          refine kg_goto hk_188 rfl ?_
          exact q_188_140_ok hF hK hX0 _ _ _ _ _
      · refine kg_ifT hk_188 rfl (jc_T1 cz17) ?_
        refine kg_iinc (y := (x3 + 1)) (L2 := [.ref (1076 + 1), .int x1, .int x2, .int (x3 + 1), u4, u5, u6, u7]) hk_188 rfl rfl rfl rfl rfl ?_
        refine kg_goto hk_188 rfl ?_
        have hF := Option.some.inj hF
        exact hK _ hF.symm _ _ _ _
    · refine kg_icT hk_188 rfl (jc_T1 cz15) ?_
      refine kg_iinc (y := (x3 + 1)) (L2 := [.ref (1076 + 1), .int x1, .int x2, .int (x3 + 1), u4, u5, u6, u7]) hk_188 rfl rfl rfl rfl rfl ?_
      refine kg_goto hk_188 rfl ?_
      have hF := Option.some.inj hF
      exact hK _ hF.symm _ _ _ _
  · refine kg_icT hk_188 rfl (jc_T3 cz13) ?_
    have hF := Option.some.inj hF
    exact hX0 _ hF.symm _ _ _ _ _
theorem l_188_51_ok {X : List Int32} {o : kO}    {n : Nat} {s : Int32 × Int32 × Int32 × Hp} {e : Int32 × Int32 × Hp} (hF : w_lp (fun (s : Int32 × Int32 × Int32 × Hp) => l_188_51 s.1 s.2.1 s.2.2.1 s.2.2.2) n s = some e) (hX0 : ∀ (u3 : Value) (u4 : Value) (u5 : Value) (u6 : Value) (u7 : Value), k_Go X 6 188 (151, [.ref (1076 + 1), .int e.1, .int e.2.1, u3, u4, u5, u6, u7], []) e.2.2 o) : ∀ (u4 : Value) (u5 : Value) (u6 : Value) (u7 : Value), k_Go X 6 188 (51, [.ref (1076 + 1), .int s.1, .int s.2.1, .int s.2.2.1, u4, u5, u6, u7], []) s.2.2.2 o := by
  exact w_lp_ok (P := (fun (s : Int32 × Int32 × Int32 × Hp) => ∀ (u4 : Value) (u5 : Value) (u6 : Value) (u7 : Value), k_Go X 6 188 (51, [.ref (1076 + 1), .int s.1, .int s.2.1, .int s.2.2.1, u4, u5, u6, u7], []) s.2.2.2 o)) (Q := (fun (e : Int32 × Int32 × Hp) => (∀ (u3 : Value) (u4 : Value) (u5 : Value) (u6 : Value) (u7 : Value), k_Go X 6 188 (151, [.ref (1076 + 1), .int e.1, .int e.2.1, u3, u4, u5, u6, u7], []) e.2.2 o))) (fun s r hF hK hX => l_188_51_st hF hK (fun x hx => (hX _ hx))) n s e hF hX0
def l_188_45 (x1 : Int32) (x2 : Int32) (h : Hp) : Option ((Int32 × Int32 × Hp) ⊕ Hp) :=
  if x2 = 0 then
    (some (.inr h))
  else
    ((w_lp (fun (s : Int32 × Int32 × Int32 × Hp) => l_188_51 s.1 s.2.1 s.2.2.1 s.2.2.2) w_N (x1, 0, 0, h)).bind fun ez37 =>
    some (.inl (ez37.1, ez37.2.1, ez37.2.2)))
theorem l_188_45_st {X : List Int32} {o : kO}  {h : Hp} {x1 : Int32} {x2 : Int32}  {r : (Int32 × Int32 × Hp) ⊕ Hp} (hF : l_188_45 x1 x2 h = some r) (hK : ∀ s' : Int32 × Int32 × Hp, r = .inl s' → ∀ (u3 : Value) (u4 : Value) (u5 : Value) (u6 : Value) (u7 : Value), k_Go X 6 188 (45, [.ref (1076 + 1), .int (s'.1), .int (s'.2.1), u3, u4, u5, u6, u7], []) s'.2.2 o) (hX0 : ∀ e : Hp, r = .inr e → (.inl none, e) = o) : ∀ (u3 : Value) (u4 : Value) (u5 : Value) (u6 : Value) (u7 : Value), k_Go X 6 188 (45, [.ref (1076 + 1), .int x1, .int x2, u3, u4, u5, u6, u7], []) h o := by
  intro u3 u4 u5 u6 u7
  refine kg_iload hk_188 rfl rfl rfl ?_
  refine wf_if hF (fun cz12 hF => ?_) (fun cz12 hF => ?_)
  · refine kg_ifT hk_188 rfl (jc_T0 cz12) ?_
    have hF := Option.some.inj hF
    exact kg_ret hk_188 rfl (hX0 _ hF.symm)
  · refine kg_ifF hk_188 rfl (jc_F0 cz12) rfl ?_
    refine kg_push (x := 0) hk_188 rfl (by decide) rfl ?_
    refine kg_istore (L2 := [.ref (1076 + 1), .int x1, .int 0, u3, u4, u5, u6, u7]) hk_188 rfl (Nat.le_of_ble_eq_true rfl) rfl rfl ?_
    refine kg_push (x := 0) hk_188 rfl (by decide) rfl ?_
    refine kg_istore (L2 := [.ref (1076 + 1), .int x1, .int 0, .int 0, u4, u5, u6, u7]) hk_188 rfl (Nat.le_of_ble_eq_true rfl) rfl rfl ?_
    refine wf_bind hF (fun ez37 hez37 hF => ?_)
    refine l_188_51_ok hez37 ?_ _ _ _ _
    intro u3 u4 u5 u6 u7
    refine kg_goto hk_188 rfl ?_
    have hF := Option.some.inj hF
    exact hK _ hF.symm _ _ _ _ _
theorem l_188_45_ok {X : List Int32} {o : kO}    {n : Nat} {s : Int32 × Int32 × Hp} {e : Hp} (hF : w_lp (fun (s : Int32 × Int32 × Hp) => l_188_45 s.1 s.2.1 s.2.2) n s = some e) (hX0 : (.inl none, e) = o) : ∀ (u3 : Value) (u4 : Value) (u5 : Value) (u6 : Value) (u7 : Value), k_Go X 6 188 (45, [.ref (1076 + 1), .int s.1, .int s.2.1, u3, u4, u5, u6, u7], []) s.2.2 o := by
  exact w_lp_ok (P := (fun (s : Int32 × Int32 × Hp) => ∀ (u3 : Value) (u4 : Value) (u5 : Value) (u6 : Value) (u7 : Value), k_Go X 6 188 (45, [.ref (1076 + 1), .int s.1, .int s.2.1, u3, u4, u5, u6, u7], []) s.2.2 o)) (Q := (fun (e : Hp) => ((.inl none, e) = o))) (fun s r hF hK hX => l_188_45_st hF hK (fun x hx => (hX _ hx))) n s e hF hX0
def p_188 (h : Hp) : Option (Hp) :=
  (p_185 h).bind fun vz1 =>
  (w_lp (fun (s : Int32 × Int32 × Hp) => l_188_6 s.1 s.2.1 s.2.2) w_N (0, 0, vz1)).bind fun ez11 =>
  w_lp (fun (s : Int32 × Int32 × Hp) => l_188_45 s.1 s.2.1 s.2.2) w_N (ez11.1, 1, ez11.2)
theorem p_188_ok {X : List Int32}  {h : Hp}   {r : Hp} (hF : p_188 h = some r) : k_Ev X 6 188 [.ref (1076 + 1)] h (.inl none, r) := by
  refine k_of hk_188 ?_
  show k_Go X 6 188 (0, [.ref (1076 + 1), (.retAddr 0), (.retAddr 0), (.retAddr 0), (.retAddr 0), (.retAddr 0), (.retAddr 0), (.retAddr 0)], []) h _
  unfold p_188 at hF
  refine kg_aload hk_188 rfl rfl rfl ?_
  refine wf_bind hF (fun vz1 hvz1 hF => ?_)
  refine kg_call (as := [.ref (1076 + 1)]) (rest := []) hk_188 rfl (Or.inr (Or.inr (Or.inr ⟨Or.inl rfl, _, _, rfl, wc_1076⟩))) rfl rfl rfl (Nat.not_lt.mpr (Nat.le_of_ble_eq_true rfl)) (p_185_ok hvz1) (by decide) rfl ?_
  refine kg_push (x := 0) hk_188 rfl (by decide) rfl ?_
  refine kg_istore (L2 := [.ref (1076 + 1), .int 0, (.retAddr 0), (.retAddr 0), (.retAddr 0), (.retAddr 0), (.retAddr 0), (.retAddr 0)]) hk_188 rfl (Nat.le_of_ble_eq_true rfl) rfl rfl ?_
  refine kg_push (x := 0) hk_188 rfl (by decide) rfl ?_
  refine kg_istore (L2 := [.ref (1076 + 1), .int 0, .int 0, (.retAddr 0), (.retAddr 0), (.retAddr 0), (.retAddr 0), (.retAddr 0)]) hk_188 rfl (Nat.le_of_ble_eq_true rfl) rfl rfl ?_
  refine wf_bind hF (fun ez11 hez11 hF => ?_)
  refine l_188_6_ok hez11 ?_ _ _ _ _ _
  intro u2 u3 u4 u5 u6 u7
  refine kg_push (x := 1) hk_188 rfl (by decide) rfl ?_
  refine kg_istore (L2 := [.ref (1076 + 1), .int ez11.1, .int 1, u3, u4, u5, u6, u7]) hk_188 rfl (Nat.le_of_ble_eq_true rfl) rfl rfl ?_
  exact l_188_45_ok hF rfl _ _ _ _ _
-- NotebookWeirModel.areFresh(I)Z
theorem hk_189 : jP[189]? = some (jc_189, 4, [], []) := by rfl
def l_189_4 (h : Hp) (x1 : Int32) (x2 : Int32) (x3 : Int32) : Option ((Int32 × Int32) ⊕ Int32) :=
  if x3 < (h 1076 2) then
    (w_gd ((if x2 = 0 then true else (if ((x1 >>> (x3 &&& 31)) &&& 1) = 0 then true else w_ix x3 16))) <|
    some (.inl ((if x2 = 0 then 0 else (if ((x1 >>> (x3 &&& 31)) &&& 1) = 0 then 1 else (if (h 1122 x3.toNatClampNeg) = 0 then 1 else 0 : Int32) : Int32) : Int32), (x3 + 1))))
  else
    (w_gd (w_bo x2) <|
    some (.inr x2))
theorem l_189_4_st {X : List Int32} {o : kO}  {h : Hp} {x1 : Int32} {x2 : Int32} {x3 : Int32}  {r : (Int32 × Int32) ⊕ Int32} (hF : l_189_4 h x1 x2 x3 = some r) (hK : ∀ s' : Int32 × Int32, r = .inl s' → k_Go X 0 189 (4, [.ref (1076 + 1), .int x1, .int (s'.1), .int (s'.2)], []) h o) (hX0 : ∀ e : Int32, r = .inr e → (.inl (some (.int e)), h) = o) : k_Go X 0 189 (4, [.ref (1076 + 1), .int x1, .int x2, .int x3], []) h o := by
  refine kg_iload hk_189 rfl rfl rfl ?_
  refine kg_aload hk_189 rfl rfl rfl ?_
  refine kg_get (v := .int (h 1076 2)) hk_189 rfl wk_1076_2 rfl rfl ?_
  refine wf_if hF (fun cz1 hF => ?_) (fun cz1 hF => ?_)
  · refine kg_icF hk_189 rfl (jc_F3 cz1) rfl ?_
    refine kg_iload hk_189 rfl rfl rfl ?_
    refine wf_gd hF (fun gz6 hF => ?_)
    refine kv_mid (p := 24) (L := [.ref (1076 + 1), .int x1, .int x2, .int x3]) (S := [.int (if x2 = 0 then 0 else (if ((x1 >>> (x3 &&& 31)) &&& 1) = 0 then 1 else (if (h 1122 x3.toNatClampNeg) = 0 then 1 else 0 : Int32) : Int32) : Int32)]) ?_ (fun hK => ?_)
    · refine kg_istore (L2 := [.ref (1076 + 1), .int x1, .int (if x2 = 0 then 0 else (if ((x1 >>> (x3 &&& 31)) &&& 1) = 0 then 1 else (if (h 1122 x3.toNatClampNeg) = 0 then 1 else 0 : Int32) : Int32) : Int32), .int x3]) hk_189 rfl (Nat.le_of_ble_eq_true rfl) rfl rfl ?_
      refine kg_iinc (y := (x3 + 1)) (L2 := [.ref (1076 + 1), .int x1, .int (if x2 = 0 then 0 else (if ((x1 >>> (x3 &&& 31)) &&& 1) = 0 then 1 else (if (h 1122 x3.toNatClampNeg) = 0 then 1 else 0 : Int32) : Int32) : Int32), .int (x3 + 1)]) hk_189 rfl rfl rfl rfl rfl ?_
      refine kg_goto hk_189 rfl ?_
      have hF := Option.some.inj hF
      exact hK _ hF.symm
    · have hg := gz6
      by_cases cz2 : x2 = 0
      · have hK := kv_T cz2 hK
        refine kg_ifT hk_189 rfl (jc_T0 cz2) ?_
        refine kg_push (x := 0) hk_189 rfl (by decide) rfl ?_
        exact hK
      · have hg := wv_F cz2 hg
        have hK := kv_F cz2 hK
        refine kg_ifF hk_189 rfl (jc_F0 cz2) rfl ?_
        refine kg_iload hk_189 rfl rfl rfl ?_
        refine kg_iload hk_189 rfl rfl rfl ?_
        refine kg_bin (z := (x1 >>> (x3 &&& 31))) hk_189 rfl rfl rfl ?_
        refine kg_push (x := 1) hk_189 rfl (by decide) rfl ?_
        refine kg_bin (z := ((x1 >>> (x3 &&& 31)) &&& 1)) hk_189 rfl rfl rfl ?_
        by_cases cz3 : ((x1 >>> (x3 &&& 31)) &&& 1) = 0
        · have hK := kv_T cz3 hK
          refine kg_ifT hk_189 rfl (jc_T0 cz3) ?_
          refine kg_push (x := 1) hk_189 rfl (by decide) rfl ?_
          refine kg_goto hk_189 rfl ?_
          exact hK
        · have hg := wv_F cz3 hg
          have hK := kv_F cz3 hK
          have gz4 := hg
          refine kg_ifF hk_189 rfl (jc_F0 cz3) rfl ?_
          refine kg_aload hk_189 rfl rfl rfl ?_
          refine kg_get (v := .ref (1122 + 1)) hk_189 rfl wk_1076_59 rfl rfl ?_
          refine kg_iload hk_189 rfl rfl rfl ?_
          refine kg_ald (y := (h 1122 x3.toNatClampNeg)) hk_189 rfl wc_1122 gz4 rfl rfl ?_
          by_cases cz5 : (h 1122 x3.toNatClampNeg) = 0
          · have hK := kv_T cz5 hK
            refine kg_ifF hk_189 rfl (jc_F1 cz5) rfl ?_
            refine kg_push (x := 1) hk_189 rfl (by decide) rfl ?_
            refine kg_goto hk_189 rfl ?_
            exact hK
          · have hK := kv_F cz5 hK
            refine kg_ifT hk_189 rfl (jc_T1 cz5) ?_
            refine kg_push (x := 0) hk_189 rfl (by decide) rfl ?_
            exact hK
  · refine kg_icT hk_189 rfl (jc_T3 cz1) ?_
    refine kg_iload hk_189 rfl rfl rfl ?_
    refine wf_gd hF (fun gz7 hF => ?_)
    have hF := Option.some.inj hF
    exact kg_iret hk_189 rfl (Or.inr gz7) (hX0 _ hF.symm)
theorem l_189_4_ok {X : List Int32} {o : kO}  {h : Hp} {x1 : Int32}  {n : Nat} {s : Int32 × Int32} {e : Int32} (hF : w_lp (fun (s : Int32 × Int32) => l_189_4 h x1 s.1 s.2) n s = some e) (hX0 : (.inl (some (.int e)), h) = o) : k_Go X 0 189 (4, [.ref (1076 + 1), .int x1, .int s.1, .int s.2], []) h o := by
  exact w_lp_ok (P := (fun (s : Int32 × Int32) => k_Go X 0 189 (4, [.ref (1076 + 1), .int x1, .int s.1, .int s.2], []) h o)) (Q := (fun (e : Int32) => ((.inl (some (.int e)), h) = o))) (fun s r hF hK hX => l_189_4_st hF hK (fun x hx => (hX _ hx))) n s e hF hX0
def p_189 (h : Hp) (x1 : Int32) : Option (Int32) :=
  w_lp (fun (s : Int32 × Int32) => l_189_4 h x1 s.1 s.2) w_N (1, 0)
theorem p_189_ok {X : List Int32}  {h : Hp} {x1 : Int32}  {r : Int32} (hF : p_189 h x1 = some r) : k_Ev X 0 189 [.ref (1076 + 1), .int x1] h (.inl (some (.int r)), h) := by
  refine k_of hk_189 ?_
  show k_Go X 0 189 (0, [.ref (1076 + 1), .int x1, (.retAddr 0), (.retAddr 0)], []) h _
  unfold p_189 at hF
  refine kg_push (x := 1) hk_189 rfl (by decide) rfl ?_
  refine kg_istore (L2 := [.ref (1076 + 1), .int x1, .int 1, (.retAddr 0)]) hk_189 rfl (Nat.le_of_ble_eq_true rfl) rfl rfl ?_
  refine kg_push (x := 0) hk_189 rfl (by decide) rfl ?_
  refine kg_istore (L2 := [.ref (1076 + 1), .int x1, .int 1, .int 0]) hk_189 rfl (Nat.le_of_ble_eq_true rfl) rfl rfl ?_
  exact l_189_4_ok hF rfl
-- NotebookWeirModel.nextOf(I)I
theorem hk_190 : jP[190]? = some (jc_190, 4, [], []) := by rfl
def l_190_7 (h : Hp) (x1 : Int32) (x2 : Int32) (x3 : Int32) : Option ((Int32 × Int32) ⊕ Int32) :=
  if x3 < 0 then
    (some (.inr x2))
  else
    (if ((x1 >>> (x3 &&& 31)) &&& 1) = 1 then
      (w_gd (w_ix x3 16) <|
      if (h 1122 x3.toNatClampNeg) = 1 then
        (w_gd (w_ix x3 16) <|
        (p_189 h (h 1120 x3.toNatClampNeg)).bind fun vz6 =>
        some (.inl ((if vz6 = 0 then x2 else x3 : Int32), (x3 + (-1)))))
      else
        (some (.inl (x2, (x3 + (-1))))))
    else
      (some (.inl (x2, (x3 + (-1))))))
theorem l_190_7_st {X : List Int32} {o : kO}  {h : Hp} {x1 : Int32} {x2 : Int32} {x3 : Int32}  {r : (Int32 × Int32) ⊕ Int32} (hF : l_190_7 h x1 x2 x3 = some r) (hK : ∀ s' : Int32 × Int32, r = .inl s' → k_Go X 1 190 (7, [.ref (1076 + 1), .int x1, .int (s'.1), .int (s'.2)], []) h o) (hX0 : ∀ e : Int32, r = .inr e → (.inl (some (.int e)), h) = o) : k_Go X 1 190 (7, [.ref (1076 + 1), .int x1, .int x2, .int x3], []) h o := by
  refine kg_iload hk_190 rfl rfl rfl ?_
  refine wf_if hF (fun cz1 hF => ?_) (fun cz1 hF => ?_)
  · refine kg_ifT hk_190 rfl (jc_T2 cz1) ?_
    refine kg_iload hk_190 rfl rfl rfl ?_
    have hF := Option.some.inj hF
    exact kg_iret hk_190 rfl (Or.inl rfl) (hX0 _ hF.symm)
  · refine kg_ifF hk_190 rfl (jc_F2 cz1) rfl ?_
    refine kg_iload hk_190 rfl rfl rfl ?_
    refine kg_iload hk_190 rfl rfl rfl ?_
    refine kg_bin (z := (x1 >>> (x3 &&& 31))) hk_190 rfl rfl rfl ?_
    refine kg_push (x := 1) hk_190 rfl (by decide) rfl ?_
    refine kg_bin (z := ((x1 >>> (x3 &&& 31)) &&& 1)) hk_190 rfl rfl rfl ?_
    refine kg_push (x := 1) hk_190 rfl (by decide) rfl ?_
    refine wf_if hF (fun cz2 hF => ?_) (fun cz2 hF => ?_)
    · refine kg_icF hk_190 rfl (jc_F1 cz2) rfl ?_
      refine kg_aload hk_190 rfl rfl rfl ?_
      refine kg_get (v := .ref (1122 + 1)) hk_190 rfl wk_1076_59 rfl rfl ?_
      refine kg_iload hk_190 rfl rfl rfl ?_
      refine wf_gd hF (fun gz3 hF => ?_)
      refine kg_ald (y := (h 1122 x3.toNatClampNeg)) hk_190 rfl wc_1122 gz3 rfl rfl ?_
      refine kg_push (x := 1) hk_190 rfl (by decide) rfl ?_
      refine wf_if hF (fun cz4 hF => ?_) (fun cz4 hF => ?_)
      · refine kg_icF hk_190 rfl (jc_F1 cz4) rfl ?_
        refine kg_aload hk_190 rfl rfl rfl ?_
        refine kg_aload hk_190 rfl rfl rfl ?_
        refine kg_get (v := .ref (1120 + 1)) hk_190 rfl wk_1076_57 rfl rfl ?_
        refine kg_iload hk_190 rfl rfl rfl ?_
        refine wf_gd hF (fun gz5 hF => ?_)
        refine kg_ald (y := (h 1120 x3.toNatClampNeg)) hk_190 rfl wc_1120 gz5 rfl rfl ?_
        refine wf_bind hF (fun vz6 hvz6 hF => ?_)
        refine kg_call (as := [.ref (1076 + 1), .int (h 1120 x3.toNatClampNeg)]) (rest := []) hk_190 rfl (Or.inr (Or.inr (Or.inr ⟨Or.inl rfl, _, _, rfl, wc_1076⟩))) rfl rfl rfl (Nat.not_lt.mpr (Nat.le_of_ble_eq_true rfl)) (p_189_ok hvz6) (by decide) rfl ?_
        refine kv_mid (p := 32) (L := [.ref (1076 + 1), .int x1, .int x2, .int x3]) (S := [.int (if vz6 = 0 then x2 else x3 : Int32)]) ?_ (fun hK => ?_)
        · refine kg_istore (L2 := [.ref (1076 + 1), .int x1, .int (if vz6 = 0 then x2 else x3 : Int32), .int x3]) hk_190 rfl (Nat.le_of_ble_eq_true rfl) rfl rfl ?_
          refine kg_iinc (y := (x3 + (-1))) (L2 := [.ref (1076 + 1), .int x1, .int (if vz6 = 0 then x2 else x3 : Int32), .int (x3 + (-1))]) hk_190 rfl rfl rfl rfl rfl ?_
          refine kg_goto hk_190 rfl ?_
          have hF := Option.some.inj hF
          exact hK _ hF.symm
        · by_cases cz7 : vz6 = 0
          · have hK := kv_T cz7 hK
            refine kg_ifT hk_190 rfl (jc_T0 cz7) ?_
            refine kg_iload hk_190 rfl rfl rfl ?_
            exact hK
          · have hK := kv_F cz7 hK
            refine kg_ifF hk_190 rfl (jc_F0 cz7) rfl ?_
            refine kg_iload hk_190 rfl rfl rfl ?_
            refine kg_goto hk_190 rfl ?_
            exact hK
      · refine kg_icT hk_190 rfl (jc_T1 cz4) ?_
        refine kg_iload hk_190 rfl rfl rfl ?_
        refine kg_istore (L2 := [.ref (1076 + 1), .int x1, .int x2, .int x3]) hk_190 rfl (Nat.le_of_ble_eq_true rfl) rfl rfl ?_
        refine kg_iinc (y := (x3 + (-1))) (L2 := [.ref (1076 + 1), .int x1, .int x2, .int (x3 + (-1))]) hk_190 rfl rfl rfl rfl rfl ?_
        refine kg_goto hk_190 rfl ?_
        have hF := Option.some.inj hF
        exact hK _ hF.symm
    · refine kg_icT hk_190 rfl (jc_T1 cz2) ?_
      refine kg_iload hk_190 rfl rfl rfl ?_
      refine kg_istore (L2 := [.ref (1076 + 1), .int x1, .int x2, .int x3]) hk_190 rfl (Nat.le_of_ble_eq_true rfl) rfl rfl ?_
      refine kg_iinc (y := (x3 + (-1))) (L2 := [.ref (1076 + 1), .int x1, .int x2, .int (x3 + (-1))]) hk_190 rfl rfl rfl rfl rfl ?_
      refine kg_goto hk_190 rfl ?_
      have hF := Option.some.inj hF
      exact hK _ hF.symm
theorem l_190_7_ok {X : List Int32} {o : kO}  {h : Hp} {x1 : Int32}  {n : Nat} {s : Int32 × Int32} {e : Int32} (hF : w_lp (fun (s : Int32 × Int32) => l_190_7 h x1 s.1 s.2) n s = some e) (hX0 : (.inl (some (.int e)), h) = o) : k_Go X 1 190 (7, [.ref (1076 + 1), .int x1, .int s.1, .int s.2], []) h o := by
  exact w_lp_ok (P := (fun (s : Int32 × Int32) => k_Go X 1 190 (7, [.ref (1076 + 1), .int x1, .int s.1, .int s.2], []) h o)) (Q := (fun (e : Int32) => ((.inl (some (.int e)), h) = o))) (fun s r hF hK hX => l_190_7_st hF hK (fun x hx => (hX _ hx))) n s e hF hX0
def p_190 (h : Hp) (x1 : Int32) : Option (Int32) :=
  w_lp (fun (s : Int32 × Int32) => l_190_7 h x1 s.1 s.2) w_N ((-1), ((h 1076 2) - 1))
theorem p_190_ok {X : List Int32}  {h : Hp} {x1 : Int32}  {r : Int32} (hF : p_190 h x1 = some r) : k_Ev X 1 190 [.ref (1076 + 1), .int x1] h (.inl (some (.int r)), h) := by
  refine k_of hk_190 ?_
  show k_Go X 1 190 (0, [.ref (1076 + 1), .int x1, (.retAddr 0), (.retAddr 0)], []) h _
  unfold p_190 at hF
  refine kg_push (x := (-1)) hk_190 rfl (by decide) rfl ?_
  refine kg_istore (L2 := [.ref (1076 + 1), .int x1, .int (-1), (.retAddr 0)]) hk_190 rfl (Nat.le_of_ble_eq_true rfl) rfl rfl ?_
  refine kg_aload hk_190 rfl rfl rfl ?_
  refine kg_get (v := .int (h 1076 2)) hk_190 rfl wk_1076_2 rfl rfl ?_
  refine kg_push (x := 1) hk_190 rfl (by decide) rfl ?_
  refine kg_bin (z := ((h 1076 2) - 1)) hk_190 rfl rfl rfl ?_
  refine kg_istore (L2 := [.ref (1076 + 1), .int x1, .int (-1), .int ((h 1076 2) - 1)]) hk_190 rfl (Nat.le_of_ble_eq_true rfl) rfl rfl ?_
  exact l_190_7_ok hF rfl
-- NotebookWeirModel.copies([II[II)V
theorem hk_193 : jP[193]? = some (jc_193, 6, [], []) := by rfl
def l_193_2 (q1 : Nat) (x2 : Int32) (q3 : Nat) (x4 : Int32) (x5 : Int32) (h : Hp) : Option ((Int32 × Hp) ⊕ Hp) :=
  if x5 < 9 then
    (w_gd (w_ix (x2 + x5) (w_len q1)) <|
    w_gd (w_ix (x4 + x5) (w_len q3)) <|
    w_let (w_up h q3 ((x4 + x5).toNatClampNeg) (h q1 (x2 + x5).toNatClampNeg)) fun hz4 =>
    some (.inl ((x5 + 1), hz4)))
  else
    (some (.inr h))
theorem l_193_2_st {X : List Int32} {o : kO}  {h : Hp} {q1 : Nat} {q3 : Nat} {x2 : Int32} {x4 : Int32} {x5 : Int32} (t1 : w_tab[q1]? = some (50, (w_len q1), [])) (t3 : w_tab[q3]? = some (50, (w_len q3), [])) {r : (Int32 × Hp) ⊕ Hp} (hF : l_193_2 q1 x2 q3 x4 x5 h = some r) (hK : ∀ s' : Int32 × Hp, r = .inl s' → ∀ (u0 : Value), k_Go X 0 193 (2, [u0, .ref (q1 + 1), .int x2, .ref (q3 + 1), .int x4, .int (s'.1)], []) s'.2 o) (hX0 : ∀ e : Hp, r = .inr e → (.inl none, e) = o) : ∀ (u0 : Value), k_Go X 0 193 (2, [u0, .ref (q1 + 1), .int x2, .ref (q3 + 1), .int x4, .int x5], []) h o := by
  intro u0
  refine kg_iload hk_193 rfl rfl rfl ?_
  refine kg_push (x := 9) hk_193 rfl (by decide) rfl ?_
  refine wf_if hF (fun cz1 hF => ?_) (fun cz1 hF => ?_)
  · refine kg_icF hk_193 rfl (jc_F3 cz1) rfl ?_
    refine kg_aload hk_193 rfl rfl rfl ?_
    refine kg_iload hk_193 rfl rfl rfl ?_
    refine kg_iload hk_193 rfl rfl rfl ?_
    refine kg_bin (z := (x4 + x5)) hk_193 rfl rfl rfl ?_
    refine kg_aload hk_193 rfl rfl rfl ?_
    refine kg_iload hk_193 rfl rfl rfl ?_
    refine kg_iload hk_193 rfl rfl rfl ?_
    refine kg_bin (z := (x2 + x5)) hk_193 rfl rfl rfl ?_
    refine wf_gd hF (fun gz2 hF => ?_)
    refine kg_ald (y := (h q1 (x2 + x5).toNatClampNeg)) hk_193 rfl t1 gz2 rfl rfl ?_
    refine wf_gd hF (fun gz3 hF => ?_)
    refine wf_let hF (fun hz4 hhz4 hF => ?_)
    refine kg_ast hk_193 rfl t3 gz3 hhz4 rfl ?_
    refine kg_iinc (y := (x5 + 1)) (L2 := [u0, .ref (q1 + 1), .int x2, .ref (q3 + 1), .int x4, .int (x5 + 1)]) hk_193 rfl rfl rfl rfl rfl ?_
    refine kg_goto hk_193 rfl ?_
    have hF := Option.some.inj hF
    exact hK _ hF.symm _
  · refine kg_icT hk_193 rfl (jc_T3 cz1) ?_
    have hF := Option.some.inj hF
    exact kg_ret hk_193 rfl (hX0 _ hF.symm)
theorem l_193_2_ok {X : List Int32} {o : kO}  {q1 : Nat} {q3 : Nat} {x2 : Int32} {x4 : Int32} (t1 : w_tab[q1]? = some (50, (w_len q1), [])) (t3 : w_tab[q3]? = some (50, (w_len q3), [])) {n : Nat} {s : Int32 × Hp} {e : Hp} (hF : w_lp (fun (s : Int32 × Hp) => l_193_2 q1 x2 q3 x4 s.1 s.2) n s = some e) (hX0 : (.inl none, e) = o) : ∀ (u0 : Value), k_Go X 0 193 (2, [u0, .ref (q1 + 1), .int x2, .ref (q3 + 1), .int x4, .int s.1], []) s.2 o := by
  exact w_lp_ok (P := (fun (s : Int32 × Hp) => ∀ (u0 : Value), k_Go X 0 193 (2, [u0, .ref (q1 + 1), .int x2, .ref (q3 + 1), .int x4, .int s.1], []) s.2 o)) (Q := (fun (e : Hp) => ((.inl none, e) = o))) (fun s r hF hK hX => l_193_2_st t1 t3 hF hK (fun x hx => (hX _ hx))) n s e hF hX0
def p_193 (h : Hp) (q1 : Nat) (x2 : Int32) (q3 : Nat) (x4 : Int32) : Option (Hp) :=
  w_lp (fun (s : Int32 × Hp) => l_193_2 q1 x2 q3 x4 s.1 s.2) w_N (0, h)
theorem p_193_ok {X : List Int32}  {h : Hp} {q1 : Nat} {x2 : Int32} {q3 : Nat} {x4 : Int32} (t1 : w_tab[q1]? = some (50, w_len q1, [])) (t3 : w_tab[q3]? = some (50, w_len q3, [])) {r : Hp} (hF : p_193 h q1 x2 q3 x4 = some r) : k_Ev X 0 193 [.ref (1076 + 1), .ref (q1 + 1), .int x2, .ref (q3 + 1), .int x4] h (.inl none, r) := by
  refine k_of hk_193 ?_
  show k_Go X 0 193 (0, [.ref (1076 + 1), .ref (q1 + 1), .int x2, .ref (q3 + 1), .int x4, (.retAddr 0)], []) h _
  unfold p_193 at hF
  refine kg_push (x := 0) hk_193 rfl (by decide) rfl ?_
  refine kg_istore (L2 := [.ref (1076 + 1), .ref (q1 + 1), .int x2, .ref (q3 + 1), .int x4, .int 0]) hk_193 rfl (Nat.le_of_ble_eq_true rfl) rfl rfl ?_
  exact l_193_2_ok t1 t3 hF rfl _
-- NotebookWeirModel.marksRun(II)V
theorem hk_217 : jP[217]? = some (jc_217, 4, [], []) := by rfl
def l_217_35 (x1 : Int32) (x3 : Int32) (h : Hp) : Option ((Int32 × Hp) ⊕ Hp) :=
  if x3 < (h 1076 48) then
    (w_gd (w_ix x3 4) <|
    w_gd (w_ix ((4 * x1) + x3) 64) <|
    w_let (w_up h 1091 (((4 * x1) + x3).toNatClampNeg) (h 1115 x3.toNatClampNeg)) fun hz15 =>
    some (.inl ((x3 + 1), hz15)))
  else
    (some (.inr h))
theorem l_217_35_st {X : List Int32} {o : kO}  {h : Hp} {x1 : Int32} {x3 : Int32}  {r : (Int32 × Hp) ⊕ Hp} (hF : l_217_35 x1 x3 h = some r) (hK : ∀ s' : Int32 × Hp, r = .inl s' → ∀ (u2 : Value), k_Go X 0 217 (35, [.ref (1076 + 1), .int x1, u2, .int (s'.1)], []) s'.2 o) (hX0 : ∀ e : Hp, r = .inr e → ∀ (u1 : Value) (u2 : Value) (u3 : Value), k_Go X 0 217 (53, [.ref (1076 + 1), u1, u2, u3], []) e o) : ∀ (u2 : Value), k_Go X 0 217 (35, [.ref (1076 + 1), .int x1, u2, .int x3], []) h o := by
  intro u2
  refine kg_iload hk_217 rfl rfl rfl ?_
  refine kg_aload hk_217 rfl rfl rfl ?_
  refine kg_get (v := .int (h 1076 48)) hk_217 rfl wk_1076_48 rfl rfl ?_
  refine wf_if hF (fun cz12 hF => ?_) (fun cz12 hF => ?_)
  · refine kg_icF hk_217 rfl (jc_F3 cz12) rfl ?_
    refine kg_aload hk_217 rfl rfl rfl ?_
    refine kg_get (v := .ref (1091 + 1)) hk_217 rfl wk_1076_15 rfl rfl ?_
    refine kg_push (x := 4) hk_217 rfl (by decide) rfl ?_
    refine kg_iload hk_217 rfl rfl rfl ?_
    refine kg_bin (z := (4 * x1)) hk_217 rfl rfl rfl ?_
    refine kg_iload hk_217 rfl rfl rfl ?_
    refine kg_bin (z := ((4 * x1) + x3)) hk_217 rfl rfl rfl ?_
    refine kg_aload hk_217 rfl rfl rfl ?_
    refine kg_get (v := .ref (1115 + 1)) hk_217 rfl wk_1076_52 rfl rfl ?_
    refine kg_iload hk_217 rfl rfl rfl ?_
    refine wf_gd hF (fun gz13 hF => ?_)
    refine kg_ald (y := (h 1115 x3.toNatClampNeg)) hk_217 rfl wc_1115 gz13 rfl rfl ?_
    refine wf_gd hF (fun gz14 hF => ?_)
    refine wf_let hF (fun hz15 hhz15 hF => ?_)
    refine kg_ast hk_217 rfl wc_1091 gz14 hhz15 rfl ?_
    refine kg_iinc (y := (x3 + 1)) (L2 := [.ref (1076 + 1), .int x1, u2, .int (x3 + 1)]) hk_217 rfl rfl rfl rfl rfl ?_
    refine kg_goto hk_217 rfl ?_
    have hF := Option.some.inj hF
    exact hK _ hF.symm _
  · refine kg_icT hk_217 rfl (jc_T3 cz12) ?_
    have hF := Option.some.inj hF
    exact hX0 _ hF.symm _ _ _
theorem l_217_35_ok {X : List Int32} {o : kO}  {x1 : Int32}  {n : Nat} {s : Int32 × Hp} {e : Hp} (hF : w_lp (fun (s : Int32 × Hp) => l_217_35 x1 s.1 s.2) n s = some e) (hX0 : ∀ (u1 : Value) (u2 : Value) (u3 : Value), k_Go X 0 217 (53, [.ref (1076 + 1), u1, u2, u3], []) e o) : ∀ (u2 : Value), k_Go X 0 217 (35, [.ref (1076 + 1), .int x1, u2, .int s.1], []) s.2 o := by
  exact w_lp_ok (P := (fun (s : Int32 × Hp) => ∀ (u2 : Value), k_Go X 0 217 (35, [.ref (1076 + 1), .int x1, u2, .int s.1], []) s.2 o)) (Q := (fun (e : Hp) => (∀ (u1 : Value) (u2 : Value) (u3 : Value), k_Go X 0 217 (53, [.ref (1076 + 1), u1, u2, u3], []) e o))) (fun s r hF hK hX => l_217_35_st hF hK (fun x hx => (hX _ hx))) n s e hF hX0
def p_217 (h : Hp) (x1 : Int32) (x2 : Int32) : Option (Hp) :=
  w_let (w_up h 1076 19 ((h 1076 19) + 1)) fun hz1 =>
  w_gd (w_ix x1 16) <|
  w_let (w_up hz1 1088 x1.toNatClampNeg (hz1 1076 19)) fun hz3 =>
  w_gd (w_ix x1 16) <|
  w_let (w_up hz3 1087 x1.toNatClampNeg x2) fun hz5 =>
  w_gd (w_ix x1 16) <|
  w_gd (w_ix x1 16) <|
  w_let (w_up hz5 1089 x1.toNatClampNeg (hz5 1082 x1.toNatClampNeg)) fun hz8 =>
  w_gd (w_ix x1 16) <|
  w_gd (w_ix x1 16) <|
  w_let (w_up hz8 1090 x1.toNatClampNeg (hz8 1120 x1.toNatClampNeg)) fun hz11 =>
  (w_lp (fun (s : Int32 × Hp) => l_217_35 x1 s.1 s.2) w_N (0, hz11)).bind fun ez16 =>
  w_let (w_up ez16 1076 45 0) fun hz17 =>
  some hz17
theorem p_217_ok {X : List Int32}  {h : Hp} {x1 : Int32} {x2 : Int32}  {r : Hp} (hF : p_217 h x1 x2 = some r) : k_Ev X 0 217 [.ref (1076 + 1), .int x1, .int x2] h (.inl none, r) := by
  refine k_of hk_217 ?_
  show k_Go X 0 217 (0, [.ref (1076 + 1), .int x1, .int x2, (.retAddr 0)], []) h _
  unfold p_217 at hF
  refine kg_aload hk_217 rfl rfl rfl ?_
  refine kg_dup hk_217 rfl rfl rfl ?_
  refine kg_get (v := .int (h 1076 19)) hk_217 rfl wk_1076_19 rfl rfl ?_
  refine kg_push (x := 1) hk_217 rfl (by decide) rfl ?_
  refine kg_bin (z := ((h 1076 19) + 1)) hk_217 rfl rfl rfl ?_
  refine wf_let hF (fun hz1 hhz1 hF => ?_)
  refine kg_put hk_217 rfl wk_1076_19 rfl rfl hhz1 rfl ?_
  refine kg_aload hk_217 rfl rfl rfl ?_
  refine kg_get (v := .ref (1088 + 1)) hk_217 rfl wk_1076_12 rfl rfl ?_
  refine kg_iload hk_217 rfl rfl rfl ?_
  refine kg_aload hk_217 rfl rfl rfl ?_
  refine kg_get (v := .int (hz1 1076 19)) hk_217 rfl wk_1076_19 rfl rfl ?_
  refine wf_gd hF (fun gz2 hF => ?_)
  refine wf_let hF (fun hz3 hhz3 hF => ?_)
  refine kg_ast hk_217 rfl wc_1088 gz2 hhz3 rfl ?_
  refine kg_aload hk_217 rfl rfl rfl ?_
  refine kg_get (v := .ref (1087 + 1)) hk_217 rfl wk_1076_11 rfl rfl ?_
  refine kg_iload hk_217 rfl rfl rfl ?_
  refine kg_iload hk_217 rfl rfl rfl ?_
  refine wf_gd hF (fun gz4 hF => ?_)
  refine wf_let hF (fun hz5 hhz5 hF => ?_)
  refine kg_ast hk_217 rfl wc_1087 gz4 hhz5 rfl ?_
  refine kg_aload hk_217 rfl rfl rfl ?_
  refine kg_get (v := .ref (1089 + 1)) hk_217 rfl wk_1076_13 rfl rfl ?_
  refine kg_iload hk_217 rfl rfl rfl ?_
  refine kg_aload hk_217 rfl rfl rfl ?_
  refine kg_get (v := .ref (1082 + 1)) hk_217 rfl wk_1076_6 rfl rfl ?_
  refine kg_iload hk_217 rfl rfl rfl ?_
  refine wf_gd hF (fun gz6 hF => ?_)
  refine kg_ald (y := (hz5 1082 x1.toNatClampNeg)) hk_217 rfl wc_1082 gz6 rfl rfl ?_
  refine wf_gd hF (fun gz7 hF => ?_)
  refine wf_let hF (fun hz8 hhz8 hF => ?_)
  refine kg_ast hk_217 rfl wc_1089 gz7 hhz8 rfl ?_
  refine kg_aload hk_217 rfl rfl rfl ?_
  refine kg_get (v := .ref (1090 + 1)) hk_217 rfl wk_1076_14 rfl rfl ?_
  refine kg_iload hk_217 rfl rfl rfl ?_
  refine kg_aload hk_217 rfl rfl rfl ?_
  refine kg_get (v := .ref (1120 + 1)) hk_217 rfl wk_1076_57 rfl rfl ?_
  refine kg_iload hk_217 rfl rfl rfl ?_
  refine wf_gd hF (fun gz9 hF => ?_)
  refine kg_ald (y := (hz8 1120 x1.toNatClampNeg)) hk_217 rfl wc_1120 gz9 rfl rfl ?_
  refine wf_gd hF (fun gz10 hF => ?_)
  refine wf_let hF (fun hz11 hhz11 hF => ?_)
  refine kg_ast hk_217 rfl wc_1090 gz10 hhz11 rfl ?_
  refine kg_push (x := 0) hk_217 rfl (by decide) rfl ?_
  refine kg_istore (L2 := [.ref (1076 + 1), .int x1, .int x2, .int 0]) hk_217 rfl (Nat.le_of_ble_eq_true rfl) rfl rfl ?_
  refine wf_bind hF (fun ez16 hez16 hF => ?_)
  refine l_217_35_ok hez16 ?_ _
  intro u1 u2 u3
  refine kg_aload hk_217 rfl rfl rfl ?_
  refine kg_push (x := 0) hk_217 rfl (by decide) rfl ?_
  refine wf_let hF (fun hz17 hhz17 hF => ?_)
  refine kg_put hk_217 rfl wk_1076_45 rfl (w_fitB rfl) hhz17 rfl ?_
  have hF := Option.some.inj hF
  subst hF
  exact kg_ret hk_217 rfl rfl
-- NotebookWeirModel.hasSameText(I[III)Z
theorem hk_214 : jP[214]? = some (jc_214, 7, [], []) := by rfl
def l_214_12 (h : Hp) (x1 : Int32) (q2 : Nat) (x3 : Int32) (x4 : Int32) (x5 : Int32) (x6 : Int32) : Option ((Int32 × Int32) ⊕ Int32) :=
  if x6 < x4 then
    (if x5 = 0 then
      (w_gd (w_bo x5) <|
      some (.inr x5))
    else
      (w_gd (w_ix (x3 + x6) (w_len q2)) <|
      w_gd (w_ix ((40 * x1) + x6) 640) <|
      some (.inl ((if (h q2 (x3 + x6).toNatClampNeg) = (h 1079 ((40 * x1) + x6).toNatClampNeg) then 1 else 0 : Int32), (x6 + 1)))))
  else
    (w_gd (w_bo x5) <|
    some (.inr x5))
theorem l_214_12_st {X : List Int32} {o : kO}  {h : Hp} {q2 : Nat} {x1 : Int32} {x3 : Int32} {x4 : Int32} {x5 : Int32} {x6 : Int32} (t2 : w_tab[q2]? = some (50, (w_len q2), [])) {r : (Int32 × Int32) ⊕ Int32} (hF : l_214_12 h x1 q2 x3 x4 x5 x6 = some r) (hK : ∀ s' : Int32 × Int32, r = .inl s' → k_Go X 0 214 (12, [.ref (1076 + 1), .int x1, .ref (q2 + 1), .int x3, .int x4, .int (s'.1), .int (s'.2)], []) h o) (hX0 : ∀ e : Int32, r = .inr e → (.inl (some (.int e)), h) = o) : k_Go X 0 214 (12, [.ref (1076 + 1), .int x1, .ref (q2 + 1), .int x3, .int x4, .int x5, .int x6], []) h o := by
  refine kg_iload hk_214 rfl rfl rfl ?_
  refine kg_iload hk_214 rfl rfl rfl ?_
  refine wf_if hF (fun cz3 hF => ?_) (fun cz3 hF => ?_)
  · refine kg_icF hk_214 rfl (jc_F3 cz3) rfl ?_
    refine kg_iload hk_214 rfl rfl rfl ?_
    refine wf_if hF (fun cz4 hF => ?_) (fun cz4 hF => ?_)
    · refine kg_ifT hk_214 rfl (jc_T0 cz4) ?_
      refine kg_iload hk_214 rfl rfl rfl ?_
      refine wf_gd hF (fun gz5 hF => ?_)
      have hF := Option.some.inj hF
      exact kg_iret hk_214 rfl (Or.inr gz5) (hX0 _ hF.symm)
    · refine kg_ifF hk_214 rfl (jc_F0 cz4) rfl ?_
      refine kg_aload hk_214 rfl rfl rfl ?_
      refine kg_iload hk_214 rfl rfl rfl ?_
      refine kg_iload hk_214 rfl rfl rfl ?_
      refine kg_bin (z := (x3 + x6)) hk_214 rfl rfl rfl ?_
      refine wf_gd hF (fun gz6 hF => ?_)
      refine kg_ald (y := (h q2 (x3 + x6).toNatClampNeg)) hk_214 rfl t2 gz6 rfl rfl ?_
      refine kg_aload hk_214 rfl rfl rfl ?_
      refine kg_get (v := .ref (1079 + 1)) hk_214 rfl wk_1076_3 rfl rfl ?_
      refine kg_push (x := 40) hk_214 rfl (by decide) rfl ?_
      refine kg_iload hk_214 rfl rfl rfl ?_
      refine kg_bin (z := (40 * x1)) hk_214 rfl rfl rfl ?_
      refine kg_iload hk_214 rfl rfl rfl ?_
      refine kg_bin (z := ((40 * x1) + x6)) hk_214 rfl rfl rfl ?_
      refine wf_gd hF (fun gz7 hF => ?_)
      refine kg_ald (y := (h 1079 ((40 * x1) + x6).toNatClampNeg)) hk_214 rfl wc_1079 gz7 rfl rfl ?_
      refine kv_mid (p := 34) (L := [.ref (1076 + 1), .int x1, .ref (q2 + 1), .int x3, .int x4, .int x5, .int x6]) (S := [.int (if (h q2 (x3 + x6).toNatClampNeg) = (h 1079 ((40 * x1) + x6).toNatClampNeg) then 1 else 0 : Int32)]) ?_ (fun hK => ?_)
      · refine kg_istore (L2 := [.ref (1076 + 1), .int x1, .ref (q2 + 1), .int x3, .int x4, .int (if (h q2 (x3 + x6).toNatClampNeg) = (h 1079 ((40 * x1) + x6).toNatClampNeg) then 1 else 0 : Int32), .int x6]) hk_214 rfl (Nat.le_of_ble_eq_true rfl) rfl rfl ?_
        refine kg_iinc (y := (x6 + 1)) (L2 := [.ref (1076 + 1), .int x1, .ref (q2 + 1), .int x3, .int x4, .int (if (h q2 (x3 + x6).toNatClampNeg) = (h 1079 ((40 * x1) + x6).toNatClampNeg) then 1 else 0 : Int32), .int (x6 + 1)]) hk_214 rfl rfl rfl rfl rfl ?_
        refine kg_goto hk_214 rfl ?_
        have hF := Option.some.inj hF
        exact hK _ hF.symm
      · by_cases cz8 : (h q2 (x3 + x6).toNatClampNeg) = (h 1079 ((40 * x1) + x6).toNatClampNeg)
        · have hK := kv_T cz8 hK
          refine kg_icF hk_214 rfl (jc_F1 cz8) rfl ?_
          refine kg_push (x := 1) hk_214 rfl (by decide) rfl ?_
          refine kg_goto hk_214 rfl ?_
          exact hK
        · have hK := kv_F cz8 hK
          refine kg_icT hk_214 rfl (jc_T1 cz8) ?_
          refine kg_push (x := 0) hk_214 rfl (by decide) rfl ?_
          exact hK
  · refine kg_icT hk_214 rfl (jc_T3 cz3) ?_
    refine kg_iload hk_214 rfl rfl rfl ?_
    refine wf_gd hF (fun gz9 hF => ?_)
    have hF := Option.some.inj hF
    exact kg_iret hk_214 rfl (Or.inr gz9) (hX0 _ hF.symm)
theorem l_214_12_ok {X : List Int32} {o : kO}  {h : Hp} {q2 : Nat} {x1 : Int32} {x3 : Int32} {x4 : Int32} (t2 : w_tab[q2]? = some (50, (w_len q2), [])) {n : Nat} {s : Int32 × Int32} {e : Int32} (hF : w_lp (fun (s : Int32 × Int32) => l_214_12 h x1 q2 x3 x4 s.1 s.2) n s = some e) (hX0 : (.inl (some (.int e)), h) = o) : k_Go X 0 214 (12, [.ref (1076 + 1), .int x1, .ref (q2 + 1), .int x3, .int x4, .int s.1, .int s.2], []) h o := by
  exact w_lp_ok (P := (fun (s : Int32 × Int32) => k_Go X 0 214 (12, [.ref (1076 + 1), .int x1, .ref (q2 + 1), .int x3, .int x4, .int s.1, .int s.2], []) h o)) (Q := (fun (e : Int32) => ((.inl (some (.int e)), h) = o))) (fun s r hF hK hX => l_214_12_st t2 hF hK (fun x hx => (hX _ hx))) n s e hF hX0
def q_214_9 (h : Hp) (x1 : Int32) (q2 : Nat) (x3 : Int32) (x4 : Int32) (s0 : Int32) : Option (Int32) :=
  w_lp (fun (s : Int32 × Int32) => l_214_12 h x1 q2 x3 x4 s.1 s.2) w_N (s0, 0)
theorem q_214_9_ok {X : List Int32}   {h : Hp} {q2 : Nat} {s0 : Int32} {x1 : Int32} {x3 : Int32} {x4 : Int32} (t2 : w_tab[q2]? = some (50, (w_len q2), [])) {r : Int32} (hF : q_214_9 h x1 q2 x3 x4 s0 = some r)  : ∀ (u5 : Value) (u6 : Value), k_Go X 0 214 (9, [.ref (1076 + 1), .int x1, .ref (q2 + 1), .int x3, .int x4, u5, u6], [.int s0]) h (.inl (some (.int r)), h) := by
  intro u5 u6
  unfold q_214_9 at hF
  refine kg_istore (L2 := [.ref (1076 + 1), .int x1, .ref (q2 + 1), .int x3, .int x4, .int s0, u6]) hk_214 rfl (Nat.le_of_ble_eq_true rfl) rfl rfl ?_
  refine kg_push (x := 0) hk_214 rfl (by decide) rfl ?_
  refine kg_istore (L2 := [.ref (1076 + 1), .int x1, .ref (q2 + 1), .int x3, .int x4, .int s0, .int 0]) hk_214 rfl (Nat.le_of_ble_eq_true rfl) rfl rfl ?_
  exact l_214_12_ok t2 hF rfl
def p_214 (h : Hp) (x1 : Int32) (q2 : Nat) (x3 : Int32) (x4 : Int32) : Option (Int32) :=
  w_gd (w_ix x1 16) <|
  q_214_9 h x1 q2 x3 x4 (if x4 = (h 1080 x1.toNatClampNeg) then 1 else 0 : Int32)
theorem p_214_ok {X : List Int32}  {h : Hp} {x1 : Int32} {q2 : Nat} {x3 : Int32} {x4 : Int32} (t2 : w_tab[q2]? = some (50, w_len q2, [])) {r : Int32} (hF : p_214 h x1 q2 x3 x4 = some r) : k_Ev X 0 214 [.ref (1076 + 1), .int x1, .ref (q2 + 1), .int x3, .int x4] h (.inl (some (.int r)), h) := by
  refine k_of hk_214 ?_
  show k_Go X 0 214 (0, [.ref (1076 + 1), .int x1, .ref (q2 + 1), .int x3, .int x4, (.retAddr 0), (.retAddr 0)], []) h _
  unfold p_214 at hF
  refine kg_iload hk_214 rfl rfl rfl ?_
  refine kg_aload hk_214 rfl rfl rfl ?_
  refine kg_get (v := .ref (1080 + 1)) hk_214 rfl wk_1076_4 rfl rfl ?_
  refine kg_iload hk_214 rfl rfl rfl ?_
  refine wf_gd hF (fun gz1 hF => ?_)
  refine kg_ald (y := (h 1080 x1.toNatClampNeg)) hk_214 rfl wc_1080 gz1 rfl rfl ?_
  refine kv_mid (p := 9) (L := [.ref (1076 + 1), .int x1, .ref (q2 + 1), .int x3, .int x4, (.retAddr 0), (.retAddr 0)]) (S := [.int (if x4 = (h 1080 x1.toNatClampNeg) then 1 else 0 : Int32)]) ?_ (fun hK => ?_)
  · exact q_214_9_ok t2 hF _ _
  · by_cases cz2 : x4 = (h 1080 x1.toNatClampNeg)
    · have hK := kv_T cz2 hK
      refine kg_icF hk_214 rfl (jc_F1 cz2) rfl ?_
      refine kg_push (x := 1) hk_214 rfl (by decide) rfl ?_
      refine kg_goto hk_214 rfl ?_
      exact hK
    · have hK := kv_F cz2 hK
      refine kg_icT hk_214 rfl (jc_T1 cz2) ?_
      refine kg_push (x := 0) hk_214 rfl (by decide) rfl ?_
      exact hK
-- NotebookWeirModel.fetches(II)Z
theorem hk_194 : jP[194]? = some (jc_194, 4, [], []) := by rfl
def q_194_57 (h : Hp) : Option (Int32 × Hp) :=
  some ((if (h 1132 0) = (-2) then 0 else 1 : Int32), h)
theorem q_194_57_ok {X : List Int32}   {h : Hp}  {r : Int32 × Hp} (hF : q_194_57 h = some r)  : ∀ (u1 : Value) (u2 : Value) (u3 : Value), k_Go X 4 194 (57, [.ref (1076 + 1), u1, u2, u3], []) h (.inl (some (.int r.1)), r.2) := by
  intro u1 u2 u3
  unfold q_194_57 at hF
  refine kg_aload hk_194 rfl rfl rfl ?_
  refine kg_get (v := .ref (1132 + 1)) hk_194 rfl wk_1076_78 rfl rfl ?_
  refine kg_push (x := 0) hk_194 rfl (by decide) rfl ?_
  refine kg_ald (y := (h 1132 0)) hk_194 rfl wc_1132 (by decide) rfl rfl ?_
  refine kg_push (x := (-2)) hk_194 rfl (by decide) rfl ?_
  refine kv_mid (p := 66) (L := [.ref (1076 + 1), u1, u2, u3]) (S := [.int (if (h 1132 0) = (-2) then 0 else 1 : Int32)]) ?_ (fun hK => ?_)
  · have hF := Option.some.inj hF
    subst hF
    exact kg_iret hk_194 rfl (Or.inr (w_boi rfl rfl)) rfl
  · by_cases cz5 : (h 1132 0) = (-2)
    · have hK := kv_T cz5 hK
      refine kg_icT hk_194 rfl (jc_T0 cz5) ?_
      refine kg_push (x := 0) hk_194 rfl (by decide) rfl ?_
      exact hK
    · have hK := kv_F cz5 hK
      refine kg_icF hk_194 rfl (jc_F0 cz5) rfl ?_
      refine kg_push (x := 1) hk_194 rfl (by decide) rfl ?_
      refine kg_goto hk_194 rfl ?_
      exact hK
def q_194_44 (h : Hp) (x2 : Int32) (x3 : Int32) (s0 : Nat) : Option (Int32 × Hp) :=
  (p_193 h s0 ((234 * x3) + (9 * (x2 - 97))) 1132 0).bind fun vz8 =>
  q_194_57 vz8
theorem q_194_44_ok {X : List Int32}   {h : Hp} {s0 : Nat} {x2 : Int32} {x3 : Int32} (ts0 : w_tab[s0]? = some (50, w_len s0, [])) {r : Int32 × Hp} (hF : q_194_44 h x2 x3 s0 = some r)  : ∀ (u1 : Value), k_Go X 4 194 (44, [.ref (1076 + 1), u1, .int x2, .int x3], [.ref (s0 + 1), .ref (1076 + 1)]) h (.inl (some (.int r.1)), r.2) := by
  intro u1
  unfold q_194_44 at hF
  refine kg_push (x := 234) hk_194 rfl (by decide) rfl ?_
  refine kg_iload hk_194 rfl rfl rfl ?_
  refine kg_bin (z := (234 * x3)) hk_194 rfl rfl rfl ?_
  refine kg_push (x := 9) hk_194 rfl (by decide) rfl ?_
  refine kg_iload hk_194 rfl rfl rfl ?_
  refine kg_push (x := 97) hk_194 rfl (by decide) rfl ?_
  refine kg_bin (z := (x2 - 97)) hk_194 rfl rfl rfl ?_
  refine kg_bin (z := (9 * (x2 - 97))) hk_194 rfl rfl rfl ?_
  refine kg_bin (z := ((234 * x3) + (9 * (x2 - 97)))) hk_194 rfl rfl rfl ?_
  refine kg_aload hk_194 rfl rfl rfl ?_
  refine kg_get (v := .ref (1132 + 1)) hk_194 rfl wk_1076_78 rfl rfl ?_
  refine kg_push (x := 0) hk_194 rfl (by decide) rfl ?_
  refine wf_bind hF (fun vz8 hvz8 hF => ?_)
  refine kg_call (as := [.ref (1076 + 1), .ref (s0 + 1), .int ((234 * x3) + (9 * (x2 - 97))), .ref (1132 + 1), .int 0]) (rest := []) hk_194 rfl (Or.inr (Or.inr (Or.inr ⟨Or.inl rfl, _, _, rfl, wc_1076⟩))) rfl rfl rfl (Nat.not_lt.mpr (Nat.le_of_ble_eq_true rfl)) (p_193_ok (w_lenE ts0) (w_lenE wc_1132) hvz8) (by decide) rfl ?_
  exact q_194_57_ok hF _ _ _
def p_194 (h : Hp) (x1 : Int32) (x2 : Int32) : Option (Int32 × Hp) :=
  (p_182 h x1 x2).bind fun vz1 =>
  w_let (w_up h 1132 0 (-2)) fun hz2 =>
  if vz1 < 16 then
    (if vz1 < 0 then
      (q_194_57 hz2)
    else
      (if vz1 = x1 then
        (q_194_57 hz2)
      else
        (if (hz2 1076 29) = 2 then
          (q_194_44 hz2 x2 vz1 1123)
        else
          (q_194_44 hz2 x2 vz1 1093))))
  else
    (w_let (w_up hz2 1132 0 (-1)) fun hz9 =>
    w_gd (w_ix (vz1 - 16) 4) <|
    w_let (w_up hz9 1132 1 (hz9 1115 (vz1 - 16).toNatClampNeg)) fun hz11 =>
    q_194_57 hz11)
theorem p_194_ok {X : List Int32}  {h : Hp} {x1 : Int32} {x2 : Int32}  {r : Int32 × Hp} (hF : p_194 h x1 x2 = some r) : k_Ev X 4 194 [.ref (1076 + 1), .int x1, .int x2] h (.inl (some (.int r.1)), r.2) := by
  refine k_of hk_194 ?_
  show k_Go X 4 194 (0, [.ref (1076 + 1), .int x1, .int x2, (.retAddr 0)], []) h _
  unfold p_194 at hF
  refine kg_aload hk_194 rfl rfl rfl ?_
  refine kg_iload hk_194 rfl rfl rfl ?_
  refine kg_iload hk_194 rfl rfl rfl ?_
  refine wf_bind hF (fun vz1 hvz1 hF => ?_)
  refine kg_call (as := [.ref (1076 + 1), .int x1, .int x2]) (rest := []) hk_194 rfl (Or.inr (Or.inr (Or.inr ⟨Or.inl rfl, _, _, rfl, wc_1076⟩))) rfl rfl rfl (Nat.not_lt.mpr (Nat.le_of_ble_eq_true rfl)) (p_182_ok hvz1) (by decide) rfl ?_
  refine kg_istore (L2 := [.ref (1076 + 1), .int x1, .int x2, .int vz1]) hk_194 rfl (Nat.le_of_ble_eq_true rfl) rfl rfl ?_
  refine kg_aload hk_194 rfl rfl rfl ?_
  refine kg_get (v := .ref (1132 + 1)) hk_194 rfl wk_1076_78 rfl rfl ?_
  refine kg_push (x := 0) hk_194 rfl (by decide) rfl ?_
  refine kg_push (x := (-2)) hk_194 rfl (by decide) rfl ?_
  refine wf_let hF (fun hz2 hhz2 hF => ?_)
  refine kg_ast hk_194 rfl wc_1132 (by decide) hhz2 rfl ?_
  refine kg_iload hk_194 rfl rfl rfl ?_
  refine kg_push (x := 16) hk_194 rfl (by decide) rfl ?_
  refine wf_if hF (fun cz3 hF => ?_) (fun cz3 hF => ?_)
  · refine kg_icT hk_194 rfl (jc_T2 cz3) ?_
    refine kg_iload hk_194 rfl rfl rfl ?_
    refine wf_if hF (fun cz4 hF => ?_) (fun cz4 hF => ?_)
    · refine kg_ifT hk_194 rfl (jc_T2 cz4) ?_
      exact q_194_57_ok hF _ _ _
    · refine kg_ifF hk_194 rfl (jc_F2 cz4) rfl ?_
      refine kg_iload hk_194 rfl rfl rfl ?_
      refine kg_iload hk_194 rfl rfl rfl ?_
      refine wf_if hF (fun cz6 hF => ?_) (fun cz6 hF => ?_)
      · refine kg_icT hk_194 rfl (jc_T0 cz6) ?_
        exact q_194_57_ok hF _ _ _
      · refine kg_icF hk_194 rfl (jc_F0 cz6) rfl ?_
        refine kg_aload hk_194 rfl rfl rfl ?_
        refine kg_aload hk_194 rfl rfl rfl ?_
        refine kg_get (v := .int (hz2 1076 29)) hk_194 rfl wk_1076_29 rfl rfl ?_
        refine kg_push (x := 2) hk_194 rfl (by decide) rfl ?_
        refine wf_if hF (fun cz7 hF => ?_) (fun cz7 hF => ?_)
        · refine kg_icF hk_194 rfl (jc_F1 cz7) rfl ?_
          refine kg_aload hk_194 rfl rfl rfl ?_
          refine kg_get (v := .ref (1123 + 1)) hk_194 rfl wk_1076_60 rfl rfl ?_
          refine kg_goto hk_194 rfl ?_
          exact q_194_44_ok (w_lenE wc_1123) hF _
        · refine kg_icT hk_194 rfl (jc_T1 cz7) ?_
          refine kg_aload hk_194 rfl rfl rfl ?_
          refine kg_get (v := .ref (1093 + 1)) hk_194 rfl wk_1076_17 rfl rfl ?_
          exact q_194_44_ok (w_lenE wc_1093) hF _
  · refine kg_icF hk_194 rfl (jc_F2 cz3) rfl ?_
    refine kg_aload hk_194 rfl rfl rfl ?_
    refine kg_get (v := .ref (1132 + 1)) hk_194 rfl wk_1076_78 rfl rfl ?_
    refine kg_push (x := 0) hk_194 rfl (by decide) rfl ?_
    refine kg_push (x := (-1)) hk_194 rfl (by decide) rfl ?_
    refine wf_let hF (fun hz9 hhz9 hF => ?_)
    refine kg_ast hk_194 rfl wc_1132 (by decide) hhz9 rfl ?_
    refine kg_aload hk_194 rfl rfl rfl ?_
    refine kg_get (v := .ref (1132 + 1)) hk_194 rfl wk_1076_78 rfl rfl ?_
    refine kg_push (x := 1) hk_194 rfl (by decide) rfl ?_
    refine kg_aload hk_194 rfl rfl rfl ?_
    refine kg_get (v := .ref (1115 + 1)) hk_194 rfl wk_1076_52 rfl rfl ?_
    refine kg_iload hk_194 rfl rfl rfl ?_
    refine kg_push (x := 16) hk_194 rfl (by decide) rfl ?_
    refine kg_bin (z := (vz1 - 16)) hk_194 rfl rfl rfl ?_
    refine wf_gd hF (fun gz10 hF => ?_)
    refine kg_ald (y := (hz9 1115 (vz1 - 16).toNatClampNeg)) hk_194 rfl wc_1115 gz10 rfl rfl ?_
    refine wf_let hF (fun hz11 hhz11 hF => ?_)
    refine kg_ast hk_194 rfl wc_1132 (by decide) hhz11 rfl ?_
    refine kg_goto hk_194 rfl ?_
    exact q_194_57_ok hF _ _ _
-- NotebookWeirModel.hasSameValues(I[II)Z
theorem hk_218 : jP[218]? = some (jc_218, 7, [], []) := by rfl
def q_218_62 (h : Hp) (x1 : Int32) (q2 : Nat) (x3 : Int32) (x5 : Int32) (x6 : Int32) (s0 : Int32) (s1 : Int32) : Option ((Int32 × Int32) ⊕ Int32) :=
  w_gd ((if s1 ≤ s0 then (w_ix x6 9) && (w_ix ((x3 + (9 * x5)) + x6) (w_len q2)) else true)) <|
  some (.inl ((if s1 ≤ s0 then (if (h 1132 x6.toNatClampNeg) = (h q2 ((x3 + (9 * x5)) + x6).toNatClampNeg) then 1 else 0 : Int32) else 1 : Int32), (x6 + 1)))
theorem q_218_62_ok {X : List Int32} {o : kO}  {h : Hp} {q2 : Nat} {s0 : Int32} {s1 : Int32} {x1 : Int32} {x3 : Int32} {x5 : Int32} {x6 : Int32} (t2 : w_tab[q2]? = some (50, (w_len q2), [])) {r : (Int32 × Int32) ⊕ Int32} (hF : q_218_62 h x1 q2 x3 x5 x6 s0 s1 = some r) (hK : ∀ s' : Int32 × Int32, r = .inl s' → k_Go X 5 218 (44, [.ref (1076 + 1), .int x1, .ref (q2 + 1), .int x3, .int (s'.1), .int x5, .int (s'.2)], []) h o) (hX0 : ∀ e : Int32, r = .inr e → ∀ (u6 : Value), k_Go X 5 218 (83, [.ref (1076 + 1), .int x1, .ref (q2 + 1), .int x3, .int e, .int x5, u6], []) h o) : ∀ (u4 : Value), k_Go X 5 218 (62, [.ref (1076 + 1), .int x1, .ref (q2 + 1), .int x3, u4, .int x5, .int x6], [.int s0, .int s1]) h o := by
  intro u4
  unfold q_218_62 at hF
  refine wf_gd hF (fun gz18 hF => ?_)
  refine kv_mid (p := 80) (L := [.ref (1076 + 1), .int x1, .ref (q2 + 1), .int x3, u4, .int x5, .int x6]) (S := [.int (if s1 ≤ s0 then (if (h 1132 x6.toNatClampNeg) = (h q2 ((x3 + (9 * x5)) + x6).toNatClampNeg) then 1 else 0 : Int32) else 1 : Int32)]) ?_ (fun hK => ?_)
  · refine kg_istore (L2 := [.ref (1076 + 1), .int x1, .ref (q2 + 1), .int x3, .int (if s1 ≤ s0 then (if (h 1132 x6.toNatClampNeg) = (h q2 ((x3 + (9 * x5)) + x6).toNatClampNeg) then 1 else 0 : Int32) else 1 : Int32), .int x5, .int x6]) hk_218 rfl (Nat.le_of_ble_eq_true rfl) rfl rfl ?_
    refine kg_iinc (y := (x6 + 1)) (L2 := [.ref (1076 + 1), .int x1, .ref (q2 + 1), .int x3, .int (if s1 ≤ s0 then (if (h 1132 x6.toNatClampNeg) = (h q2 ((x3 + (9 * x5)) + x6).toNatClampNeg) then 1 else 0 : Int32) else 1 : Int32), .int x5, .int (x6 + 1)]) hk_218 rfl rfl rfl rfl rfl ?_
    refine kg_goto hk_218 rfl ?_
    have hF := Option.some.inj hF
    exact hK _ hF.symm
  · have hg := gz18
    by_cases cz14 : s1 ≤ s0
    · have hg := wv_T cz14 hg
      have hK := kv_T cz14 hK
      have gz15 := wb_1 hg
      have hg := wb_2 hg
      have gz16 := hg
      refine kg_icF hk_218 rfl (jc_F4 cz14) rfl ?_
      refine kg_aload hk_218 rfl rfl rfl ?_
      refine kg_get (v := .ref (1132 + 1)) hk_218 rfl wk_1076_78 rfl rfl ?_
      refine kg_iload hk_218 rfl rfl rfl ?_
      refine kg_ald (y := (h 1132 x6.toNatClampNeg)) hk_218 rfl wc_1132 gz15 rfl rfl ?_
      refine kg_aload hk_218 rfl rfl rfl ?_
      refine kg_iload hk_218 rfl rfl rfl ?_
      refine kg_push (x := 9) hk_218 rfl (by decide) rfl ?_
      refine kg_iload hk_218 rfl rfl rfl ?_
      refine kg_bin (z := (9 * x5)) hk_218 rfl rfl rfl ?_
      refine kg_bin (z := (x3 + (9 * x5))) hk_218 rfl rfl rfl ?_
      refine kg_iload hk_218 rfl rfl rfl ?_
      refine kg_bin (z := ((x3 + (9 * x5)) + x6)) hk_218 rfl rfl rfl ?_
      refine kg_ald (y := (h q2 ((x3 + (9 * x5)) + x6).toNatClampNeg)) hk_218 rfl t2 gz16 rfl rfl ?_
      by_cases cz17 : (h 1132 x6.toNatClampNeg) = (h q2 ((x3 + (9 * x5)) + x6).toNatClampNeg)
      · have hK := kv_T cz17 hK
        refine kg_icF hk_218 rfl (jc_F1 cz17) rfl ?_
        refine kg_push (x := 1) hk_218 rfl (by decide) rfl ?_
        refine kg_goto hk_218 rfl ?_
        exact hK
      · have hK := kv_F cz17 hK
        refine kg_icT hk_218 rfl (jc_T1 cz17) ?_
        refine kg_push (x := 0) hk_218 rfl (by decide) rfl ?_
        exact hK
    · have hK := kv_F cz14 hK
      refine kg_icT hk_218 rfl (jc_T4 cz14) ?_
      refine kg_push (x := 1) hk_218 rfl (by decide) rfl ?_
      refine kg_goto hk_218 rfl ?_
      exact hK
def l_218_44 (h : Hp) (x1 : Int32) (q2 : Nat) (x3 : Int32) (x5 : Int32) (x4 : Int32) (x6 : Int32) : Option ((Int32 × Int32) ⊕ Int32) :=
  if x6 < 9 then
    (if x4 = 0 then
      (some (.inr x4))
    else
      (q_218_62 h x1 q2 x3 x5 x6 (if (h 1132 0) = (-1) then 1 else (h 1132 0) : Int32) x6))
  else
    (some (.inr x4))
theorem l_218_44_st {X : List Int32} {o : kO}  {h : Hp} {q2 : Nat} {x1 : Int32} {x3 : Int32} {x4 : Int32} {x5 : Int32} {x6 : Int32} (t2 : w_tab[q2]? = some (50, (w_len q2), [])) {r : (Int32 × Int32) ⊕ Int32} (hF : l_218_44 h x1 q2 x3 x5 x4 x6 = some r) (hK : ∀ s' : Int32 × Int32, r = .inl s' → k_Go X 5 218 (44, [.ref (1076 + 1), .int x1, .ref (q2 + 1), .int x3, .int (s'.1), .int x5, .int (s'.2)], []) h o) (hX0 : ∀ e : Int32, r = .inr e → ∀ (u6 : Value), k_Go X 5 218 (83, [.ref (1076 + 1), .int x1, .ref (q2 + 1), .int x3, .int e, .int x5, u6], []) h o) : k_Go X 5 218 (44, [.ref (1076 + 1), .int x1, .ref (q2 + 1), .int x3, .int x4, .int x5, .int x6], []) h o := by
  refine kg_iload hk_218 rfl rfl rfl ?_
  refine kg_push (x := 9) hk_218 rfl (by decide) rfl ?_
  refine wf_if hF (fun cz11 hF => ?_) (fun cz11 hF => ?_)
  · refine kg_icF hk_218 rfl (jc_F3 cz11) rfl ?_
    refine kg_iload hk_218 rfl rfl rfl ?_
    refine wf_if hF (fun cz12 hF => ?_) (fun cz12 hF => ?_)
    · refine kg_ifT hk_218 rfl (jc_T0 cz12) ?_
      have hF := Option.some.inj hF
      exact hX0 _ hF.symm _
    · refine kg_ifF hk_218 rfl (jc_F0 cz12) rfl ?_
      refine kg_iload hk_218 rfl rfl rfl ?_
      refine kg_aload hk_218 rfl rfl rfl ?_
      refine kg_get (v := .ref (1132 + 1)) hk_218 rfl wk_1076_78 rfl rfl ?_
      refine kg_push (x := 0) hk_218 rfl (by decide) rfl ?_
      refine kg_ald (y := (h 1132 0)) hk_218 rfl wc_1132 (by decide) rfl rfl ?_
      refine kg_push (x := (-1)) hk_218 rfl (by decide) rfl ?_
      refine kv_mid (p := 62) (L := [.ref (1076 + 1), .int x1, .ref (q2 + 1), .int x3, .int x4, .int x5, .int x6]) (S := [.int (if (h 1132 0) = (-1) then 1 else (h 1132 0) : Int32), .int x6]) ?_ (fun hK => ?_)
      · exact q_218_62_ok t2 hF hK hX0 _
      · by_cases cz13 : (h 1132 0) = (-1)
        · have hK := kv_T cz13 hK
          refine kg_icF hk_218 rfl (jc_F1 cz13) rfl ?_
          refine kg_push (x := 1) hk_218 rfl (by decide) rfl ?_
          refine kg_goto hk_218 rfl ?_
          exact hK
        · have hK := kv_F cz13 hK
          refine kg_icT hk_218 rfl (jc_T1 cz13) ?_
          refine kg_aload hk_218 rfl rfl rfl ?_
          refine kg_get (v := .ref (1132 + 1)) hk_218 rfl wk_1076_78 rfl rfl ?_
          refine kg_push (x := 0) hk_218 rfl (by decide) rfl ?_
          refine kg_ald (y := (h 1132 0)) hk_218 rfl wc_1132 (by decide) rfl rfl ?_
          exact hK
  · refine kg_icT hk_218 rfl (jc_T3 cz11) ?_
    have hF := Option.some.inj hF
    exact hX0 _ hF.symm _
theorem l_218_44_ok {X : List Int32} {o : kO}  {h : Hp} {q2 : Nat} {x1 : Int32} {x3 : Int32} {x5 : Int32} (t2 : w_tab[q2]? = some (50, (w_len q2), [])) {n : Nat} {s : Int32 × Int32} {e : Int32} (hF : w_lp (fun (s : Int32 × Int32) => l_218_44 h x1 q2 x3 x5 s.1 s.2) n s = some e) (hX0 : ∀ (u6 : Value), k_Go X 5 218 (83, [.ref (1076 + 1), .int x1, .ref (q2 + 1), .int x3, .int e, .int x5, u6], []) h o) : k_Go X 5 218 (44, [.ref (1076 + 1), .int x1, .ref (q2 + 1), .int x3, .int s.1, .int x5, .int s.2], []) h o := by
  exact w_lp_ok (P := (fun (s : Int32 × Int32) => k_Go X 5 218 (44, [.ref (1076 + 1), .int x1, .ref (q2 + 1), .int x3, .int s.1, .int x5, .int s.2], []) h o)) (Q := (fun (e : Int32) => (∀ (u6 : Value), k_Go X 5 218 (83, [.ref (1076 + 1), .int x1, .ref (q2 + 1), .int x3, .int e, .int x5, u6], []) h o))) (fun s r hF hK hX => l_218_44_st t2 hF hK (fun x hx => (hX _ hx))) n s e hF hX0
def q_218_41 (h : Hp) (x1 : Int32) (q2 : Nat) (x3 : Int32) (x5 : Int32) (s0 : Int32) : Option ((Int32 × Int32 × Hp) ⊕ Int32 × Hp) :=
  (w_lp (fun (s : Int32 × Int32) => l_218_44 h x1 q2 x3 x5 s.1 s.2) w_N (s0, 1)).bind fun ez19 =>
  some (.inl (ez19, (x5 + 1), h))
theorem q_218_41_ok {X : List Int32} {o : kO}  {h : Hp} {q2 : Nat} {s0 : Int32} {x1 : Int32} {x3 : Int32} {x5 : Int32} (t2 : w_tab[q2]? = some (50, (w_len q2), [])) {r : (Int32 × Int32 × Hp) ⊕ Int32 × Hp} (hF : q_218_41 h x1 q2 x3 x5 s0 = some r) (hK : ∀ s' : Int32 × Int32 × Hp, r = .inl s' → ∀ (u6 : Value), k_Go X 5 218 (4, [.ref (1076 + 1), .int x1, .ref (q2 + 1), .int x3, .int (s'.1), .int (s'.2.1), u6], []) s'.2.2 o) (hX0 : ∀ e : Int32 × Hp, r = .inr e → (.inl (some (.int e.1)), e.2) = o) : ∀ (u4 : Value) (u6 : Value), k_Go X 5 218 (41, [.ref (1076 + 1), .int x1, .ref (q2 + 1), .int x3, u4, .int x5, u6], [.int s0]) h o := by
  intro u4 u6
  unfold q_218_41 at hF
  refine kg_istore (L2 := [.ref (1076 + 1), .int x1, .ref (q2 + 1), .int x3, .int s0, .int x5, u6]) hk_218 rfl (Nat.le_of_ble_eq_true rfl) rfl rfl ?_
  refine kg_push (x := 1) hk_218 rfl (by decide) rfl ?_
  refine kg_istore (L2 := [.ref (1076 + 1), .int x1, .ref (q2 + 1), .int x3, .int s0, .int x5, .int 1]) hk_218 rfl (Nat.le_of_ble_eq_true rfl) rfl rfl ?_
  refine wf_bind hF (fun ez19 hez19 hF => ?_)
  refine l_218_44_ok t2 hez19 ?_
  intro u6
  refine kg_iinc (y := (x5 + 1)) (L2 := [.ref (1076 + 1), .int x1, .ref (q2 + 1), .int x3, .int ez19, .int (x5 + 1), u6]) hk_218 rfl rfl rfl rfl rfl ?_
  refine kg_goto hk_218 rfl ?_
  have hF := Option.some.inj hF
  exact hK _ hF.symm _
def l_218_4 (x1 : Int32) (q2 : Nat) (x3 : Int32) (x4 : Int32) (x5 : Int32) (h : Hp) : Option ((Int32 × Int32 × Hp) ⊕ Int32 × Hp) :=
  if x5 < 26 then
    (if x4 = 0 then
      (w_gd (w_bo x4) <|
      some (.inr (x4, h)))
    else
      (w_gd (w_ix x1 16) <|
      if (((h 1085 x1.toNatClampNeg) >>> (x5 &&& 31)) &&& 1) = 1 then
        ((p_194 h x1 (97 + x5)).bind fun vz6 =>
        w_gd ((if vz6.1 = 0 then true else w_ix (x3 + (9 * x5)) (w_len q2))) <|
        q_218_41 vz6.2 x1 q2 x3 x5 (if vz6.1 = 0 then 0 else (if (vz6.2 1132 0) = (vz6.2 q2 (x3 + (9 * x5)).toNatClampNeg) then 1 else 0 : Int32) : Int32))
      else
        (some (.inl (x4, (x5 + 1), h)))))
  else
    (w_gd (w_bo x4) <|
    some (.inr (x4, h)))
theorem l_218_4_st {X : List Int32} {o : kO}  {h : Hp} {q2 : Nat} {x1 : Int32} {x3 : Int32} {x4 : Int32} {x5 : Int32} (t2 : w_tab[q2]? = some (50, (w_len q2), [])) {r : (Int32 × Int32 × Hp) ⊕ Int32 × Hp} (hF : l_218_4 x1 q2 x3 x4 x5 h = some r) (hK : ∀ s' : Int32 × Int32 × Hp, r = .inl s' → ∀ (u6 : Value), k_Go X 5 218 (4, [.ref (1076 + 1), .int x1, .ref (q2 + 1), .int x3, .int (s'.1), .int (s'.2.1), u6], []) s'.2.2 o) (hX0 : ∀ e : Int32 × Hp, r = .inr e → (.inl (some (.int e.1)), e.2) = o) : ∀ (u6 : Value), k_Go X 5 218 (4, [.ref (1076 + 1), .int x1, .ref (q2 + 1), .int x3, .int x4, .int x5, u6], []) h o := by
  intro u6
  refine kg_iload hk_218 rfl rfl rfl ?_
  refine kg_push (x := 26) hk_218 rfl (by decide) rfl ?_
  refine wf_if hF (fun cz1 hF => ?_) (fun cz1 hF => ?_)
  · refine kg_icF hk_218 rfl (jc_F3 cz1) rfl ?_
    refine kg_iload hk_218 rfl rfl rfl ?_
    refine wf_if hF (fun cz2 hF => ?_) (fun cz2 hF => ?_)
    · refine kg_ifT hk_218 rfl (jc_T0 cz2) ?_
      refine kg_iload hk_218 rfl rfl rfl ?_
      refine wf_gd hF (fun gz3 hF => ?_)
      have hF := Option.some.inj hF
      exact kg_iret hk_218 rfl (Or.inr gz3) (hX0 _ hF.symm)
    · refine kg_ifF hk_218 rfl (jc_F0 cz2) rfl ?_
      refine kg_aload hk_218 rfl rfl rfl ?_
      refine kg_get (v := .ref (1085 + 1)) hk_218 rfl wk_1076_9 rfl rfl ?_
      refine kg_iload hk_218 rfl rfl rfl ?_
      refine wf_gd hF (fun gz4 hF => ?_)
      refine kg_ald (y := (h 1085 x1.toNatClampNeg)) hk_218 rfl wc_1085 gz4 rfl rfl ?_
      refine kg_iload hk_218 rfl rfl rfl ?_
      refine kg_bin (z := ((h 1085 x1.toNatClampNeg) >>> (x5 &&& 31))) hk_218 rfl rfl rfl ?_
      refine kg_push (x := 1) hk_218 rfl (by decide) rfl ?_
      refine kg_bin (z := (((h 1085 x1.toNatClampNeg) >>> (x5 &&& 31)) &&& 1)) hk_218 rfl rfl rfl ?_
      refine kg_push (x := 1) hk_218 rfl (by decide) rfl ?_
      refine wf_if hF (fun cz5 hF => ?_) (fun cz5 hF => ?_)
      · refine kg_icF hk_218 rfl (jc_F1 cz5) rfl ?_
        refine kg_aload hk_218 rfl rfl rfl ?_
        refine kg_iload hk_218 rfl rfl rfl ?_
        refine kg_push (x := 97) hk_218 rfl (by decide) rfl ?_
        refine kg_iload hk_218 rfl rfl rfl ?_
        refine kg_bin (z := (97 + x5)) hk_218 rfl rfl rfl ?_
        refine wf_bind hF (fun vz6 hvz6 hF => ?_)
        refine kg_call (as := [.ref (1076 + 1), .int x1, .int (97 + x5)]) (rest := []) hk_218 rfl (Or.inr (Or.inr (Or.inr ⟨Or.inl rfl, _, _, rfl, wc_1076⟩))) rfl rfl rfl (Nat.not_lt.mpr (Nat.le_of_ble_eq_true rfl)) (p_194_ok hvz6) (by decide) rfl ?_
        refine wf_gd hF (fun gz10 hF => ?_)
        refine kv_mid (p := 41) (L := [.ref (1076 + 1), .int x1, .ref (q2 + 1), .int x3, .int x4, .int x5, u6]) (S := [.int (if vz6.1 = 0 then 0 else (if (vz6.2 1132 0) = (vz6.2 q2 (x3 + (9 * x5)).toNatClampNeg) then 1 else 0 : Int32) : Int32)]) ?_ (fun hK => ?_)
        · exact q_218_41_ok t2 hF hK hX0 _ _
        · have hg := gz10
          by_cases cz7 : vz6.1 = 0
          · have hK := kv_T cz7 hK
            refine kg_ifT hk_218 rfl (jc_T0 cz7) ?_
            refine kg_push (x := 0) hk_218 rfl (by decide) rfl ?_
            exact hK
          · have hg := wv_F cz7 hg
            have hK := kv_F cz7 hK
            have gz8 := hg
            refine kg_ifF hk_218 rfl (jc_F0 cz7) rfl ?_
            refine kg_aload hk_218 rfl rfl rfl ?_
            refine kg_get (v := .ref (1132 + 1)) hk_218 rfl wk_1076_78 rfl rfl ?_
            refine kg_push (x := 0) hk_218 rfl (by decide) rfl ?_
            refine kg_ald (y := (vz6.2 1132 0)) hk_218 rfl wc_1132 (by decide) rfl rfl ?_
            refine kg_aload hk_218 rfl rfl rfl ?_
            refine kg_iload hk_218 rfl rfl rfl ?_
            refine kg_push (x := 9) hk_218 rfl (by decide) rfl ?_
            refine kg_iload hk_218 rfl rfl rfl ?_
            refine kg_bin (z := (9 * x5)) hk_218 rfl rfl rfl ?_
            refine kg_bin (z := (x3 + (9 * x5))) hk_218 rfl rfl rfl ?_
            refine kg_ald (y := (vz6.2 q2 (x3 + (9 * x5)).toNatClampNeg)) hk_218 rfl t2 gz8 rfl rfl ?_
            by_cases cz9 : (vz6.2 1132 0) = (vz6.2 q2 (x3 + (9 * x5)).toNatClampNeg)
            · have hK := kv_T cz9 hK
              refine kg_icF hk_218 rfl (jc_F1 cz9) rfl ?_
              refine kg_push (x := 1) hk_218 rfl (by decide) rfl ?_
              refine kg_goto hk_218 rfl ?_
              exact hK
            · have hK := kv_F cz9 hK
              refine kg_icT hk_218 rfl (jc_T1 cz9) ?_
              refine kg_push (x := 0) hk_218 rfl (by decide) rfl ?_
              exact hK
      · refine kg_icT hk_218 rfl (jc_T1 cz5) ?_
        refine kg_iinc (y := (x5 + 1)) (L2 := [.ref (1076 + 1), .int x1, .ref (q2 + 1), .int x3, .int x4, .int (x5 + 1), u6]) hk_218 rfl rfl rfl rfl rfl ?_
        refine kg_goto hk_218 rfl ?_
        have hF := Option.some.inj hF
        exact hK _ hF.symm _
  · refine kg_icT hk_218 rfl (jc_T3 cz1) ?_
    refine kg_iload hk_218 rfl rfl rfl ?_
    refine wf_gd hF (fun gz20 hF => ?_)
    have hF := Option.some.inj hF
    exact kg_iret hk_218 rfl (Or.inr gz20) (hX0 _ hF.symm)
theorem l_218_4_ok {X : List Int32} {o : kO}  {q2 : Nat} {x1 : Int32} {x3 : Int32} (t2 : w_tab[q2]? = some (50, (w_len q2), [])) {n : Nat} {s : Int32 × Int32 × Hp} {e : Int32 × Hp} (hF : w_lp (fun (s : Int32 × Int32 × Hp) => l_218_4 x1 q2 x3 s.1 s.2.1 s.2.2) n s = some e) (hX0 : (.inl (some (.int e.1)), e.2) = o) : ∀ (u6 : Value), k_Go X 5 218 (4, [.ref (1076 + 1), .int x1, .ref (q2 + 1), .int x3, .int s.1, .int s.2.1, u6], []) s.2.2 o := by
  exact w_lp_ok (P := (fun (s : Int32 × Int32 × Hp) => ∀ (u6 : Value), k_Go X 5 218 (4, [.ref (1076 + 1), .int x1, .ref (q2 + 1), .int x3, .int s.1, .int s.2.1, u6], []) s.2.2 o)) (Q := (fun (e : Int32 × Hp) => ((.inl (some (.int e.1)), e.2) = o))) (fun s r hF hK hX => l_218_4_st t2 hF hK (fun x hx => (hX _ hx))) n s e hF hX0
def p_218 (h : Hp) (x1 : Int32) (q2 : Nat) (x3 : Int32) : Option (Int32 × Hp) :=
  w_lp (fun (s : Int32 × Int32 × Hp) => l_218_4 x1 q2 x3 s.1 s.2.1 s.2.2) w_N (1, 0, h)
theorem p_218_ok {X : List Int32}  {h : Hp} {x1 : Int32} {q2 : Nat} {x3 : Int32} (t2 : w_tab[q2]? = some (50, w_len q2, [])) {r : Int32 × Hp} (hF : p_218 h x1 q2 x3 = some r) : k_Ev X 5 218 [.ref (1076 + 1), .int x1, .ref (q2 + 1), .int x3] h (.inl (some (.int r.1)), r.2) := by
  refine k_of hk_218 ?_
  show k_Go X 5 218 (0, [.ref (1076 + 1), .int x1, .ref (q2 + 1), .int x3, (.retAddr 0), (.retAddr 0), (.retAddr 0)], []) h _
  unfold p_218 at hF
  refine kg_push (x := 1) hk_218 rfl (by decide) rfl ?_
  refine kg_istore (L2 := [.ref (1076 + 1), .int x1, .ref (q2 + 1), .int x3, .int 1, (.retAddr 0), (.retAddr 0)]) hk_218 rfl (Nat.le_of_ble_eq_true rfl) rfl rfl ?_
  refine kg_push (x := 0) hk_218 rfl (by decide) rfl ?_
  refine kg_istore (L2 := [.ref (1076 + 1), .int x1, .ref (q2 + 1), .int x3, .int 1, .int 0, (.retAddr 0)]) hk_218 rfl (Nat.le_of_ble_eq_true rfl) rfl rfl ?_
  exact l_218_4_ok t2 hF rfl _
-- NotebookWeirModel.keptOf(I)I
theorem hk_220 : jP[220]? = some (jc_220, 5, [], []) := by rfl
def q_220_41 (h : Hp) (x1 : Int32) (x2 : Int32) (x3 : Int32) (s0 : Int32) : Option ((Int32 × Int32 × Hp) ⊕ Int32 × Hp) :=
  some (.inl ((if s0 = 0 then x2 else x3 : Int32), (x3 + 1), h))
theorem q_220_41_ok {X : List Int32} {o : kO}  {h : Hp} {s0 : Int32} {x1 : Int32} {x2 : Int32} {x3 : Int32}  {r : (Int32 × Int32 × Hp) ⊕ Int32 × Hp} (hF : q_220_41 h x1 x2 x3 s0 = some r) (hK : ∀ s' : Int32 × Int32 × Hp, r = .inl s' → ∀ (u4 : Value), k_Go X 6 220 (6, [.ref (1076 + 1), .int x1, .int (s'.1), .int (s'.2.1), u4], []) s'.2.2 o) (hX0 : ∀ e : Int32 × Hp, r = .inr e → (.inl (some (.int e.1)), e.2) = o) : ∀ (u4 : Value), k_Go X 6 220 (41, [.ref (1076 + 1), .int x1, .int x2, .int x3, u4], [.int s0]) h o := by
  intro u4
  unfold q_220_41 at hF
  refine kg_istore (L2 := [.ref (1076 + 1), .int x1, .int x2, .int x3, .int s0]) hk_220 rfl (Nat.le_of_ble_eq_true rfl) rfl rfl ?_
  refine kg_iload hk_220 rfl rfl rfl ?_
  refine kv_mid (p := 47) (L := [.ref (1076 + 1), .int x1, .int x2, .int x3, .int s0]) (S := [.int (if s0 = 0 then x2 else x3 : Int32)]) ?_ (fun hK => ?_)
  · refine kg_istore (L2 := [.ref (1076 + 1), .int x1, .int (if s0 = 0 then x2 else x3 : Int32), .int x3, .int s0]) hk_220 rfl (Nat.le_of_ble_eq_true rfl) rfl rfl ?_
    refine kg_iinc (y := (x3 + 1)) (L2 := [.ref (1076 + 1), .int x1, .int (if s0 = 0 then x2 else x3 : Int32), .int (x3 + 1), .int s0]) hk_220 rfl rfl rfl rfl rfl ?_
    refine kg_goto hk_220 rfl ?_
    have hF := Option.some.inj hF
    exact hK _ hF.symm _
  · by_cases cz6 : s0 = 0
    · have hK := kv_T cz6 hK
      refine kg_ifT hk_220 rfl (jc_T0 cz6) ?_
      refine kg_iload hk_220 rfl rfl rfl ?_
      exact hK
    · have hK := kv_F cz6 hK
      refine kg_ifF hk_220 rfl (jc_F0 cz6) rfl ?_
      refine kg_iload hk_220 rfl rfl rfl ?_
      refine kg_goto hk_220 rfl ?_
      exact hK
def q_220_40 (h : Hp) (x1 : Int32) (x2 : Int32) (x3 : Int32) : Option ((Int32 × Int32 × Hp) ⊕ Int32 × Hp) :=
  q_220_41 h x1 x2 x3 0
theorem q_220_40_ok {X : List Int32} {o : kO}  {h : Hp} {x1 : Int32} {x2 : Int32} {x3 : Int32}  {r : (Int32 × Int32 × Hp) ⊕ Int32 × Hp} (hF : q_220_40 h x1 x2 x3 = some r) (hK : ∀ s' : Int32 × Int32 × Hp, r = .inl s' → ∀ (u4 : Value), k_Go X 6 220 (6, [.ref (1076 + 1), .int x1, .int (s'.1), .int (s'.2.1), u4], []) s'.2.2 o) (hX0 : ∀ e : Int32 × Hp, r = .inr e → (.inl (some (.int e.1)), e.2) = o) : ∀ (u4 : Value), k_Go X 6 220 (40, [.ref (1076 + 1), .int x1, .int x2, .int x3, u4], []) h o := by
  intro u4
  unfold q_220_40 at hF
  refine kg_push (x := 0) hk_220 rfl (by decide) rfl ?_
  exact q_220_41_ok hF hK hX0 _
def l_220_6 (x1 : Int32) (x2 : Int32) (x3 : Int32) (h : Hp) : Option ((Int32 × Int32 × Hp) ⊕ Int32 × Hp) :=
  w_gd (w_ix x1 16) <|
  if x3 < ((4 * x1) + (h 1100 x1.toNatClampNeg)) then
    (w_gd (w_ix x3 64) <|
    (p_214 h x1 1101 (40 * x3) (h 1102 x3.toNatClampNeg)).bind fun vz4 =>
    if vz4 = 0 then
      (q_220_40 h x1 x2 x3)
    else
      ((p_218 h x1 1103 (234 * x3)).bind fun vz7 =>
      q_220_41 vz7.2 x1 x2 x3 (if vz7.1 = 0 then 0 else 1 : Int32)))
  else
    (some (.inr (x2, h)))
theorem l_220_6_st {X : List Int32} {o : kO}  {h : Hp} {x1 : Int32} {x2 : Int32} {x3 : Int32}  {r : (Int32 × Int32 × Hp) ⊕ Int32 × Hp} (hF : l_220_6 x1 x2 x3 h = some r) (hK : ∀ s' : Int32 × Int32 × Hp, r = .inl s' → ∀ (u4 : Value), k_Go X 6 220 (6, [.ref (1076 + 1), .int x1, .int (s'.1), .int (s'.2.1), u4], []) s'.2.2 o) (hX0 : ∀ e : Int32 × Hp, r = .inr e → (.inl (some (.int e.1)), e.2) = o) : ∀ (u4 : Value), k_Go X 6 220 (6, [.ref (1076 + 1), .int x1, .int x2, .int x3, u4], []) h o := by
  intro u4
  refine kg_iload hk_220 rfl rfl rfl ?_
  refine kg_push (x := 4) hk_220 rfl (by decide) rfl ?_
  refine kg_iload hk_220 rfl rfl rfl ?_
  refine kg_bin (z := (4 * x1)) hk_220 rfl rfl rfl ?_
  refine kg_aload hk_220 rfl rfl rfl ?_
  refine kg_get (v := .ref (1100 + 1)) hk_220 rfl wk_1076_33 rfl rfl ?_
  refine kg_iload hk_220 rfl rfl rfl ?_
  refine wf_gd hF (fun gz1 hF => ?_)
  refine kg_ald (y := (h 1100 x1.toNatClampNeg)) hk_220 rfl wc_1100 gz1 rfl rfl ?_
  refine kg_bin (z := ((4 * x1) + (h 1100 x1.toNatClampNeg))) hk_220 rfl rfl rfl ?_
  refine wf_if hF (fun cz2 hF => ?_) (fun cz2 hF => ?_)
  · refine kg_icF hk_220 rfl (jc_F3 cz2) rfl ?_
    refine kg_aload hk_220 rfl rfl rfl ?_
    refine kg_iload hk_220 rfl rfl rfl ?_
    refine kg_aload hk_220 rfl rfl rfl ?_
    refine kg_get (v := .ref (1101 + 1)) hk_220 rfl wk_1076_34 rfl rfl ?_
    refine kg_push (x := 40) hk_220 rfl (by decide) rfl ?_
    refine kg_iload hk_220 rfl rfl rfl ?_
    refine kg_bin (z := (40 * x3)) hk_220 rfl rfl rfl ?_
    refine kg_aload hk_220 rfl rfl rfl ?_
    refine kg_get (v := .ref (1102 + 1)) hk_220 rfl wk_1076_35 rfl rfl ?_
    refine kg_iload hk_220 rfl rfl rfl ?_
    refine wf_gd hF (fun gz3 hF => ?_)
    refine kg_ald (y := (h 1102 x3.toNatClampNeg)) hk_220 rfl wc_1102 gz3 rfl rfl ?_
    refine wf_bind hF (fun vz4 hvz4 hF => ?_)
    refine kg_call (as := [.ref (1076 + 1), .int x1, .ref (1101 + 1), .int (40 * x3), .int (h 1102 x3.toNatClampNeg)]) (rest := []) hk_220 rfl (Or.inr (Or.inr (Or.inr ⟨Or.inl rfl, _, _, rfl, wc_1076⟩))) rfl rfl rfl (Nat.not_lt.mpr (Nat.le_of_ble_eq_true rfl)) (p_214_ok (w_lenE wc_1101) hvz4) (by decide) rfl ?_
    refine wf_if hF (fun cz5 hF => ?_) (fun cz5 hF => ?_)
    · refine kg_ifT hk_220 rfl (jc_T0 cz5) ?_
      exact q_220_40_ok hF hK hX0 _
    · refine kg_ifF hk_220 rfl (jc_F0 cz5) rfl ?_
      refine kg_aload hk_220 rfl rfl rfl ?_
      refine kg_iload hk_220 rfl rfl rfl ?_
      refine kg_aload hk_220 rfl rfl rfl ?_
      refine kg_get (v := .ref (1103 + 1)) hk_220 rfl wk_1076_36 rfl rfl ?_
      refine kg_push (x := 234) hk_220 rfl (by decide) rfl ?_
      refine kg_iload hk_220 rfl rfl rfl ?_
      refine kg_bin (z := (234 * x3)) hk_220 rfl rfl rfl ?_
      refine wf_bind hF (fun vz7 hvz7 hF => ?_)
      refine kg_call (as := [.ref (1076 + 1), .int x1, .ref (1103 + 1), .int (234 * x3)]) (rest := []) hk_220 rfl (Or.inr (Or.inr (Or.inr ⟨Or.inl rfl, _, _, rfl, wc_1076⟩))) rfl rfl rfl (Nat.not_lt.mpr (Nat.le_of_ble_eq_true rfl)) (p_218_ok (w_lenE wc_1103) hvz7) (by decide) rfl ?_
      refine kv_mid (p := 41) (L := [.ref (1076 + 1), .int x1, .int x2, .int x3, u4]) (S := [.int (if vz7.1 = 0 then 0 else 1 : Int32)]) ?_ (fun hK => ?_)
      · exact q_220_41_ok hF hK hX0 _
      · by_cases cz8 : vz7.1 = 0
        · have hK := kv_T cz8 hK
          refine kg_ifT hk_220 rfl (jc_T0 cz8) ?_
          refine kg_push (x := 0) hk_220 rfl (by decide) rfl ?_
          exact hK
        · have hK := kv_F cz8 hK
          refine kg_ifF hk_220 rfl (jc_F0 cz8) rfl ?_
          refine kg_push (x := 1) hk_220 rfl (by decide) rfl ?_
          refine kg_goto hk_220 rfl ?_
          exact hK
  · refine kg_icT hk_220 rfl (jc_T3 cz2) ?_
    refine kg_iload hk_220 rfl rfl rfl ?_
    have hF := Option.some.inj hF
    exact kg_iret hk_220 rfl (Or.inl rfl) (hX0 _ hF.symm)
theorem l_220_6_ok {X : List Int32} {o : kO}  {x1 : Int32}  {n : Nat} {s : Int32 × Int32 × Hp} {e : Int32 × Hp} (hF : w_lp (fun (s : Int32 × Int32 × Hp) => l_220_6 x1 s.1 s.2.1 s.2.2) n s = some e) (hX0 : (.inl (some (.int e.1)), e.2) = o) : ∀ (u4 : Value), k_Go X 6 220 (6, [.ref (1076 + 1), .int x1, .int s.1, .int s.2.1, u4], []) s.2.2 o := by
  exact w_lp_ok (P := (fun (s : Int32 × Int32 × Hp) => ∀ (u4 : Value), k_Go X 6 220 (6, [.ref (1076 + 1), .int x1, .int s.1, .int s.2.1, u4], []) s.2.2 o)) (Q := (fun (e : Int32 × Hp) => ((.inl (some (.int e.1)), e.2) = o))) (fun s r hF hK hX => l_220_6_st hF hK (fun x hx => (hX _ hx))) n s e hF hX0
def p_220 (h : Hp) (x1 : Int32) : Option (Int32 × Hp) :=
  w_lp (fun (s : Int32 × Int32 × Hp) => l_220_6 x1 s.1 s.2.1 s.2.2) w_N ((-1), (4 * x1), h)
theorem p_220_ok {X : List Int32}  {h : Hp} {x1 : Int32}  {r : Int32 × Hp} (hF : p_220 h x1 = some r) : k_Ev X 6 220 [.ref (1076 + 1), .int x1] h (.inl (some (.int r.1)), r.2) := by
  refine k_of hk_220 ?_
  show k_Go X 6 220 (0, [.ref (1076 + 1), .int x1, (.retAddr 0), (.retAddr 0), (.retAddr 0)], []) h _
  unfold p_220 at hF
  refine kg_push (x := (-1)) hk_220 rfl (by decide) rfl ?_
  refine kg_istore (L2 := [.ref (1076 + 1), .int x1, .int (-1), (.retAddr 0), (.retAddr 0)]) hk_220 rfl (Nat.le_of_ble_eq_true rfl) rfl rfl ?_
  refine kg_push (x := 4) hk_220 rfl (by decide) rfl ?_
  refine kg_iload hk_220 rfl rfl rfl ?_
  refine kg_bin (z := (4 * x1)) hk_220 rfl rfl rfl ?_
  refine kg_istore (L2 := [.ref (1076 + 1), .int x1, .int (-1), .int (4 * x1), (.retAddr 0)]) hk_220 rfl (Nat.le_of_ble_eq_true rfl) rfl rfl ?_
  exact l_220_6_ok hF rfl _
-- NotebookWeirModel.keepsText(I[II)V
theorem hk_215 : jP[215]? = some (jc_215, 5, [], []) := by rfl
def l_215_2 (x1 : Int32) (q2 : Nat) (x3 : Int32) (x4 : Int32) (h : Hp) : Option ((Int32 × Hp) ⊕ Hp) :=
  w_gd (w_ix x1 16) <|
  if x4 < (h 1080 x1.toNatClampNeg) then
    (w_gd (w_ix ((40 * x1) + x4) 640) <|
    w_gd (w_ix (x3 + x4) (w_len q2)) <|
    w_let (w_up h q2 ((x3 + x4).toNatClampNeg) (h 1079 ((40 * x1) + x4).toNatClampNeg)) fun hz5 =>
    some (.inl ((x4 + 1), hz5)))
  else
    (some (.inr h))
theorem l_215_2_st {X : List Int32} {o : kO}  {h : Hp} {q2 : Nat} {x1 : Int32} {x3 : Int32} {x4 : Int32} (t2 : w_tab[q2]? = some (50, (w_len q2), [])) {r : (Int32 × Hp) ⊕ Hp} (hF : l_215_2 x1 q2 x3 x4 h = some r) (hK : ∀ s' : Int32 × Hp, r = .inl s' → k_Go X 0 215 (2, [.ref (1076 + 1), .int x1, .ref (q2 + 1), .int x3, .int (s'.1)], []) s'.2 o) (hX0 : ∀ e : Hp, r = .inr e → (.inl none, e) = o) : k_Go X 0 215 (2, [.ref (1076 + 1), .int x1, .ref (q2 + 1), .int x3, .int x4], []) h o := by
  refine kg_iload hk_215 rfl rfl rfl ?_
  refine kg_aload hk_215 rfl rfl rfl ?_
  refine kg_get (v := .ref (1080 + 1)) hk_215 rfl wk_1076_4 rfl rfl ?_
  refine kg_iload hk_215 rfl rfl rfl ?_
  refine wf_gd hF (fun gz1 hF => ?_)
  refine kg_ald (y := (h 1080 x1.toNatClampNeg)) hk_215 rfl wc_1080 gz1 rfl rfl ?_
  refine wf_if hF (fun cz2 hF => ?_) (fun cz2 hF => ?_)
  · refine kg_icF hk_215 rfl (jc_F3 cz2) rfl ?_
    refine kg_aload hk_215 rfl rfl rfl ?_
    refine kg_iload hk_215 rfl rfl rfl ?_
    refine kg_iload hk_215 rfl rfl rfl ?_
    refine kg_bin (z := (x3 + x4)) hk_215 rfl rfl rfl ?_
    refine kg_aload hk_215 rfl rfl rfl ?_
    refine kg_get (v := .ref (1079 + 1)) hk_215 rfl wk_1076_3 rfl rfl ?_
    refine kg_push (x := 40) hk_215 rfl (by decide) rfl ?_
    refine kg_iload hk_215 rfl rfl rfl ?_
    refine kg_bin (z := (40 * x1)) hk_215 rfl rfl rfl ?_
    refine kg_iload hk_215 rfl rfl rfl ?_
    refine kg_bin (z := ((40 * x1) + x4)) hk_215 rfl rfl rfl ?_
    refine wf_gd hF (fun gz3 hF => ?_)
    refine kg_ald (y := (h 1079 ((40 * x1) + x4).toNatClampNeg)) hk_215 rfl wc_1079 gz3 rfl rfl ?_
    refine wf_gd hF (fun gz4 hF => ?_)
    refine wf_let hF (fun hz5 hhz5 hF => ?_)
    refine kg_ast hk_215 rfl t2 gz4 hhz5 rfl ?_
    refine kg_iinc (y := (x4 + 1)) (L2 := [.ref (1076 + 1), .int x1, .ref (q2 + 1), .int x3, .int (x4 + 1)]) hk_215 rfl rfl rfl rfl rfl ?_
    refine kg_goto hk_215 rfl ?_
    have hF := Option.some.inj hF
    exact hK _ hF.symm
  · refine kg_icT hk_215 rfl (jc_T3 cz2) ?_
    have hF := Option.some.inj hF
    exact kg_ret hk_215 rfl (hX0 _ hF.symm)
theorem l_215_2_ok {X : List Int32} {o : kO}  {q2 : Nat} {x1 : Int32} {x3 : Int32} (t2 : w_tab[q2]? = some (50, (w_len q2), [])) {n : Nat} {s : Int32 × Hp} {e : Hp} (hF : w_lp (fun (s : Int32 × Hp) => l_215_2 x1 q2 x3 s.1 s.2) n s = some e) (hX0 : (.inl none, e) = o) : k_Go X 0 215 (2, [.ref (1076 + 1), .int x1, .ref (q2 + 1), .int x3, .int s.1], []) s.2 o := by
  exact w_lp_ok (P := (fun (s : Int32 × Hp) => k_Go X 0 215 (2, [.ref (1076 + 1), .int x1, .ref (q2 + 1), .int x3, .int s.1], []) s.2 o)) (Q := (fun (e : Hp) => ((.inl none, e) = o))) (fun s r hF hK hX => l_215_2_st t2 hF hK (fun x hx => (hX _ hx))) n s e hF hX0
def p_215 (h : Hp) (x1 : Int32) (q2 : Nat) (x3 : Int32) : Option (Hp) :=
  w_lp (fun (s : Int32 × Hp) => l_215_2 x1 q2 x3 s.1 s.2) w_N (0, h)
theorem p_215_ok {X : List Int32}  {h : Hp} {x1 : Int32} {q2 : Nat} {x3 : Int32} (t2 : w_tab[q2]? = some (50, w_len q2, [])) {r : Hp} (hF : p_215 h x1 q2 x3 = some r) : k_Ev X 0 215 [.ref (1076 + 1), .int x1, .ref (q2 + 1), .int x3] h (.inl none, r) := by
  refine k_of hk_215 ?_
  show k_Go X 0 215 (0, [.ref (1076 + 1), .int x1, .ref (q2 + 1), .int x3, (.retAddr 0)], []) h _
  unfold p_215 at hF
  refine kg_push (x := 0) hk_215 rfl (by decide) rfl ?_
  refine kg_istore (L2 := [.ref (1076 + 1), .int x1, .ref (q2 + 1), .int x3, .int 0]) hk_215 rfl (Nat.le_of_ble_eq_true rfl) rfl rfl ?_
  exact l_215_2_ok t2 hF rfl
