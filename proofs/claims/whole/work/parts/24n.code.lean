/-! ===== the methods as functions over the flat heap, and that the interpreter does what they say (printed by wip/whole/dec.py) ===== -/
-- NotebookWeirModel.orders()V
theorem hk_239 : jP[239]? = some (jc_239, 7, [], []) := by rfl
def l_239_9 (h : Hp) (x1 : Int32) (x2 : Int32) : Option ((Int32 × Int32) ⊕ Int32) :=
  if x2 < (h 1076 2) then
    (w_gd (w_ix x2 16) <|
    some (.inl ((x1 ||| (if (h 1122 x2.toNatClampNeg) < 4 then 0 else (1 <<< (x2 &&& 31)) : Int32)), (x2 + 1))))
  else
    (some (.inr x1))
theorem l_239_9_st {X : List Int32} {o : kO}  {h : Hp} {x1 : Int32} {x2 : Int32}  {r : (Int32 × Int32) ⊕ Int32} (hF : l_239_9 h x1 x2 = some r) (hK : ∀ s' : Int32 × Int32, r = .inl s' → ∀ (u3 : Value) (u4 : Value) (u5 : Value) (u6 : Value), k_Go X 7 239 (9, [.ref (1076 + 1), .int (s'.1), .int (s'.2), u3, u4, u5, u6], []) h o) (hX0 : ∀ e : Int32, r = .inr e → ∀ (u2 : Value) (u3 : Value) (u4 : Value) (u5 : Value) (u6 : Value), k_Go X 7 239 (29, [.ref (1076 + 1), .int e, u2, u3, u4, u5, u6], []) h o) : ∀ (u3 : Value) (u4 : Value) (u5 : Value) (u6 : Value), k_Go X 7 239 (9, [.ref (1076 + 1), .int x1, .int x2, u3, u4, u5, u6], []) h o := by
  intro u3 u4 u5 u6
  refine kg_iload hk_239 rfl rfl rfl ?_
  refine kg_aload hk_239 rfl rfl rfl ?_
  refine kg_get (v := .int (h 1076 2)) hk_239 rfl wk_1076_2 rfl rfl ?_
  refine wf_if hF (fun cz3 hF => ?_) (fun cz3 hF => ?_)
  · refine kg_icF hk_239 rfl (jc_F3 cz3) rfl ?_
    refine kg_iload hk_239 rfl rfl rfl ?_
    refine kg_aload hk_239 rfl rfl rfl ?_
    refine kg_get (v := .ref (1122 + 1)) hk_239 rfl wk_1076_59 rfl rfl ?_
    refine kg_iload hk_239 rfl rfl rfl ?_
    refine wf_gd hF (fun gz4 hF => ?_)
    refine kg_ald (y := (h 1122 x2.toNatClampNeg)) hk_239 rfl wc_1122 gz4 rfl rfl ?_
    refine kg_push (x := 4) hk_239 rfl (by decide) rfl ?_
    refine kv_mid (p := 25) (L := [.ref (1076 + 1), .int x1, .int x2, u3, u4, u5, u6]) (S := [.int (if (h 1122 x2.toNatClampNeg) < 4 then 0 else (1 <<< (x2 &&& 31)) : Int32), .int x1]) ?_ (fun hK => ?_)
    · refine kg_bin (z := (x1 ||| (if (h 1122 x2.toNatClampNeg) < 4 then 0 else (1 <<< (x2 &&& 31)) : Int32))) hk_239 rfl rfl rfl ?_
      refine kg_istore (L2 := [.ref (1076 + 1), .int (x1 ||| (if (h 1122 x2.toNatClampNeg) < 4 then 0 else (1 <<< (x2 &&& 31)) : Int32)), .int x2, u3, u4, u5, u6]) hk_239 rfl (Nat.le_of_ble_eq_true rfl) rfl rfl ?_
      refine kg_iinc (y := (x2 + 1)) (L2 := [.ref (1076 + 1), .int (x1 ||| (if (h 1122 x2.toNatClampNeg) < 4 then 0 else (1 <<< (x2 &&& 31)) : Int32)), .int (x2 + 1), u3, u4, u5, u6]) hk_239 rfl rfl rfl rfl rfl ?_
      refine kg_goto hk_239 rfl ?_
      have hF := Option.some.inj hF
      exact hK _ hF.symm _ _ _ _
    · by_cases cz5 : (h 1122 x2.toNatClampNeg) < 4
      · have hK := kv_T cz5 hK
        refine kg_icT hk_239 rfl (jc_T2 cz5) ?_
        refine kg_push (x := 0) hk_239 rfl (by decide) rfl ?_
        exact hK
      · have hK := kv_F cz5 hK
        refine kg_icF hk_239 rfl (jc_F2 cz5) rfl ?_
        refine kg_push (x := 1) hk_239 rfl (by decide) rfl ?_
        refine kg_iload hk_239 rfl rfl rfl ?_
        refine kg_bin (z := (1 <<< (x2 &&& 31))) hk_239 rfl rfl rfl ?_
        refine kg_goto hk_239 rfl ?_
        exact hK
  · refine kg_icT hk_239 rfl (jc_T3 cz3) ?_
    have hF := Option.some.inj hF
    exact hX0 _ hF.symm _ _ _ _ _
theorem l_239_9_ok {X : List Int32} {o : kO}  {h : Hp}  {n : Nat} {s : Int32 × Int32} {e : Int32} (hF : w_lp (fun (s : Int32 × Int32) => l_239_9 h s.1 s.2) n s = some e) (hX0 : ∀ (u2 : Value) (u3 : Value) (u4 : Value) (u5 : Value) (u6 : Value), k_Go X 7 239 (29, [.ref (1076 + 1), .int e, u2, u3, u4, u5, u6], []) h o) : ∀ (u3 : Value) (u4 : Value) (u5 : Value) (u6 : Value), k_Go X 7 239 (9, [.ref (1076 + 1), .int s.1, .int s.2, u3, u4, u5, u6], []) h o := by
  exact w_lp_ok (P := (fun (s : Int32 × Int32) => ∀ (u3 : Value) (u4 : Value) (u5 : Value) (u6 : Value), k_Go X 7 239 (9, [.ref (1076 + 1), .int s.1, .int s.2, u3, u4, u5, u6], []) h o)) (Q := (fun (e : Int32) => (∀ (u2 : Value) (u3 : Value) (u4 : Value) (u5 : Value) (u6 : Value), k_Go X 7 239 (29, [.ref (1076 + 1), .int e, u2, u3, u4, u5, u6], []) h o))) (fun s r hF hK hX => l_239_9_st hF hK (fun x hx => (hX _ hx))) n s e hF hX0
def q_239_77 (h : Hp) (x1 : Int32) (x2 : Int32) (x4 : Int32) (x5 : Int32) (s0 : Int32) : Option ((Int32 × Int32) ⊕ Int32) :=
  some (.inl ((if s0 = 0 then x4 else x5 : Int32), (x5 + (-1))))
theorem q_239_77_ok {X : List Int32} {o : kO}  {h : Hp} {s0 : Int32} {x1 : Int32} {x2 : Int32} {x4 : Int32} {x5 : Int32}  {r : (Int32 × Int32) ⊕ Int32} (hF : q_239_77 h x1 x2 x4 x5 s0 = some r) (hK : ∀ s' : Int32 × Int32, r = .inl s' → ∀ (u3 : Value) (u6 : Value), k_Go X 7 239 (42, [.ref (1076 + 1), .int x1, .int x2, u3, .int (s'.1), .int (s'.2), u6], []) h o) (hX0 : ∀ e : Int32, r = .inr e → ∀ (u3 : Value) (u5 : Value) (u6 : Value), k_Go X 7 239 (86, [.ref (1076 + 1), .int x1, .int x2, u3, .int e, u5, u6], []) h o) : ∀ (u3 : Value) (u6 : Value), k_Go X 7 239 (77, [.ref (1076 + 1), .int x1, .int x2, u3, .int x4, .int x5, u6], [.int s0]) h o := by
  intro u3 u6
  unfold q_239_77 at hF
  refine kg_istore (L2 := [.ref (1076 + 1), .int x1, .int x2, u3, .int x4, .int x5, .int s0]) hk_239 rfl (Nat.le_of_ble_eq_true rfl) rfl rfl ?_
  refine kg_iload hk_239 rfl rfl rfl ?_
  refine kv_mid (p := 83) (L := [.ref (1076 + 1), .int x1, .int x2, u3, .int x4, .int x5, .int s0]) (S := [.int (if s0 = 0 then x4 else x5 : Int32)]) ?_ (fun hK => ?_)
  · refine kg_istore (L2 := [.ref (1076 + 1), .int x1, .int x2, u3, .int (if s0 = 0 then x4 else x5 : Int32), .int x5, .int s0]) hk_239 rfl (Nat.le_of_ble_eq_true rfl) rfl rfl ?_
    refine kg_iinc (y := (x5 + (-1))) (L2 := [.ref (1076 + 1), .int x1, .int x2, u3, .int (if s0 = 0 then x4 else x5 : Int32), .int (x5 + (-1)), .int s0]) hk_239 rfl rfl rfl rfl rfl ?_
    refine kg_goto hk_239 rfl ?_
    have hF := Option.some.inj hF
    exact hK _ hF.symm _ _
  · by_cases cz16 : s0 = 0
    · have hK := kv_T cz16 hK
      refine kg_ifT hk_239 rfl (jc_T0 cz16) ?_
      refine kg_iload hk_239 rfl rfl rfl ?_
      exact hK
    · have hK := kv_F cz16 hK
      refine kg_ifF hk_239 rfl (jc_F0 cz16) rfl ?_
      refine kg_iload hk_239 rfl rfl rfl ?_
      refine kg_goto hk_239 rfl ?_
      exact hK
def l_239_42 (h : Hp) (x1 : Int32) (x2 : Int32) (x4 : Int32) (x5 : Int32) : Option ((Int32 × Int32) ⊕ Int32) :=
  if x5 < 0 then
    (some (.inr x4))
  else
    (w_gd ((if ((x2 >>> (x5 &&& 31)) &&& 1) = 0 then (if ((x1 >>> (x5 &&& 31)) &&& 1) = 0 then (w_ix x5 16) && ((if ((h 1121 x5.toNatClampNeg) &&& x1) = 0 then w_ix x5 16 else true)) else true) else true)) <|
    q_239_77 h x1 x2 x4 x5 (if ((x2 >>> (x5 &&& 31)) &&& 1) = 0 then (if ((x1 >>> (x5 &&& 31)) &&& 1) = 0 then (if ((h 1121 x5.toNatClampNeg) &&& x1) = 0 then (if (((h 1120 x5.toNatClampNeg) &&& 65535) &&& (x2 ^^^ (-1))) = 0 then 1 else 0 : Int32) else 0 : Int32) else 0 : Int32) else 0 : Int32))
theorem l_239_42_st {X : List Int32} {o : kO}  {h : Hp} {x1 : Int32} {x2 : Int32} {x4 : Int32} {x5 : Int32}  {r : (Int32 × Int32) ⊕ Int32} (hF : l_239_42 h x1 x2 x4 x5 = some r) (hK : ∀ s' : Int32 × Int32, r = .inl s' → ∀ (u3 : Value) (u6 : Value), k_Go X 7 239 (42, [.ref (1076 + 1), .int x1, .int x2, u3, .int (s'.1), .int (s'.2), u6], []) h o) (hX0 : ∀ e : Int32, r = .inr e → ∀ (u3 : Value) (u5 : Value) (u6 : Value), k_Go X 7 239 (86, [.ref (1076 + 1), .int x1, .int x2, u3, .int e, u5, u6], []) h o) : ∀ (u3 : Value) (u6 : Value), k_Go X 7 239 (42, [.ref (1076 + 1), .int x1, .int x2, u3, .int x4, .int x5, u6], []) h o := by
  intro u3 u6
  refine kg_iload hk_239 rfl rfl rfl ?_
  refine wf_if hF (fun cz8 hF => ?_) (fun cz8 hF => ?_)
  · refine kg_ifT hk_239 rfl (jc_T2 cz8) ?_
    have hF := Option.some.inj hF
    exact hX0 _ hF.symm _ _ _
  · refine kg_ifF hk_239 rfl (jc_F2 cz8) rfl ?_
    refine kg_iload hk_239 rfl rfl rfl ?_
    refine kg_iload hk_239 rfl rfl rfl ?_
    refine kg_bin (z := (x2 >>> (x5 &&& 31))) hk_239 rfl rfl rfl ?_
    refine kg_push (x := 1) hk_239 rfl (by decide) rfl ?_
    refine kg_bin (z := ((x2 >>> (x5 &&& 31)) &&& 1)) hk_239 rfl rfl rfl ?_
    refine wf_gd hF (fun gz15 hF => ?_)
    refine kv_mid (p := 77) (L := [.ref (1076 + 1), .int x1, .int x2, u3, .int x4, .int x5, u6]) (S := [.int (if ((x2 >>> (x5 &&& 31)) &&& 1) = 0 then (if ((x1 >>> (x5 &&& 31)) &&& 1) = 0 then (if ((h 1121 x5.toNatClampNeg) &&& x1) = 0 then (if (((h 1120 x5.toNatClampNeg) &&& 65535) &&& (x2 ^^^ (-1))) = 0 then 1 else 0 : Int32) else 0 : Int32) else 0 : Int32) else 0 : Int32)]) ?_ (fun hK => ?_)
    · exact q_239_77_ok hF hK hX0 _ _
    · have hg := gz15
      by_cases cz9 : ((x2 >>> (x5 &&& 31)) &&& 1) = 0
      · have hg := wv_T cz9 hg
        have hK := kv_T cz9 hK
        refine kg_ifF hk_239 rfl (jc_F1 cz9) rfl ?_
        refine kg_iload hk_239 rfl rfl rfl ?_
        refine kg_iload hk_239 rfl rfl rfl ?_
        refine kg_bin (z := (x1 >>> (x5 &&& 31))) hk_239 rfl rfl rfl ?_
        refine kg_push (x := 1) hk_239 rfl (by decide) rfl ?_
        refine kg_bin (z := ((x1 >>> (x5 &&& 31)) &&& 1)) hk_239 rfl rfl rfl ?_
        by_cases cz10 : ((x1 >>> (x5 &&& 31)) &&& 1) = 0
        · have hg := wv_T cz10 hg
          have hK := kv_T cz10 hK
          have gz11 := wb_1 hg
          have hg := wb_2 hg
          refine kg_ifF hk_239 rfl (jc_F1 cz10) rfl ?_
          refine kg_aload hk_239 rfl rfl rfl ?_
          refine kg_get (v := .ref (1121 + 1)) hk_239 rfl wk_1076_58 rfl rfl ?_
          refine kg_iload hk_239 rfl rfl rfl ?_
          refine kg_ald (y := (h 1121 x5.toNatClampNeg)) hk_239 rfl wc_1121 gz11 rfl rfl ?_
          refine kg_iload hk_239 rfl rfl rfl ?_
          refine kg_bin (z := ((h 1121 x5.toNatClampNeg) &&& x1)) hk_239 rfl rfl rfl ?_
          by_cases cz12 : ((h 1121 x5.toNatClampNeg) &&& x1) = 0
          · have hg := wv_T cz12 hg
            have hK := kv_T cz12 hK
            have gz13 := hg
            refine kg_ifF hk_239 rfl (jc_F1 cz12) rfl ?_
            refine kg_aload hk_239 rfl rfl rfl ?_
            refine kg_get (v := .ref (1120 + 1)) hk_239 rfl wk_1076_57 rfl rfl ?_
            refine kg_iload hk_239 rfl rfl rfl ?_
            refine kg_ald (y := (h 1120 x5.toNatClampNeg)) hk_239 rfl wc_1120 gz13 rfl rfl ?_
            refine kg_push (x := 65535) hk_239 rfl (by decide) rfl ?_
            refine kg_bin (z := ((h 1120 x5.toNatClampNeg) &&& 65535)) hk_239 rfl rfl rfl ?_
            refine kg_iload hk_239 rfl rfl rfl ?_
            refine kg_push (x := (-1)) hk_239 rfl (by decide) rfl ?_
            refine kg_bin (z := (x2 ^^^ (-1))) hk_239 rfl rfl rfl ?_
            refine kg_bin (z := (((h 1120 x5.toNatClampNeg) &&& 65535) &&& (x2 ^^^ (-1)))) hk_239 rfl rfl rfl ?_
            by_cases cz14 : (((h 1120 x5.toNatClampNeg) &&& 65535) &&& (x2 ^^^ (-1))) = 0
            · have hK := kv_T cz14 hK
              refine kg_ifF hk_239 rfl (jc_F1 cz14) rfl ?_
              refine kg_push (x := 1) hk_239 rfl (by decide) rfl ?_
              refine kg_goto hk_239 rfl ?_
              exact hK
            · have hK := kv_F cz14 hK
              refine kg_ifT hk_239 rfl (jc_T1 cz14) ?_
              refine kg_push (x := 0) hk_239 rfl (by decide) rfl ?_
              exact hK
          · have hK := kv_F cz12 hK
            refine kg_ifT hk_239 rfl (jc_T1 cz12) ?_
            refine kg_push (x := 0) hk_239 rfl (by decide) rfl ?_
            exact hK
        · have hK := kv_F cz10 hK
          refine kg_ifT hk_239 rfl (jc_T1 cz10) ?_
          refine kg_push (x := 0) hk_239 rfl (by decide) rfl ?_
          exact hK
      · have hK := kv_F cz9 hK
        refine kg_ifT hk_239 rfl (jc_T1 cz9) ?_
        refine kg_push (x := 0) hk_239 rfl (by decide) rfl ?_
        exact hK
theorem l_239_42_ok {X : List Int32} {o : kO}  {h : Hp} {x1 : Int32} {x2 : Int32}  {n : Nat} {s : Int32 × Int32} {e : Int32} (hF : w_lp (fun (s : Int32 × Int32) => l_239_42 h x1 x2 s.1 s.2) n s = some e) (hX0 : ∀ (u3 : Value) (u5 : Value) (u6 : Value), k_Go X 7 239 (86, [.ref (1076 + 1), .int x1, .int x2, u3, .int e, u5, u6], []) h o) : ∀ (u3 : Value) (u6 : Value), k_Go X 7 239 (42, [.ref (1076 + 1), .int x1, .int x2, u3, .int s.1, .int s.2, u6], []) h o := by
  exact w_lp_ok (P := (fun (s : Int32 × Int32) => ∀ (u3 : Value) (u6 : Value), k_Go X 7 239 (42, [.ref (1076 + 1), .int x1, .int x2, u3, .int s.1, .int s.2, u6], []) h o)) (Q := (fun (e : Int32) => (∀ (u3 : Value) (u5 : Value) (u6 : Value), k_Go X 7 239 (86, [.ref (1076 + 1), .int x1, .int x2, u3, .int e, u5, u6], []) h o))) (fun s r hF hK hX => l_239_42_st hF hK (fun x hx => (hX _ hx))) n s e hF hX0
def q_239_92 (h : Hp) (x1 : Int32) (x2 : Int32) (x4 : Int32) (s0 : Int32) : Option ((Int32 × Int32 × Hp) ⊕ Hp) :=
  if s0 = 0 then
    (some (.inl (x2, s0, h)))
  else
    (w_gd (w_ix (h 1076 64) 16) <|
    w_let (w_up h 1126 ((h 1076 64).toNatClampNeg) x4) fun hz21 =>
    w_let (w_up hz21 1076 64 ((hz21 1076 64) + 1)) fun hz22 =>
    some (.inl ((x2 ||| (1 <<< (x4 &&& 31))), s0, hz22)))
theorem q_239_92_ok {X : List Int32} {o : kO}  {h : Hp} {s0 : Int32} {x1 : Int32} {x2 : Int32} {x4 : Int32}  {r : (Int32 × Int32 × Hp) ⊕ Hp} (hF : q_239_92 h x1 x2 x4 s0 = some r) (hK : ∀ s' : Int32 × Int32 × Hp, r = .inl s' → ∀ (u4 : Value) (u5 : Value) (u6 : Value), k_Go X 7 239 (33, [.ref (1076 + 1), .int x1, .int (s'.1), .int (s'.2.1), u4, u5, u6], []) s'.2.2 o) (hX0 : ∀ e : Hp, r = .inr e → (.inl none, e) = o) : ∀ (u3 : Value) (u5 : Value) (u6 : Value), k_Go X 7 239 (92, [.ref (1076 + 1), .int x1, .int x2, u3, .int x4, u5, u6], [.int s0]) h o := by
  intro u3 u5 u6
  unfold q_239_92 at hF
  refine kg_istore (L2 := [.ref (1076 + 1), .int x1, .int x2, .int s0, .int x4, u5, u6]) hk_239 rfl (Nat.le_of_ble_eq_true rfl) rfl rfl ?_
  refine kg_iload hk_239 rfl rfl rfl ?_
  refine wf_if hF (fun cz19 hF => ?_) (fun cz19 hF => ?_)
  · refine kg_ifT hk_239 rfl (jc_T0 cz19) ?_
    refine kg_goto hk_239 rfl ?_
    have hF := Option.some.inj hF
    exact hK _ hF.symm _ _ _
  · refine kg_ifF hk_239 rfl (jc_F0 cz19) rfl ?_
    refine kg_aload hk_239 rfl rfl rfl ?_
    refine kg_get (v := .ref (1126 + 1)) hk_239 rfl wk_1076_63 rfl rfl ?_
    refine kg_aload hk_239 rfl rfl rfl ?_
    refine kg_get (v := .int (h 1076 64)) hk_239 rfl wk_1076_64 rfl rfl ?_
    refine kg_iload hk_239 rfl rfl rfl ?_
    refine wf_gd hF (fun gz20 hF => ?_)
    refine wf_let hF (fun hz21 hhz21 hF => ?_)
    refine kg_ast hk_239 rfl wc_1126 gz20 hhz21 rfl ?_
    refine kg_aload hk_239 rfl rfl rfl ?_
    refine kg_dup hk_239 rfl rfl rfl ?_
    refine kg_get (v := .int (hz21 1076 64)) hk_239 rfl wk_1076_64 rfl rfl ?_
    refine kg_push (x := 1) hk_239 rfl (by decide) rfl ?_
    refine kg_bin (z := ((hz21 1076 64) + 1)) hk_239 rfl rfl rfl ?_
    refine wf_let hF (fun hz22 hhz22 hF => ?_)
    refine kg_put hk_239 rfl wk_1076_64 rfl rfl hhz22 rfl ?_
    refine kg_iload hk_239 rfl rfl rfl ?_
    refine kg_push (x := 1) hk_239 rfl (by decide) rfl ?_
    refine kg_iload hk_239 rfl rfl rfl ?_
    refine kg_bin (z := (1 <<< (x4 &&& 31))) hk_239 rfl rfl rfl ?_
    refine kg_bin (z := (x2 ||| (1 <<< (x4 &&& 31)))) hk_239 rfl rfl rfl ?_
    refine kg_istore (L2 := [.ref (1076 + 1), .int x1, .int (x2 ||| (1 <<< (x4 &&& 31))), .int s0, .int x4, u5, u6]) hk_239 rfl (Nat.le_of_ble_eq_true rfl) rfl rfl ?_
    refine kg_goto hk_239 rfl ?_
    have hF := Option.some.inj hF
    exact hK _ hF.symm _ _ _
def l_239_33 (x1 : Int32) (x2 : Int32) (x3 : Int32) (h : Hp) : Option ((Int32 × Int32 × Hp) ⊕ Hp) :=
  if x3 = 0 then
    (some (.inr h))
  else
    ((w_lp (fun (s : Int32 × Int32) => l_239_42 h x1 x2 s.1 s.2) w_N ((-1), ((h 1076 2) - 1))).bind fun ez17 =>
    q_239_92 h x1 x2 ez17 (if ez17 = (-1) then 0 else 1 : Int32))
theorem l_239_33_st {X : List Int32} {o : kO}  {h : Hp} {x1 : Int32} {x2 : Int32} {x3 : Int32}  {r : (Int32 × Int32 × Hp) ⊕ Hp} (hF : l_239_33 x1 x2 x3 h = some r) (hK : ∀ s' : Int32 × Int32 × Hp, r = .inl s' → ∀ (u4 : Value) (u5 : Value) (u6 : Value), k_Go X 7 239 (33, [.ref (1076 + 1), .int x1, .int (s'.1), .int (s'.2.1), u4, u5, u6], []) s'.2.2 o) (hX0 : ∀ e : Hp, r = .inr e → (.inl none, e) = o) : ∀ (u4 : Value) (u5 : Value) (u6 : Value), k_Go X 7 239 (33, [.ref (1076 + 1), .int x1, .int x2, .int x3, u4, u5, u6], []) h o := by
  intro u4 u5 u6
  refine kg_iload hk_239 rfl rfl rfl ?_
  refine wf_if hF (fun cz7 hF => ?_) (fun cz7 hF => ?_)
  · refine kg_ifT hk_239 rfl (jc_T0 cz7) ?_
    have hF := Option.some.inj hF
    exact kg_ret hk_239 rfl (hX0 _ hF.symm)
  · refine kg_ifF hk_239 rfl (jc_F0 cz7) rfl ?_
    refine kg_push (x := (-1)) hk_239 rfl (by decide) rfl ?_
    refine kg_istore (L2 := [.ref (1076 + 1), .int x1, .int x2, .int x3, .int (-1), u5, u6]) hk_239 rfl (Nat.le_of_ble_eq_true rfl) rfl rfl ?_
    refine kg_aload hk_239 rfl rfl rfl ?_
    refine kg_get (v := .int (h 1076 2)) hk_239 rfl wk_1076_2 rfl rfl ?_
    refine kg_push (x := 1) hk_239 rfl (by decide) rfl ?_
    refine kg_bin (z := ((h 1076 2) - 1)) hk_239 rfl rfl rfl ?_
    refine kg_istore (L2 := [.ref (1076 + 1), .int x1, .int x2, .int x3, .int (-1), .int ((h 1076 2) - 1), u6]) hk_239 rfl (Nat.le_of_ble_eq_true rfl) rfl rfl ?_
    refine wf_bind hF (fun ez17 hez17 hF => ?_)
    refine l_239_42_ok hez17 ?_ _ _
    intro u3 u5 u6
    refine kg_iload hk_239 rfl rfl rfl ?_
    refine kg_push (x := (-1)) hk_239 rfl (by decide) rfl ?_
    refine kv_mid (p := 92) (L := [.ref (1076 + 1), .int x1, .int x2, u3, .int ez17, u5, u6]) (S := [.int (if ez17 = (-1) then 0 else 1 : Int32)]) ?_ (fun hK => ?_)
    · exact q_239_92_ok hF hK hX0 _ _ _
    · by_cases cz18 : ez17 = (-1)
      · have hK := kv_T cz18 hK
        refine kg_icT hk_239 rfl (jc_T0 cz18) ?_
        refine kg_push (x := 0) hk_239 rfl (by decide) rfl ?_
        exact hK
      · have hK := kv_F cz18 hK
        refine kg_icF hk_239 rfl (jc_F0 cz18) rfl ?_
        refine kg_push (x := 1) hk_239 rfl (by decide) rfl ?_
        refine kg_goto hk_239 rfl ?_
        exact hK
theorem l_239_33_ok {X : List Int32} {o : kO}  {x1 : Int32}  {n : Nat} {s : Int32 × Int32 × Hp} {e : Hp} (hF : w_lp (fun (s : Int32 × Int32 × Hp) => l_239_33 x1 s.1 s.2.1 s.2.2) n s = some e) (hX0 : (.inl none, e) = o) : ∀ (u4 : Value) (u5 : Value) (u6 : Value), k_Go X 7 239 (33, [.ref (1076 + 1), .int x1, .int s.1, .int s.2.1, u4, u5, u6], []) s.2.2 o := by
  exact w_lp_ok (P := (fun (s : Int32 × Int32 × Hp) => ∀ (u4 : Value) (u5 : Value) (u6 : Value), k_Go X 7 239 (33, [.ref (1076 + 1), .int x1, .int s.1, .int s.2.1, u4, u5, u6], []) s.2.2 o)) (Q := (fun (e : Hp) => ((.inl none, e) = o))) (fun s r hF hK hX => l_239_33_st hF hK (fun x hx => (hX _ hx))) n s e hF hX0
def p_239 (h : Hp) : Option (Hp) :=
  (p_188 h).bind fun vz1 =>
  w_let (w_up vz1 1076 64 0) fun hz2 =>
  (w_lp (fun (s : Int32 × Int32) => l_239_9 hz2 s.1 s.2) w_N (0, 0)).bind fun ez6 =>
  w_lp (fun (s : Int32 × Int32 × Hp) => l_239_33 ez6 s.1 s.2.1 s.2.2) w_N (0, 1, hz2)
theorem p_239_ok {X : List Int32}  {h : Hp}   {r : Hp} (hF : p_239 h = some r) : k_Ev X 7 239 [.ref (1076 + 1)] h (.inl none, r) := by
  refine k_of hk_239 ?_
  show k_Go X 7 239 (0, [.ref (1076 + 1), (.retAddr 0), (.retAddr 0), (.retAddr 0), (.retAddr 0), (.retAddr 0), (.retAddr 0)], []) h _
  unfold p_239 at hF
  refine kg_aload hk_239 rfl rfl rfl ?_
  refine wf_bind hF (fun vz1 hvz1 hF => ?_)
  refine kg_call (as := [.ref (1076 + 1)]) (rest := []) hk_239 rfl (Or.inr (Or.inr (Or.inr ⟨Or.inl rfl, _, _, rfl, wc_1076⟩))) rfl rfl rfl (Nat.not_lt.mpr (Nat.le_of_ble_eq_true rfl)) (p_188_ok hvz1) (by decide) rfl ?_
  refine kg_aload hk_239 rfl rfl rfl ?_
  refine kg_push (x := 0) hk_239 rfl (by decide) rfl ?_
  refine wf_let hF (fun hz2 hhz2 hF => ?_)
  refine kg_put hk_239 rfl wk_1076_64 rfl rfl hhz2 rfl ?_
  refine kg_push (x := 0) hk_239 rfl (by decide) rfl ?_
  refine kg_istore (L2 := [.ref (1076 + 1), .int 0, (.retAddr 0), (.retAddr 0), (.retAddr 0), (.retAddr 0), (.retAddr 0)]) hk_239 rfl (Nat.le_of_ble_eq_true rfl) rfl rfl ?_
  refine kg_push (x := 0) hk_239 rfl (by decide) rfl ?_
  refine kg_istore (L2 := [.ref (1076 + 1), .int 0, .int 0, (.retAddr 0), (.retAddr 0), (.retAddr 0), (.retAddr 0)]) hk_239 rfl (Nat.le_of_ble_eq_true rfl) rfl rfl ?_
  refine wf_bind hF (fun ez6 hez6 hF => ?_)
  refine l_239_9_ok hez6 ?_ _ _ _ _
  intro u2 u3 u4 u5 u6
  refine kg_push (x := 0) hk_239 rfl (by decide) rfl ?_
  refine kg_istore (L2 := [.ref (1076 + 1), .int ez6, .int 0, u3, u4, u5, u6]) hk_239 rfl (Nat.le_of_ble_eq_true rfl) rfl rfl ?_
  refine kg_push (x := 1) hk_239 rfl (by decide) rfl ?_
  refine kg_istore (L2 := [.ref (1076 + 1), .int ez6, .int 0, .int 1, u4, u5, u6]) hk_239 rfl (Nat.le_of_ble_eq_true rfl) rfl rfl ?_
  exact l_239_33_ok hF rfl _ _ _
-- NotebookWeirModel.runsPlain()V
theorem hk_240 : jP[240]? = some (jc_240, 4, [], []) := by rfl
def l_240_6 (x2 : Int32) (h : Hp) : Option ((Int32 × Hp) ⊕ Hp) :=
  if x2 < 16 then
    (w_gd (w_ix x2 16) <|
    w_let (w_up h 1125 x2.toNatClampNeg (j_nar 52 0)) fun hz4 =>
    some (.inl ((x2 + 1), hz4)))
  else
    (some (.inr h))
theorem l_240_6_st {X : List Int32} {o : kO}  {h : Hp} {x1 : Int32} {x2 : Int32}  {r : (Int32 × Hp) ⊕ Hp} (hF : l_240_6 x2 h = some r) (hK : ∀ s' : Int32 × Hp, r = .inl s' → ∀ (u3 : Value), k_Go X 10 240 (6, [.ref (1076 + 1), .int x1, .int (s'.1), u3], []) s'.2 o) (hX0 : ∀ e : Hp, r = .inr e → ∀ (u2 : Value) (u3 : Value), k_Go X 10 240 (16, [.ref (1076 + 1), .int x1, u2, u3], []) e o) : ∀ (u3 : Value), k_Go X 10 240 (6, [.ref (1076 + 1), .int x1, .int x2, u3], []) h o := by
  intro u3
  refine kg_iload hk_240 rfl rfl rfl ?_
  refine kg_push (x := 16) hk_240 rfl (by decide) rfl ?_
  refine wf_if hF (fun cz2 hF => ?_) (fun cz2 hF => ?_)
  · refine kg_icF hk_240 rfl (jc_F3 cz2) rfl ?_
    refine kg_aload hk_240 rfl rfl rfl ?_
    refine kg_get (v := .ref (1125 + 1)) hk_240 rfl wk_1076_62 rfl rfl ?_
    refine kg_iload hk_240 rfl rfl rfl ?_
    refine kg_push (x := 0) hk_240 rfl (by decide) rfl ?_
    refine wf_gd hF (fun gz3 hF => ?_)
    refine wf_let hF (fun hz4 hhz4 hF => ?_)
    refine kg_ast hk_240 rfl wc_1125 gz3 hhz4 rfl ?_
    refine kg_iinc (y := (x2 + 1)) (L2 := [.ref (1076 + 1), .int x1, .int (x2 + 1), u3]) hk_240 rfl rfl rfl rfl rfl ?_
    refine kg_goto hk_240 rfl ?_
    have hF := Option.some.inj hF
    exact hK _ hF.symm _
  · refine kg_icT hk_240 rfl (jc_T3 cz2) ?_
    have hF := Option.some.inj hF
    exact hX0 _ hF.symm _ _
theorem l_240_6_ok {X : List Int32} {o : kO}  {x1 : Int32}  {n : Nat} {s : Int32 × Hp} {e : Hp} (hF : w_lp (fun (s : Int32 × Hp) => l_240_6 s.1 s.2) n s = some e) (hX0 : ∀ (u2 : Value) (u3 : Value), k_Go X 10 240 (16, [.ref (1076 + 1), .int x1, u2, u3], []) e o) : ∀ (u3 : Value), k_Go X 10 240 (6, [.ref (1076 + 1), .int x1, .int s.1, u3], []) s.2 o := by
  exact w_lp_ok (P := (fun (s : Int32 × Hp) => ∀ (u3 : Value), k_Go X 10 240 (6, [.ref (1076 + 1), .int x1, .int s.1, u3], []) s.2 o)) (Q := (fun (e : Hp) => (∀ (u2 : Value) (u3 : Value), k_Go X 10 240 (16, [.ref (1076 + 1), .int x1, u2, u3], []) e o))) (fun s r hF hK hX => l_240_6_st hF hK (fun x hx => (hX _ hx))) n s e hF hX0
def l_240_18 (x1 : Int32) (x2 : Int32) (h : Hp) : Option ((Int32 × Int32 × Hp) ⊕ Hp) :=
  if x2 < (h 1076 64) then
    (w_gd (w_ix x2 16) <|
    w_gd (w_ix (h 1126 x2.toNatClampNeg) 16) <|
    if (((h 1120 (h 1126 x2.toNatClampNeg).toNatClampNeg) &&& 65535) &&& (x1 ^^^ (-1))) = 0 then
      ((p_216 h (h 1126 x2.toNatClampNeg) 2 1123 1124).bind fun vz10 =>
      w_gd (w_ix (h 1126 x2.toNatClampNeg) 16) <|
      w_let (w_up vz10.2 1125 ((h 1126 x2.toNatClampNeg).toNatClampNeg) (j_nar 52 vz10.1)) fun hz12 =>
      w_gd (w_ix (h 1126 x2.toNatClampNeg) 16) <|
      some (.inl ((x1 ||| (if (hz12 1125 (h 1126 x2.toNatClampNeg).toNatClampNeg) = 0 then 0 else (1 <<< ((h 1126 x2.toNatClampNeg) &&& 31)) : Int32)), (x2 + 1), hz12)))
    else
      (some (.inl (x1, (x2 + 1), h))))
  else
    (some (.inr h))
theorem l_240_18_st {X : List Int32} {o : kO}  {h : Hp} {x1 : Int32} {x2 : Int32}  {r : (Int32 × Int32 × Hp) ⊕ Hp} (hF : l_240_18 x1 x2 h = some r) (hK : ∀ s' : Int32 × Int32 × Hp, r = .inl s' → ∀ (u3 : Value), k_Go X 10 240 (18, [.ref (1076 + 1), .int (s'.1), .int (s'.2.1), u3], []) s'.2.2 o) (hX0 : ∀ e : Hp, r = .inr e → (.inl none, e) = o) : ∀ (u3 : Value), k_Go X 10 240 (18, [.ref (1076 + 1), .int x1, .int x2, u3], []) h o := by
  intro u3
  refine kg_iload hk_240 rfl rfl rfl ?_
  refine kg_aload hk_240 rfl rfl rfl ?_
  refine kg_get (v := .int (h 1076 64)) hk_240 rfl wk_1076_64 rfl rfl ?_
  refine wf_if hF (fun cz6 hF => ?_) (fun cz6 hF => ?_)
  · refine kg_icF hk_240 rfl (jc_F3 cz6) rfl ?_
    refine kg_aload hk_240 rfl rfl rfl ?_
    refine kg_get (v := .ref (1126 + 1)) hk_240 rfl wk_1076_63 rfl rfl ?_
    refine kg_iload hk_240 rfl rfl rfl ?_
    refine wf_gd hF (fun gz7 hF => ?_)
    refine kg_ald (y := (h 1126 x2.toNatClampNeg)) hk_240 rfl wc_1126 gz7 rfl rfl ?_
    refine kg_istore (L2 := [.ref (1076 + 1), .int x1, .int x2, .int (h 1126 x2.toNatClampNeg)]) hk_240 rfl (Nat.le_of_ble_eq_true rfl) rfl rfl ?_
    refine kg_aload hk_240 rfl rfl rfl ?_
    refine kg_get (v := .ref (1120 + 1)) hk_240 rfl wk_1076_57 rfl rfl ?_
    refine kg_iload hk_240 rfl rfl rfl ?_
    refine wf_gd hF (fun gz8 hF => ?_)
    refine kg_ald (y := (h 1120 (h 1126 x2.toNatClampNeg).toNatClampNeg)) hk_240 rfl wc_1120 gz8 rfl rfl ?_
    refine kg_push (x := 65535) hk_240 rfl (by decide) rfl ?_
    refine kg_bin (z := ((h 1120 (h 1126 x2.toNatClampNeg).toNatClampNeg) &&& 65535)) hk_240 rfl rfl rfl ?_
    refine kg_iload hk_240 rfl rfl rfl ?_
    refine kg_push (x := (-1)) hk_240 rfl (by decide) rfl ?_
    refine kg_bin (z := (x1 ^^^ (-1))) hk_240 rfl rfl rfl ?_
    refine kg_bin (z := (((h 1120 (h 1126 x2.toNatClampNeg).toNatClampNeg) &&& 65535) &&& (x1 ^^^ (-1)))) hk_240 rfl rfl rfl ?_
    refine wf_if hF (fun cz9 hF => ?_) (fun cz9 hF => ?_)
    · refine kg_ifF hk_240 rfl (jc_F1 cz9) rfl ?_
      refine kg_aload hk_240 rfl rfl rfl ?_
      refine kg_get (v := .ref (1125 + 1)) hk_240 rfl wk_1076_62 rfl rfl ?_
      refine kg_iload hk_240 rfl rfl rfl ?_
      refine kg_aload hk_240 rfl rfl rfl ?_
      refine kg_iload hk_240 rfl rfl rfl ?_
      refine kg_push (x := 2) hk_240 rfl (by decide) rfl ?_
      refine kg_aload hk_240 rfl rfl rfl ?_
      refine kg_get (v := .ref (1123 + 1)) hk_240 rfl wk_1076_60 rfl rfl ?_
      refine kg_aload hk_240 rfl rfl rfl ?_
      refine kg_get (v := .ref (1124 + 1)) hk_240 rfl wk_1076_61 rfl rfl ?_
      refine wf_bind hF (fun vz10 hvz10 hF => ?_)
      refine kg_call (as := [.ref (1076 + 1), .int (h 1126 x2.toNatClampNeg), .int 2, .ref (1123 + 1), .ref (1124 + 1)]) (rest := [.int (h 1126 x2.toNatClampNeg), .ref (1125 + 1)]) hk_240 rfl (Or.inr (Or.inr (Or.inr ⟨Or.inl rfl, _, _, rfl, wc_1076⟩))) rfl rfl rfl (Nat.not_lt.mpr (Nat.le_of_ble_eq_true rfl)) (p_216_ok (w_lenE wc_1123) (w_lenE wc_1124) hvz10) (by decide) rfl ?_
      refine wf_gd hF (fun gz11 hF => ?_)
      refine wf_let hF (fun hz12 hhz12 hF => ?_)
      refine kg_ast hk_240 rfl wc_1125 gz11 hhz12 rfl ?_
      refine kg_iload hk_240 rfl rfl rfl ?_
      refine kg_aload hk_240 rfl rfl rfl ?_
      refine kg_get (v := .ref (1125 + 1)) hk_240 rfl wk_1076_62 rfl rfl ?_
      refine kg_iload hk_240 rfl rfl rfl ?_
      refine wf_gd hF (fun gz13 hF => ?_)
      refine kg_ald (y := (hz12 1125 (h 1126 x2.toNatClampNeg).toNatClampNeg)) hk_240 rfl wc_1125 gz13 rfl rfl ?_
      refine kv_mid (p := 61) (L := [.ref (1076 + 1), .int x1, .int x2, .int (h 1126 x2.toNatClampNeg)]) (S := [.int (if (hz12 1125 (h 1126 x2.toNatClampNeg).toNatClampNeg) = 0 then 0 else (1 <<< ((h 1126 x2.toNatClampNeg) &&& 31)) : Int32), .int x1]) ?_ (fun hK => ?_)
      · refine kg_bin (z := (x1 ||| (if (hz12 1125 (h 1126 x2.toNatClampNeg).toNatClampNeg) = 0 then 0 else (1 <<< ((h 1126 x2.toNatClampNeg) &&& 31)) : Int32))) hk_240 rfl rfl rfl ?_
        refine kg_istore (L2 := [.ref (1076 + 1), .int (x1 ||| (if (hz12 1125 (h 1126 x2.toNatClampNeg).toNatClampNeg) = 0 then 0 else (1 <<< ((h 1126 x2.toNatClampNeg) &&& 31)) : Int32)), .int x2, .int (h 1126 x2.toNatClampNeg)]) hk_240 rfl (Nat.le_of_ble_eq_true rfl) rfl rfl ?_
        refine kg_iinc (y := (x2 + 1)) (L2 := [.ref (1076 + 1), .int (x1 ||| (if (hz12 1125 (h 1126 x2.toNatClampNeg).toNatClampNeg) = 0 then 0 else (1 <<< ((h 1126 x2.toNatClampNeg) &&& 31)) : Int32)), .int (x2 + 1), .int (h 1126 x2.toNatClampNeg)]) hk_240 rfl rfl rfl rfl rfl ?_
        refine kg_goto hk_240 rfl ?_
        have hF := Option.some.inj hF
        exact hK _ hF.symm _
      · by_cases cz14 : (hz12 1125 (h 1126 x2.toNatClampNeg).toNatClampNeg) = 0
        · have hK := kv_T cz14 hK
          refine kg_ifT hk_240 rfl (jc_T0 cz14) ?_
          refine kg_push (x := 0) hk_240 rfl (by decide) rfl ?_
          exact hK
        · have hK := kv_F cz14 hK
          refine kg_ifF hk_240 rfl (jc_F0 cz14) rfl ?_
          refine kg_push (x := 1) hk_240 rfl (by decide) rfl ?_
          refine kg_iload hk_240 rfl rfl rfl ?_
          refine kg_bin (z := (1 <<< ((h 1126 x2.toNatClampNeg) &&& 31))) hk_240 rfl rfl rfl ?_
          refine kg_goto hk_240 rfl ?_
          exact hK
    · refine kg_ifT hk_240 rfl (jc_T1 cz9) ?_
      refine kg_iinc (y := (x2 + 1)) (L2 := [.ref (1076 + 1), .int x1, .int (x2 + 1), .int (h 1126 x2.toNatClampNeg)]) hk_240 rfl rfl rfl rfl rfl ?_
      refine kg_goto hk_240 rfl ?_
      have hF := Option.some.inj hF
      exact hK _ hF.symm _
  · refine kg_icT hk_240 rfl (jc_T3 cz6) ?_
    have hF := Option.some.inj hF
    exact kg_ret hk_240 rfl (hX0 _ hF.symm)
theorem l_240_18_ok {X : List Int32} {o : kO}    {n : Nat} {s : Int32 × Int32 × Hp} {e : Hp} (hF : w_lp (fun (s : Int32 × Int32 × Hp) => l_240_18 s.1 s.2.1 s.2.2) n s = some e) (hX0 : (.inl none, e) = o) : ∀ (u3 : Value), k_Go X 10 240 (18, [.ref (1076 + 1), .int s.1, .int s.2.1, u3], []) s.2.2 o := by
  exact w_lp_ok (P := (fun (s : Int32 × Int32 × Hp) => ∀ (u3 : Value), k_Go X 10 240 (18, [.ref (1076 + 1), .int s.1, .int s.2.1, u3], []) s.2.2 o)) (Q := (fun (e : Hp) => ((.inl none, e) = o))) (fun s r hF hK hX => l_240_18_st hF hK (fun x hx => (hX _ hx))) n s e hF hX0
def p_240 (h : Hp) : Option (Hp) :=
  (p_239 h).bind fun vz1 =>
  (w_lp (fun (s : Int32 × Hp) => l_240_6 s.1 s.2) w_N (0, vz1)).bind fun ez5 =>
  w_lp (fun (s : Int32 × Int32 × Hp) => l_240_18 s.1 s.2.1 s.2.2) w_N (0, 0, ez5)
theorem p_240_ok {X : List Int32}  {h : Hp}   {r : Hp} (hF : p_240 h = some r) : k_Ev X 10 240 [.ref (1076 + 1)] h (.inl none, r) := by
  refine k_of hk_240 ?_
  show k_Go X 10 240 (0, [.ref (1076 + 1), (.retAddr 0), (.retAddr 0), (.retAddr 0)], []) h _
  unfold p_240 at hF
  refine kg_aload hk_240 rfl rfl rfl ?_
  refine wf_bind hF (fun vz1 hvz1 hF => ?_)
  refine kg_call (as := [.ref (1076 + 1)]) (rest := []) hk_240 rfl (Or.inr (Or.inr (Or.inr ⟨Or.inl rfl, _, _, rfl, wc_1076⟩))) rfl rfl rfl (Nat.not_lt.mpr (Nat.le_of_ble_eq_true rfl)) (p_239_ok hvz1) (by decide) rfl ?_
  refine kg_push (x := 0) hk_240 rfl (by decide) rfl ?_
  refine kg_istore (L2 := [.ref (1076 + 1), .int 0, (.retAddr 0), (.retAddr 0)]) hk_240 rfl (Nat.le_of_ble_eq_true rfl) rfl rfl ?_
  refine kg_push (x := 0) hk_240 rfl (by decide) rfl ?_
  refine kg_istore (L2 := [.ref (1076 + 1), .int 0, .int 0, (.retAddr 0)]) hk_240 rfl (Nat.le_of_ble_eq_true rfl) rfl rfl ?_
  refine wf_bind hF (fun ez5 hez5 hF => ?_)
  refine l_240_6_ok hez5 ?_ _
  intro u2 u3
  refine kg_push (x := 0) hk_240 rfl (by decide) rfl ?_
  refine kg_istore (L2 := [.ref (1076 + 1), .int 0, .int 0, u3]) hk_240 rfl (Nat.le_of_ble_eq_true rfl) rfl rfl ?_
  exact l_240_18_ok hF rfl _
-- NotebookWeirModel.resultAnew(II)I
theorem hk_241 : jP[241]? = some (jc_241, 5, [], []) := by rfl
def q_241_26 (h : Hp) (x1 : Int32) (x2 : Int32) (x3 : Int32) (s0 : Int32) : Option (Int32 × Hp) :=
  (p_146 h x3 s0 1).bind fun vz8 =>
  w_gd ((if vz8.1 = 0 then true else g_237 vz8.2 1124 (9 * x1) x2)) <|
  some ((if vz8.1 = 0 then 0 else (v_237 vz8.2 1124 (9 * x1) x2) : Int32), vz8.2)
theorem q_241_26_ok {X : List Int32}   {h : Hp} {s0 : Int32} {x1 : Int32} {x2 : Int32} {x3 : Int32}  {r : Int32 × Hp} (hF : q_241_26 h x1 x2 x3 s0 = some r)  : ∀ (u4 : Value), k_Go X 11 241 (26, [.ref (1076 + 1), .int x1, .int x2, .int x3, u4], [.int s0]) h (.inl (some (.int r.1)), r.2) := by
  intro u4
  unfold q_241_26 at hF
  refine kg_istore (L2 := [.ref (1076 + 1), .int x1, .int x2, .int x3, .int s0]) hk_241 rfl (Nat.le_of_ble_eq_true rfl) rfl rfl ?_
  refine kg_aload hk_241 rfl rfl rfl ?_
  refine kg_iload hk_241 rfl rfl rfl ?_
  refine kg_iload hk_241 rfl rfl rfl ?_
  refine kg_push (x := 1) hk_241 rfl (by decide) rfl ?_
  refine wf_bind hF (fun vz8 hvz8 hF => ?_)
  refine kg_call (as := [.ref (1076 + 1), .int x3, .int s0, .int 1]) (rest := []) hk_241 rfl (Or.inr (Or.inr (Or.inr ⟨Or.inl rfl, _, _, rfl, wc_1076⟩))) rfl rfl rfl (Nat.not_lt.mpr (Nat.le_of_ble_eq_true rfl)) (p_146_ok hvz8) (by decide) rfl ?_
  refine wf_gd hF (fun gz11 hF => ?_)
  refine kv_mid (p := 42) (L := [.ref (1076 + 1), .int x1, .int x2, .int x3, .int s0]) (S := [.int (if vz8.1 = 0 then 0 else (v_237 vz8.2 1124 (9 * x1) x2) : Int32)]) ?_ (fun hK => ?_)
  · have hF := Option.some.inj hF
    subst hF
    exact kg_iret hk_241 rfl (Or.inl rfl) rfl
  · have hg := gz11
    by_cases cz9 : vz8.1 = 0
    · have hK := kv_T cz9 hK
      refine kg_ifT hk_241 rfl (jc_T0 cz9) ?_
      refine kg_push (x := 0) hk_241 rfl (by decide) rfl ?_
      exact hK
    · have hg := wv_F cz9 hg
      have hK := kv_F cz9 hK
      have gz10 := hg
      refine kg_ifF hk_241 rfl (jc_F0 cz9) rfl ?_
      refine kg_aload hk_241 rfl rfl rfl ?_
      refine kg_get (v := .ref (1124 + 1)) hk_241 rfl wk_1076_61 rfl rfl ?_
      refine kg_push (x := 9) hk_241 rfl (by decide) rfl ?_
      refine kg_iload hk_241 rfl rfl rfl ?_
      refine kg_bin (z := (9 * x1)) hk_241 rfl rfl rfl ?_
      refine kg_iload hk_241 rfl rfl rfl ?_
      refine kg_call (as := [.ref (1124 + 1), .int (9 * x1), .int x2]) (rest := []) hk_241 rfl (Or.inl rfl) rfl rfl rfl (Nat.not_lt.mpr (Nat.le_of_ble_eq_true rfl)) (v_237_ok (w_lenE wc_1124) gz10) (by decide) rfl ?_
      refine kg_goto hk_241 rfl ?_
      exact hK
def q_241_8 (h : Hp) (x1 : Int32) (x2 : Int32) (x3 : Int32) : Option (Int32 × Hp) :=
  w_gd ((if x3 = 0 then true else (w_ix x1 16) && ((if (h 1125 x1.toNatClampNeg) = 0 then true else g_236 1124 (9 * x1) x2)))) <|
  q_241_26 h x1 x2 x3 (if x3 = 0 then 0 else (if (h 1125 x1.toNatClampNeg) = 0 then 0 else (if (v_236 h 1124 (9 * x1) x2) = 0 then 0 else 1 : Int32) : Int32) : Int32)
theorem q_241_8_ok {X : List Int32}   {h : Hp} {x1 : Int32} {x2 : Int32} {x3 : Int32}  {r : Int32 × Hp} (hF : q_241_8 h x1 x2 x3 = some r)  : ∀ (u4 : Value), k_Go X 11 241 (8, [.ref (1076 + 1), .int x1, .int x2, .int x3, u4], []) h (.inl (some (.int r.1)), r.2) := by
  intro u4
  unfold q_241_8 at hF
  refine kg_iload hk_241 rfl rfl rfl ?_
  refine wf_gd hF (fun gz7 hF => ?_)
  refine kv_mid (p := 26) (L := [.ref (1076 + 1), .int x1, .int x2, .int x3, u4]) (S := [.int (if x3 = 0 then 0 else (if (h 1125 x1.toNatClampNeg) = 0 then 0 else (if (v_236 h 1124 (9 * x1) x2) = 0 then 0 else 1 : Int32) : Int32) : Int32)]) ?_ (fun hK => ?_)
  · exact q_241_26_ok hF _
  · have hg := gz7
    by_cases cz2 : x3 = 0
    · have hK := kv_T cz2 hK
      refine kg_ifT hk_241 rfl (jc_T0 cz2) ?_
      refine kg_push (x := 0) hk_241 rfl (by decide) rfl ?_
      exact hK
    · have hg := wv_F cz2 hg
      have hK := kv_F cz2 hK
      have gz3 := wb_1 hg
      have hg := wb_2 hg
      refine kg_ifF hk_241 rfl (jc_F0 cz2) rfl ?_
      refine kg_aload hk_241 rfl rfl rfl ?_
      refine kg_get (v := .ref (1125 + 1)) hk_241 rfl wk_1076_62 rfl rfl ?_
      refine kg_iload hk_241 rfl rfl rfl ?_
      refine kg_ald (y := (h 1125 x1.toNatClampNeg)) hk_241 rfl wc_1125 gz3 rfl rfl ?_
      by_cases cz4 : (h 1125 x1.toNatClampNeg) = 0
      · have hK := kv_T cz4 hK
        refine kg_ifT hk_241 rfl (jc_T0 cz4) ?_
        refine kg_push (x := 0) hk_241 rfl (by decide) rfl ?_
        exact hK
      · have hg := wv_F cz4 hg
        have hK := kv_F cz4 hK
        have gz5 := hg
        refine kg_ifF hk_241 rfl (jc_F0 cz4) rfl ?_
        refine kg_aload hk_241 rfl rfl rfl ?_
        refine kg_get (v := .ref (1124 + 1)) hk_241 rfl wk_1076_61 rfl rfl ?_
        refine kg_push (x := 9) hk_241 rfl (by decide) rfl ?_
        refine kg_iload hk_241 rfl rfl rfl ?_
        refine kg_bin (z := (9 * x1)) hk_241 rfl rfl rfl ?_
        refine kg_iload hk_241 rfl rfl rfl ?_
        refine kg_call (as := [.ref (1124 + 1), .int (9 * x1), .int x2]) (rest := []) hk_241 rfl (Or.inl rfl) rfl rfl rfl (Nat.not_lt.mpr (Nat.le_of_ble_eq_true rfl)) (v_236_ok (w_lenE wc_1124) gz5) (by decide) rfl ?_
        by_cases cz6 : (v_236 h 1124 (9 * x1) x2) = 0
        · have hK := kv_T cz6 hK
          refine kg_ifT hk_241 rfl (jc_T0 cz6) ?_
          refine kg_push (x := 0) hk_241 rfl (by decide) rfl ?_
          exact hK
        · have hK := kv_F cz6 hK
          refine kg_ifF hk_241 rfl (jc_F0 cz6) rfl ?_
          refine kg_push (x := 1) hk_241 rfl (by decide) rfl ?_
          refine kg_goto hk_241 rfl ?_
          exact hK
def p_241 (h : Hp) (x1 : Int32) (x2 : Int32) : Option (Int32 × Hp) :=
  if (v_167 h x1) = 0 then
    (q_241_8 h x1 x2 (v_167 h x1))
  else
    ((p_240 h).bind fun vz12 =>
    q_241_8 vz12 x1 x2 (v_167 h x1))
theorem p_241_ok {X : List Int32}  {h : Hp} {x1 : Int32} {x2 : Int32}  {r : Int32 × Hp} (hF : p_241 h x1 x2 = some r) : k_Ev X 11 241 [.ref (1076 + 1), .int x1, .int x2] h (.inl (some (.int r.1)), r.2) := by
  refine k_of hk_241 ?_
  show k_Go X 11 241 (0, [.ref (1076 + 1), .int x1, .int x2, (.retAddr 0), (.retAddr 0)], []) h _
  unfold p_241 at hF
  refine kg_aload hk_241 rfl rfl rfl ?_
  refine kg_iload hk_241 rfl rfl rfl ?_
  refine kg_call (as := [.ref (1076 + 1), .int x1]) (rest := []) hk_241 rfl (Or.inr (Or.inr (Or.inr ⟨Or.inl rfl, _, _, rfl, wc_1076⟩))) rfl rfl rfl (Nat.not_lt.mpr (Nat.le_of_ble_eq_true rfl)) (v_167_ok) (by decide) rfl ?_
  refine kg_istore (L2 := [.ref (1076 + 1), .int x1, .int x2, .int (v_167 h x1), (.retAddr 0)]) hk_241 rfl (Nat.le_of_ble_eq_true rfl) rfl rfl ?_
  refine kg_iload hk_241 rfl rfl rfl ?_
  refine wf_if hF (fun cz1 hF => ?_) (fun cz1 hF => ?_)
  · refine kg_ifT hk_241 rfl (jc_T0 cz1) ?_
    exact q_241_8_ok hF _
  · refine kg_ifF hk_241 rfl (jc_F0 cz1) rfl ?_
    refine kg_aload hk_241 rfl rfl rfl ?_
    refine wf_bind hF (fun vz12 hvz12 hF => ?_)
    refine kg_call (as := [.ref (1076 + 1)]) (rest := []) hk_241 rfl (Or.inr (Or.inr (Or.inr ⟨Or.inl rfl, _, _, rfl, wc_1076⟩))) rfl rfl rfl (Nat.not_lt.mpr (Nat.le_of_ble_eq_true rfl)) (p_240_ok hvz12) (by decide) rfl ?_
    exact q_241_8_ok hF _
-- NotebookWeirModel.value(CI)I
theorem hk_242 : jP[242]? = some (jc_242, 6, [], []) := by rfl
def q_242_88 (h : Hp) (x2 : Int32) (x4 : Int32) (s0 : Int32) : Option (Int32 × Hp) :=
  (p_146 h 1 s0 1).bind fun vz14 =>
  w_gd ((if vz14.1 = 0 then true else g_237 vz14.2 1093 x4 x2)) <|
  some ((if vz14.1 = 0 then 0 else (v_237 vz14.2 1093 x4 x2) : Int32), vz14.2)
theorem q_242_88_ok {X : List Int32}   {h : Hp} {s0 : Int32} {x2 : Int32} {x4 : Int32}  {r : Int32 × Hp} (hF : q_242_88 h x2 x4 s0 = some r)  : ∀ (u1 : Value) (u3 : Value) (u5 : Value), k_Go X 15 242 (88, [.ref (1076 + 1), u1, .int x2, u3, .int x4, u5], [.int s0]) h (.inl (some (.int r.1)), r.2) := by
  intro u1 u3 u5
  unfold q_242_88 at hF
  refine kg_istore (L2 := [.ref (1076 + 1), u1, .int x2, u3, .int x4, .int s0]) hk_242 rfl (Nat.le_of_ble_eq_true rfl) rfl rfl ?_
  refine kg_aload hk_242 rfl rfl rfl ?_
  refine kg_push (x := 1) hk_242 rfl (by decide) rfl ?_
  refine kg_iload hk_242 rfl rfl rfl ?_
  refine kg_push (x := 1) hk_242 rfl (by decide) rfl ?_
  refine wf_bind hF (fun vz14 hvz14 hF => ?_)
  refine kg_call (as := [.ref (1076 + 1), .int 1, .int s0, .int 1]) (rest := []) hk_242 rfl (Or.inr (Or.inr (Or.inr ⟨Or.inl rfl, _, _, rfl, wc_1076⟩))) rfl rfl rfl (Nat.not_lt.mpr (Nat.le_of_ble_eq_true rfl)) (p_146_ok hvz14) (by decide) rfl ?_
  refine wf_gd hF (fun gz17 hF => ?_)
  refine kv_mid (p := 102) (L := [.ref (1076 + 1), u1, .int x2, u3, .int x4, .int s0]) (S := [.int (if vz14.1 = 0 then 0 else (v_237 vz14.2 1093 x4 x2) : Int32)]) ?_ (fun hK => ?_)
  · have hF := Option.some.inj hF
    subst hF
    exact kg_iret hk_242 rfl (Or.inl rfl) rfl
  · have hg := gz17
    by_cases cz15 : vz14.1 = 0
    · have hK := kv_T cz15 hK
      refine kg_ifT hk_242 rfl (jc_T0 cz15) ?_
      refine kg_push (x := 0) hk_242 rfl (by decide) rfl ?_
      exact hK
    · have hg := wv_F cz15 hg
      have hK := kv_F cz15 hK
      have gz16 := hg
      refine kg_ifF hk_242 rfl (jc_F0 cz15) rfl ?_
      refine kg_aload hk_242 rfl rfl rfl ?_
      refine kg_get (v := .ref (1093 + 1)) hk_242 rfl wk_1076_17 rfl rfl ?_
      refine kg_iload hk_242 rfl rfl rfl ?_
      refine kg_iload hk_242 rfl rfl rfl ?_
      refine kg_call (as := [.ref (1093 + 1), .int x4, .int x2]) (rest := []) hk_242 rfl (Or.inl rfl) rfl rfl rfl (Nat.not_lt.mpr (Nat.le_of_ble_eq_true rfl)) (v_237_ok (w_lenE wc_1093) gz16) (by decide) rfl ?_
      refine kg_goto hk_242 rfl ?_
      exact hK
def q_242_71 (h : Hp) (x2 : Int32) (x3 : Int32) (s0 : Int32) : Option (Int32 × Hp) :=
  w_gd ((if x3 < 0 then true else (w_ix x3 16) && ((if (h 1122 x3.toNatClampNeg) = 0 then g_236 1093 s0 x2 else true)))) <|
  q_242_88 h x2 s0 (if x3 < 0 then 0 else (if (h 1122 x3.toNatClampNeg) = 0 then (if (v_236 h 1093 s0 x2) = 0 then 0 else 1 : Int32) else 0 : Int32) : Int32)
theorem q_242_71_ok {X : List Int32}   {h : Hp} {s0 : Int32} {x2 : Int32} {x3 : Int32}  {r : Int32 × Hp} (hF : q_242_71 h x2 x3 s0 = some r)  : ∀ (u1 : Value) (u4 : Value) (u5 : Value), k_Go X 15 242 (71, [.ref (1076 + 1), u1, .int x2, .int x3, u4, u5], [.int s0]) h (.inl (some (.int r.1)), r.2) := by
  intro u1 u4 u5
  unfold q_242_71 at hF
  refine kg_istore (L2 := [.ref (1076 + 1), u1, .int x2, .int x3, .int s0, u5]) hk_242 rfl (Nat.le_of_ble_eq_true rfl) rfl rfl ?_
  refine kg_iload hk_242 rfl rfl rfl ?_
  refine wf_gd hF (fun gz13 hF => ?_)
  refine kv_mid (p := 88) (L := [.ref (1076 + 1), u1, .int x2, .int x3, .int s0, u5]) (S := [.int (if x3 < 0 then 0 else (if (h 1122 x3.toNatClampNeg) = 0 then (if (v_236 h 1093 s0 x2) = 0 then 0 else 1 : Int32) else 0 : Int32) : Int32)]) ?_ (fun hK => ?_)
  · exact q_242_88_ok hF _ _ _
  · have hg := gz13
    by_cases cz8 : x3 < 0
    · have hK := kv_T cz8 hK
      refine kg_ifT hk_242 rfl (jc_T2 cz8) ?_
      refine kg_push (x := 0) hk_242 rfl (by decide) rfl ?_
      exact hK
    · have hg := wv_F cz8 hg
      have hK := kv_F cz8 hK
      have gz9 := wb_1 hg
      have hg := wb_2 hg
      refine kg_ifF hk_242 rfl (jc_F2 cz8) rfl ?_
      refine kg_aload hk_242 rfl rfl rfl ?_
      refine kg_get (v := .ref (1122 + 1)) hk_242 rfl wk_1076_59 rfl rfl ?_
      refine kg_iload hk_242 rfl rfl rfl ?_
      refine kg_ald (y := (h 1122 x3.toNatClampNeg)) hk_242 rfl wc_1122 gz9 rfl rfl ?_
      by_cases cz10 : (h 1122 x3.toNatClampNeg) = 0
      · have hg := wv_T cz10 hg
        have hK := kv_T cz10 hK
        have gz11 := hg
        refine kg_ifF hk_242 rfl (jc_F1 cz10) rfl ?_
        refine kg_aload hk_242 rfl rfl rfl ?_
        refine kg_get (v := .ref (1093 + 1)) hk_242 rfl wk_1076_17 rfl rfl ?_
        refine kg_iload hk_242 rfl rfl rfl ?_
        refine kg_iload hk_242 rfl rfl rfl ?_
        refine kg_call (as := [.ref (1093 + 1), .int s0, .int x2]) (rest := []) hk_242 rfl (Or.inl rfl) rfl rfl rfl (Nat.not_lt.mpr (Nat.le_of_ble_eq_true rfl)) (v_236_ok (w_lenE wc_1093) gz11) (by decide) rfl ?_
        by_cases cz12 : (v_236 h 1093 s0 x2) = 0
        · have hK := kv_T cz12 hK
          refine kg_ifT hk_242 rfl (jc_T0 cz12) ?_
          refine kg_push (x := 0) hk_242 rfl (by decide) rfl ?_
          exact hK
        · have hK := kv_F cz12 hK
          refine kg_ifF hk_242 rfl (jc_F0 cz12) rfl ?_
          refine kg_push (x := 1) hk_242 rfl (by decide) rfl ?_
          refine kg_goto hk_242 rfl ?_
          exact hK
      · have hK := kv_F cz10 hK
        refine kg_ifT hk_242 rfl (jc_T1 cz10) ?_
        refine kg_push (x := 0) hk_242 rfl (by decide) rfl ?_
        exact hK
def q_242_58 (h : Hp) (x1 : Int32) (x2 : Int32) (x3 : Int32) : Option (Int32 × Hp) :=
  q_242_71 h x2 x3 (if x3 < 0 then 0 else ((234 * x3) + (9 * (x1 - 97))) : Int32)
theorem q_242_58_ok {X : List Int32}   {h : Hp} {x1 : Int32} {x2 : Int32} {x3 : Int32}  {r : Int32 × Hp} (hF : q_242_58 h x1 x2 x3 = some r)  : ∀ (u4 : Value) (u5 : Value), k_Go X 15 242 (58, [.ref (1076 + 1), .int x1, .int x2, .int x3, u4, u5], []) h (.inl (some (.int r.1)), r.2) := by
  intro u4 u5
  unfold q_242_58 at hF
  refine kg_iload hk_242 rfl rfl rfl ?_
  refine kv_mid (p := 71) (L := [.ref (1076 + 1), .int x1, .int x2, .int x3, u4, u5]) (S := [.int (if x3 < 0 then 0 else ((234 * x3) + (9 * (x1 - 97))) : Int32)]) ?_ (fun hK => ?_)
  · exact q_242_71_ok hF _ _ _
  · by_cases cz7 : x3 < 0
    · have hK := kv_T cz7 hK
      refine kg_ifF hk_242 rfl (jc_F3 cz7) rfl ?_
      refine kg_push (x := 0) hk_242 rfl (by decide) rfl ?_
      refine kg_goto hk_242 rfl ?_
      exact hK
    · have hK := kv_F cz7 hK
      refine kg_ifT hk_242 rfl (jc_T3 cz7) ?_
      refine kg_push (x := 234) hk_242 rfl (by decide) rfl ?_
      refine kg_iload hk_242 rfl rfl rfl ?_
      refine kg_bin (z := (234 * x3)) hk_242 rfl rfl rfl ?_
      refine kg_push (x := 9) hk_242 rfl (by decide) rfl ?_
      refine kg_iload hk_242 rfl rfl rfl ?_
      refine kg_push (x := 97) hk_242 rfl (by decide) rfl ?_
      refine kg_bin (z := (x1 - 97)) hk_242 rfl rfl rfl ?_
      refine kg_bin (z := (9 * (x1 - 97))) hk_242 rfl rfl rfl ?_
      refine kg_bin (z := ((234 * x3) + (9 * (x1 - 97)))) hk_242 rfl rfl rfl ?_
      exact hK
def q_242_41 (h : Hp) (x3 : Int32) (s0 : Int32) (s1 : Int32) : Option (Int32 × Hp) :=
  (p_146 h s1 s0 1).bind fun vz20 =>
  w_gd ((if vz20.1 = 0 then true else w_ix (x3 - 16) 4)) <|
  some ((if vz20.1 = 0 then 0 else (vz20.2 1115 (x3 - 16).toNatClampNeg) : Int32), vz20.2)
theorem q_242_41_ok {X : List Int32}   {h : Hp} {s0 : Int32} {s1 : Int32} {x3 : Int32}  {r : Int32 × Hp} (hF : q_242_41 h x3 s0 s1 = some r)  : ∀ (u1 : Value) (u2 : Value) (u4 : Value) (u5 : Value), k_Go X 15 242 (41, [.ref (1076 + 1), u1, u2, .int x3, u4, u5], [.int s0, .int s1, .ref (1076 + 1)]) h (.inl (some (.int r.1)), r.2) := by
  intro u1 u2 u4 u5
  unfold q_242_41 at hF
  refine kg_push (x := 1) hk_242 rfl (by decide) rfl ?_
  refine wf_bind hF (fun vz20 hvz20 hF => ?_)
  refine kg_call (as := [.ref (1076 + 1), .int s1, .int s0, .int 1]) (rest := []) hk_242 rfl (Or.inr (Or.inr (Or.inr ⟨Or.inl rfl, _, _, rfl, wc_1076⟩))) rfl rfl rfl (Nat.not_lt.mpr (Nat.le_of_ble_eq_true rfl)) (p_146_ok hvz20) (by decide) rfl ?_
  refine wf_gd hF (fun gz23 hF => ?_)
  refine kv_mid (p := 52) (L := [.ref (1076 + 1), u1, u2, .int x3, u4, u5]) (S := [.int (if vz20.1 = 0 then 0 else (vz20.2 1115 (x3 - 16).toNatClampNeg) : Int32)]) ?_ (fun hK => ?_)
  · have hF := Option.some.inj hF
    subst hF
    exact kg_iret hk_242 rfl (Or.inl rfl) rfl
  · have hg := gz23
    by_cases cz21 : vz20.1 = 0
    · have hK := kv_T cz21 hK
      refine kg_ifT hk_242 rfl (jc_T0 cz21) ?_
      refine kg_push (x := 0) hk_242 rfl (by decide) rfl ?_
      exact hK
    · have hg := wv_F cz21 hg
      have hK := kv_F cz21 hK
      have gz22 := hg
      refine kg_ifF hk_242 rfl (jc_F0 cz21) rfl ?_
      refine kg_aload hk_242 rfl rfl rfl ?_
      refine kg_get (v := .ref (1115 + 1)) hk_242 rfl wk_1076_52 rfl rfl ?_
      refine kg_iload hk_242 rfl rfl rfl ?_
      refine kg_push (x := 16) hk_242 rfl (by decide) rfl ?_
      refine kg_bin (z := (x3 - 16)) hk_242 rfl rfl rfl ?_
      refine kg_ald (y := (vz20.2 1115 (x3 - 16).toNatClampNeg)) hk_242 rfl wc_1115 gz22 rfl rfl ?_
      refine kg_goto hk_242 rfl ?_
      exact hK
def q_242_29 (h : Hp) (x1 : Int32) (x2 : Int32) (s0 : Int32) : Option (Int32 × Hp) :=
  if s0 < 16 then
    (if s0 < 0 then
      (q_242_58 h x1 x2 s0)
    else
      ((p_235 h s0).bind fun vz18 =>
      q_242_58 vz18 x1 x2 s0))
  else
    (q_242_41 h s0 (if x2 = (-1) then 1 else 0 : Int32) 1)
theorem q_242_29_ok {X : List Int32}   {h : Hp} {s0 : Int32} {x1 : Int32} {x2 : Int32}  {r : Int32 × Hp} (hF : q_242_29 h x1 x2 s0 = some r)  : ∀ (u3 : Value) (u4 : Value) (u5 : Value), k_Go X 15 242 (29, [.ref (1076 + 1), .int x1, .int x2, u3, u4, u5], [.int s0]) h (.inl (some (.int r.1)), r.2) := by
  intro u3 u4 u5
  unfold q_242_29 at hF
  refine kg_istore (L2 := [.ref (1076 + 1), .int x1, .int x2, .int s0, u4, u5]) hk_242 rfl (Nat.le_of_ble_eq_true rfl) rfl rfl ?_
  refine kg_iload hk_242 rfl rfl rfl ?_
  refine kg_push (x := 16) hk_242 rfl (by decide) rfl ?_
  refine wf_if hF (fun cz5 hF => ?_) (fun cz5 hF => ?_)
  · refine kg_icT hk_242 rfl (jc_T2 cz5) ?_
    refine kg_iload hk_242 rfl rfl rfl ?_
    refine wf_if hF (fun cz6 hF => ?_) (fun cz6 hF => ?_)
    · refine kg_ifT hk_242 rfl (jc_T2 cz6) ?_
      exact q_242_58_ok hF _ _
    · refine kg_ifF hk_242 rfl (jc_F2 cz6) rfl ?_
      refine kg_aload hk_242 rfl rfl rfl ?_
      refine kg_iload hk_242 rfl rfl rfl ?_
      refine wf_bind hF (fun vz18 hvz18 hF => ?_)
      refine kg_call (as := [.ref (1076 + 1), .int s0]) (rest := []) hk_242 rfl (Or.inr (Or.inr (Or.inr ⟨Or.inl rfl, _, _, rfl, wc_1076⟩))) rfl rfl rfl (Nat.not_lt.mpr (Nat.le_of_ble_eq_true rfl)) (p_235_ok hvz18) (by decide) rfl ?_
      exact q_242_58_ok hF _ _
  · refine kg_icF hk_242 rfl (jc_F2 cz5) rfl ?_
    refine kg_aload hk_242 rfl rfl rfl ?_
    refine kg_push (x := 1) hk_242 rfl (by decide) rfl ?_
    refine kg_iload hk_242 rfl rfl rfl ?_
    refine kg_push (x := (-1)) hk_242 rfl (by decide) rfl ?_
    refine kv_mid (p := 41) (L := [.ref (1076 + 1), .int x1, .int x2, .int s0, u4, u5]) (S := [.int (if x2 = (-1) then 1 else 0 : Int32), .int 1, .ref (1076 + 1)]) ?_ (fun hK => ?_)
    · exact q_242_41_ok hF _ _ _ _
    · by_cases cz19 : x2 = (-1)
      · have hK := kv_T cz19 hK
        refine kg_icF hk_242 rfl (jc_F1 cz19) rfl ?_
        refine kg_push (x := 1) hk_242 rfl (by decide) rfl ?_
        refine kg_goto hk_242 rfl ?_
        exact hK
      · have hK := kv_F cz19 hK
        refine kg_icT hk_242 rfl (jc_T1 cz19) ?_
        refine kg_push (x := 0) hk_242 rfl (by decide) rfl ?_
        exact hK
def q_242_22 (h : Hp) (x1 : Int32) (x2 : Int32) (x3 : Int32) : Option (Int32 × Hp) :=
  q_242_29 h x1 x2 x3
theorem q_242_22_ok {X : List Int32}   {h : Hp} {x1 : Int32} {x2 : Int32} {x3 : Int32}  {r : Int32 × Hp} (hF : q_242_22 h x1 x2 x3 = some r)  : ∀ (u4 : Value) (u5 : Value), k_Go X 15 242 (22, [.ref (1076 + 1), .int x1, .int x2, .int x3, u4, u5], []) h (.inl (some (.int r.1)), r.2) := by
  intro u4 u5
  unfold q_242_22 at hF
  refine kg_iload hk_242 rfl rfl rfl ?_
  refine kg_goto hk_242 rfl ?_
  exact q_242_29_ok hF _ _ _
def p_242 (h : Hp) (x1 : Int32) (x2 : Int32) : Option (Int32 × Hp) :=
  (p_146 h (v_148 x1) 1 1).bind fun vz1 =>
  if vz1.1 = 0 then
    (some (0, vz1.2))
  else
    ((p_181 vz1.2 x1).bind fun vz3 =>
    if vz3 < 0 then
      (q_242_22 vz1.2 x1 x2 vz3)
    else
      ((p_180 vz1.2 x1 (vz1.2 1076 2)).bind fun vz24 =>
      if vz24 = (-1) then
        (q_242_22 vz1.2 x1 x2 vz3)
      else
        ((p_180 vz1.2 x1 (vz1.2 1076 2)).bind fun vz26 =>
        q_242_29 vz1.2 x1 x2 vz26)))
theorem p_242_ok {X : List Int32}  {h : Hp} {x1 : Int32} {x2 : Int32}  {r : Int32 × Hp} (hF : p_242 h x1 x2 = some r) : k_Ev X 15 242 [.ref (1076 + 1), .int x1, .int x2] h (.inl (some (.int r.1)), r.2) := by
  refine k_of hk_242 ?_
  show k_Go X 15 242 (0, [.ref (1076 + 1), .int x1, .int x2, (.retAddr 0), (.retAddr 0), (.retAddr 0)], []) h _
  unfold p_242 at hF
  refine kg_aload hk_242 rfl rfl rfl ?_
  refine kg_iload hk_242 rfl rfl rfl ?_
  refine kg_call (as := [.int x1]) (rest := [.ref (1076 + 1)]) hk_242 rfl (Or.inl rfl) rfl rfl rfl (Nat.not_lt.mpr (Nat.le_of_ble_eq_true rfl)) (v_148_ok) (by decide) rfl ?_
  refine kg_push (x := 1) hk_242 rfl (by decide) rfl ?_
  refine kg_push (x := 1) hk_242 rfl (by decide) rfl ?_
  refine wf_bind hF (fun vz1 hvz1 hF => ?_)
  refine kg_call (as := [.ref (1076 + 1), .int (v_148 x1), .int 1, .int 1]) (rest := []) hk_242 rfl (Or.inr (Or.inr (Or.inr ⟨Or.inl rfl, _, _, rfl, wc_1076⟩))) rfl rfl rfl (Nat.not_lt.mpr (Nat.le_of_ble_eq_true rfl)) (p_146_ok hvz1) (by decide) rfl ?_
  refine wf_if hF (fun cz2 hF => ?_) (fun cz2 hF => ?_)
  · refine kg_ifF hk_242 rfl (jc_F1 cz2) rfl ?_
    refine kg_push (x := 0) hk_242 rfl (by decide) rfl ?_
    have hF := Option.some.inj hF
    subst hF
    exact kg_iret hk_242 rfl (Or.inl rfl) rfl
  · refine kg_ifT hk_242 rfl (jc_T1 cz2) ?_
    refine kg_aload hk_242 rfl rfl rfl ?_
    refine kg_iload hk_242 rfl rfl rfl ?_
    refine wf_bind hF (fun vz3 hvz3 hF => ?_)
    refine kg_call (as := [.ref (1076 + 1), .int x1]) (rest := []) hk_242 rfl (Or.inr (Or.inr (Or.inr ⟨Or.inl rfl, _, _, rfl, wc_1076⟩))) rfl rfl rfl (Nat.not_lt.mpr (Nat.le_of_ble_eq_true rfl)) (p_181_ok hvz3) (by decide) rfl ?_
    refine kg_istore (L2 := [.ref (1076 + 1), .int x1, .int x2, .int vz3, (.retAddr 0), (.retAddr 0)]) hk_242 rfl (Nat.le_of_ble_eq_true rfl) rfl rfl ?_
    refine kg_iload hk_242 rfl rfl rfl ?_
    refine wf_if hF (fun cz4 hF => ?_) (fun cz4 hF => ?_)
    · refine kg_ifT hk_242 rfl (jc_T2 cz4) ?_
      exact q_242_22_ok hF _ _
    · refine kg_ifF hk_242 rfl (jc_F2 cz4) rfl ?_
      refine kg_aload hk_242 rfl rfl rfl ?_
      refine kg_iload hk_242 rfl rfl rfl ?_
      refine kg_aload hk_242 rfl rfl rfl ?_
      refine kg_get (v := .int (vz1.2 1076 2)) hk_242 rfl wk_1076_2 rfl rfl ?_
      refine wf_bind hF (fun vz24 hvz24 hF => ?_)
      refine kg_call (as := [.ref (1076 + 1), .int x1, .int (vz1.2 1076 2)]) (rest := []) hk_242 rfl (Or.inr (Or.inr (Or.inr ⟨Or.inl rfl, _, _, rfl, wc_1076⟩))) rfl rfl rfl (Nat.not_lt.mpr (Nat.le_of_ble_eq_true rfl)) (p_180_ok hvz24) (by decide) rfl ?_
      refine kg_push (x := (-1)) hk_242 rfl (by decide) rfl ?_
      refine wf_if hF (fun cz25 hF => ?_) (fun cz25 hF => ?_)
      · refine kg_icF hk_242 rfl (jc_F1 cz25) rfl ?_
        exact q_242_22_ok hF _ _
      · refine kg_icT hk_242 rfl (jc_T1 cz25) ?_
        refine kg_aload hk_242 rfl rfl rfl ?_
        refine kg_iload hk_242 rfl rfl rfl ?_
        refine kg_aload hk_242 rfl rfl rfl ?_
        refine kg_get (v := .int (vz1.2 1076 2)) hk_242 rfl wk_1076_2 rfl rfl ?_
        refine wf_bind hF (fun vz26 hvz26 hF => ?_)
        refine kg_call (as := [.ref (1076 + 1), .int x1, .int (vz1.2 1076 2)]) (rest := []) hk_242 rfl (Or.inr (Or.inr (Or.inr ⟨Or.inl rfl, _, _, rfl, wc_1076⟩))) rfl rfl rfl (Nat.not_lt.mpr (Nat.le_of_ble_eq_true rfl)) (p_180_ok hvz26) (by decide) rfl ?_
        exact q_242_29_ok hF _ _ _
-- NotebookWeirModel.error(I)I
theorem hk_243 : jP[243]? = some (jc_243, 2, [], []) := by rfl
def p_243 (h : Hp) (x1 : Int32) : Option (Int32 × Hp) :=
  (p_146 h (v_167 h x1) 1 1).bind fun vz1 =>
  if vz1.1 = 0 then
    (some (0, vz1.2))
  else
    ((p_235 vz1.2 x1).bind fun vz3 =>
    w_gd (w_ix x1 16) <|
    w_gd ((if (vz3 1122 x1.toNatClampNeg) = 2 then w_ix x1 16 else true)) <|
    some ((if (vz3 1122 x1.toNatClampNeg) = 2 then (vz3 1092 x1.toNatClampNeg) else 0 : Int32), vz3))
theorem p_243_ok {X : List Int32}  {h : Hp} {x1 : Int32}  {r : Int32 × Hp} (hF : p_243 h x1 = some r) : k_Ev X 15 243 [.ref (1076 + 1), .int x1] h (.inl (some (.int r.1)), r.2) := by
  refine k_of hk_243 ?_
  show k_Go X 15 243 (0, [.ref (1076 + 1), .int x1], []) h _
  unfold p_243 at hF
  refine kg_aload hk_243 rfl rfl rfl ?_
  refine kg_aload hk_243 rfl rfl rfl ?_
  refine kg_iload hk_243 rfl rfl rfl ?_
  refine kg_call (as := [.ref (1076 + 1), .int x1]) (rest := [.ref (1076 + 1)]) hk_243 rfl (Or.inr (Or.inr (Or.inr ⟨Or.inl rfl, _, _, rfl, wc_1076⟩))) rfl rfl rfl (Nat.not_lt.mpr (Nat.le_of_ble_eq_true rfl)) (v_167_ok) (by decide) rfl ?_
  refine kg_push (x := 1) hk_243 rfl (by decide) rfl ?_
  refine kg_push (x := 1) hk_243 rfl (by decide) rfl ?_
  refine wf_bind hF (fun vz1 hvz1 hF => ?_)
  refine kg_call (as := [.ref (1076 + 1), .int (v_167 h x1), .int 1, .int 1]) (rest := []) hk_243 rfl (Or.inr (Or.inr (Or.inr ⟨Or.inl rfl, _, _, rfl, wc_1076⟩))) rfl rfl rfl (Nat.not_lt.mpr (Nat.le_of_ble_eq_true rfl)) (p_146_ok hvz1) (by decide) rfl ?_
  refine wf_if hF (fun cz2 hF => ?_) (fun cz2 hF => ?_)
  · refine kg_ifF hk_243 rfl (jc_F1 cz2) rfl ?_
    refine kg_push (x := 0) hk_243 rfl (by decide) rfl ?_
    have hF := Option.some.inj hF
    subst hF
    exact kg_iret hk_243 rfl (Or.inl rfl) rfl
  · refine kg_ifT hk_243 rfl (jc_T1 cz2) ?_
    refine kg_aload hk_243 rfl rfl rfl ?_
    refine kg_iload hk_243 rfl rfl rfl ?_
    refine wf_bind hF (fun vz3 hvz3 hF => ?_)
    refine kg_call (as := [.ref (1076 + 1), .int x1]) (rest := []) hk_243 rfl (Or.inr (Or.inr (Or.inr ⟨Or.inl rfl, _, _, rfl, wc_1076⟩))) rfl rfl rfl (Nat.not_lt.mpr (Nat.le_of_ble_eq_true rfl)) (p_235_ok hvz3) (by decide) rfl ?_
    refine kg_aload hk_243 rfl rfl rfl ?_
    refine kg_get (v := .ref (1122 + 1)) hk_243 rfl wk_1076_59 rfl rfl ?_
    refine kg_iload hk_243 rfl rfl rfl ?_
    refine wf_gd hF (fun gz4 hF => ?_)
    refine kg_ald (y := (vz3 1122 x1.toNatClampNeg)) hk_243 rfl wc_1122 gz4 rfl rfl ?_
    refine kg_push (x := 2) hk_243 rfl (by decide) rfl ?_
    refine wf_gd hF (fun gz7 hF => ?_)
    refine kv_mid (p := 25) (L := [.ref (1076 + 1), .int x1]) (S := [.int (if (vz3 1122 x1.toNatClampNeg) = 2 then (vz3 1092 x1.toNatClampNeg) else 0 : Int32)]) ?_ (fun hK => ?_)
    · have hF := Option.some.inj hF
      subst hF
      exact kg_iret hk_243 rfl (Or.inl rfl) rfl
    · have hg := gz7
      by_cases cz5 : (vz3 1122 x1.toNatClampNeg) = 2
      · have hg := wv_T cz5 hg
        have hK := kv_T cz5 hK
        have gz6 := hg
        refine kg_icF hk_243 rfl (jc_F1 cz5) rfl ?_
        refine kg_aload hk_243 rfl rfl rfl ?_
        refine kg_get (v := .ref (1092 + 1)) hk_243 rfl wk_1076_16 rfl rfl ?_
        refine kg_iload hk_243 rfl rfl rfl ?_
        refine kg_ald (y := (vz3 1092 x1.toNatClampNeg)) hk_243 rfl wc_1092 gz6 rfl rfl ?_
        refine kg_goto hk_243 rfl ?_
        exact hK
      · have hK := kv_F cz5 hK
        refine kg_icT hk_243 rfl (jc_T1 cz5) ?_
        refine kg_push (x := 0) hk_243 rfl (by decide) rfl ?_
        exact hK
-- NotebookWeirModel.order(I)I
theorem hk_244 : jP[244]? = some (jc_244, 2, [], []) := by rfl
def q_244_6 (h : Hp) (x1 : Int32) (s0 : Int32) : Option (Int32 × Hp) :=
  (p_146 h s0 1 1).bind fun vz2 =>
  if vz2.1 = 0 then
    (some (0, vz2.2))
  else
    ((p_239 vz2.2).bind fun vz4 =>
    w_gd ((if x1 < (vz4 1076 64) then w_ix x1 16 else true)) <|
    some ((if x1 < (vz4 1076 64) then (vz4 1126 x1.toNatClampNeg) else (-1) : Int32), vz4))
theorem q_244_6_ok {X : List Int32}   {h : Hp} {s0 : Int32} {x1 : Int32}  {r : Int32 × Hp} (hF : q_244_6 h x1 s0 = some r)  : k_Go X 8 244 (6, [.ref (1076 + 1), .int x1], [.int s0, .ref (1076 + 1)]) h (.inl (some (.int r.1)), r.2) := by
  unfold q_244_6 at hF
  refine kg_push (x := 1) hk_244 rfl (by decide) rfl ?_
  refine kg_push (x := 1) hk_244 rfl (by decide) rfl ?_
  refine wf_bind hF (fun vz2 hvz2 hF => ?_)
  refine kg_call (as := [.ref (1076 + 1), .int s0, .int 1, .int 1]) (rest := []) hk_244 rfl (Or.inr (Or.inr (Or.inr ⟨Or.inl rfl, _, _, rfl, wc_1076⟩))) rfl rfl rfl (Nat.not_lt.mpr (Nat.le_of_ble_eq_true rfl)) (p_146_ok hvz2) (by decide) rfl ?_
  refine wf_if hF (fun cz3 hF => ?_) (fun cz3 hF => ?_)
  · refine kg_ifF hk_244 rfl (jc_F1 cz3) rfl ?_
    refine kg_push (x := 0) hk_244 rfl (by decide) rfl ?_
    have hF := Option.some.inj hF
    subst hF
    exact kg_iret hk_244 rfl (Or.inl rfl) rfl
  · refine kg_ifT hk_244 rfl (jc_T1 cz3) ?_
    refine kg_aload hk_244 rfl rfl rfl ?_
    refine wf_bind hF (fun vz4 hvz4 hF => ?_)
    refine kg_call (as := [.ref (1076 + 1)]) (rest := []) hk_244 rfl (Or.inr (Or.inr (Or.inr ⟨Or.inl rfl, _, _, rfl, wc_1076⟩))) rfl rfl rfl (Nat.not_lt.mpr (Nat.le_of_ble_eq_true rfl)) (p_239_ok hvz4) (by decide) rfl ?_
    refine kg_iload hk_244 rfl rfl rfl ?_
    refine kg_aload hk_244 rfl rfl rfl ?_
    refine kg_get (v := .int (vz4 1076 64)) hk_244 rfl wk_1076_64 rfl rfl ?_
    refine wf_gd hF (fun gz7 hF => ?_)
    refine kv_mid (p := 24) (L := [.ref (1076 + 1), .int x1]) (S := [.int (if x1 < (vz4 1076 64) then (vz4 1126 x1.toNatClampNeg) else (-1) : Int32)]) ?_ (fun hK => ?_)
    · have hF := Option.some.inj hF
      subst hF
      exact kg_iret hk_244 rfl (Or.inl rfl) rfl
    · have hg := gz7
      by_cases cz5 : x1 < (vz4 1076 64)
      · have hg := wv_T cz5 hg
        have hK := kv_T cz5 hK
        have gz6 := hg
        refine kg_icF hk_244 rfl (jc_F3 cz5) rfl ?_
        refine kg_aload hk_244 rfl rfl rfl ?_
        refine kg_get (v := .ref (1126 + 1)) hk_244 rfl wk_1076_63 rfl rfl ?_
        refine kg_iload hk_244 rfl rfl rfl ?_
        refine kg_ald (y := (vz4 1126 x1.toNatClampNeg)) hk_244 rfl wc_1126 gz6 rfl rfl ?_
        refine kg_goto hk_244 rfl ?_
        exact hK
      · have hK := kv_F cz5 hK
        refine kg_icT hk_244 rfl (jc_T3 cz5) ?_
        refine kg_push (x := (-1)) hk_244 rfl (by decide) rfl ?_
        exact hK
def p_244 (h : Hp) (x1 : Int32) : Option (Int32 × Hp) :=
  q_244_6 h x1 (if x1 < 0 then 0 else 1 : Int32)
theorem p_244_ok {X : List Int32}  {h : Hp} {x1 : Int32}  {r : Int32 × Hp} (hF : p_244 h x1 = some r) : k_Ev X 8 244 [.ref (1076 + 1), .int x1] h (.inl (some (.int r.1)), r.2) := by
  refine k_of hk_244 ?_
  show k_Go X 8 244 (0, [.ref (1076 + 1), .int x1], []) h _
  unfold p_244 at hF
  refine kg_aload hk_244 rfl rfl rfl ?_
  refine kg_iload hk_244 rfl rfl rfl ?_
  refine kv_mid (p := 6) (L := [.ref (1076 + 1), .int x1]) (S := [.int (if x1 < 0 then 0 else 1 : Int32), .ref (1076 + 1)]) ?_ (fun hK => ?_)
  · exact q_244_6_ok hF
  · by_cases cz1 : x1 < 0
    · have hK := kv_T cz1 hK
      refine kg_ifT hk_244 rfl (jc_T2 cz1) ?_
      refine kg_push (x := 0) hk_244 rfl (by decide) rfl ?_
      exact hK
    · have hK := kv_F cz1 hK
      refine kg_ifF hk_244 rfl (jc_F2 cz1) rfl ?_
      refine kg_push (x := 1) hk_244 rfl (by decide) rfl ?_
      refine kg_goto hk_244 rfl ?_
      exact hK
-- NotebookWeirModel.runs()I
theorem hk_245 : jP[245]? = some (jc_245, 1, [], []) := by rfl
def p_245 (h : Hp) : Option (Int32 × Hp) :=
  w_let (w_up h 1076 79 0) fun hz1 =>
  some ((hz1 1076 20), hz1)
theorem p_245_ok {X : List Int32}  {h : Hp}   {r : Int32 × Hp} (hF : p_245 h = some r) : k_Ev X 0 245 [.ref (1076 + 1)] h (.inl (some (.int r.1)), r.2) := by
  refine k_of hk_245 ?_
  show k_Go X 0 245 (0, [.ref (1076 + 1)], []) h _
  unfold p_245 at hF
  refine kg_aload hk_245 rfl rfl rfl ?_
  refine kg_push (x := 0) hk_245 rfl (by decide) rfl ?_
  refine wf_let hF (fun hz1 hhz1 hF => ?_)
  refine kg_put hk_245 rfl wk_1076_79 rfl rfl hhz1 rfl ?_
  refine kg_aload hk_245 rfl rfl rfl ?_
  refine kg_get (v := .int (hz1 1076 20)) hk_245 rfl wk_1076_20 rfl rfl ?_
  have hF := Option.some.inj hF
  subst hF
  exact kg_iret hk_245 rfl (Or.inl rfl) rfl
-- NotebookWeirModel.found()I
theorem hk_246 : jP[246]? = some (jc_246, 1, [], []) := by rfl
def p_246 (h : Hp) : Option (Int32 × Hp) :=
  w_let (w_up h 1076 79 0) fun hz1 =>
  some ((hz1 1076 21), hz1)
theorem p_246_ok {X : List Int32}  {h : Hp}   {r : Int32 × Hp} (hF : p_246 h = some r) : k_Ev X 0 246 [.ref (1076 + 1)] h (.inl (some (.int r.1)), r.2) := by
  refine k_of hk_246 ?_
  show k_Go X 0 246 (0, [.ref (1076 + 1)], []) h _
  unfold p_246 at hF
  refine kg_aload hk_246 rfl rfl rfl ?_
  refine kg_push (x := 0) hk_246 rfl (by decide) rfl ?_
  refine wf_let hF (fun hz1 hhz1 hF => ?_)
  refine kg_put hk_246 rfl wk_1076_79 rfl rfl hhz1 rfl ?_
  refine kg_aload hk_246 rfl rfl rfl ?_
  refine kg_get (v := .int (hz1 1076 21)) hk_246 rfl wk_1076_21 rfl rfl ?_
  have hF := Option.some.inj hF
  subst hF
  exact kg_iret hk_246 rfl (Or.inl rfl) rfl
