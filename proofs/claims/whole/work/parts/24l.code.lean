/-! ===== the methods as functions over the flat heap, and that the interpreter does what they say (printed by wip/whole/dec.py) ===== -/
-- NotebookWeirModel.moves([IIII)V
theorem hk_221 : jP[221]? = some (jc_221, 5, [], []) := by rfl
def l_221_2 (q0 : Nat) (x1 : Int32) (x2 : Int32) (x3 : Int32) (x4 : Int32) (h : Hp) : Option ((Int32 × Hp) ⊕ Hp) :=
  if x4 < x3 then
    (w_gd (w_ix (x1 + x4) (w_len q0)) <|
    w_gd (w_ix (x2 + x4) (w_len q0)) <|
    w_let (w_up h q0 ((x2 + x4).toNatClampNeg) (h q0 (x1 + x4).toNatClampNeg)) fun hz4 =>
    some (.inl ((x4 + 1), hz4)))
  else
    (some (.inr h))
theorem l_221_2_st {X : List Int32} {o : kO}  {h : Hp} {q0 : Nat} {x1 : Int32} {x2 : Int32} {x3 : Int32} {x4 : Int32} (t0 : w_tab[q0]? = some (50, (w_len q0), [])) {r : (Int32 × Hp) ⊕ Hp} (hF : l_221_2 q0 x1 x2 x3 x4 h = some r) (hK : ∀ s' : Int32 × Hp, r = .inl s' → k_Go X 0 221 (2, [.ref (q0 + 1), .int x1, .int x2, .int x3, .int (s'.1)], []) s'.2 o) (hX0 : ∀ e : Hp, r = .inr e → (.inl none, e) = o) : k_Go X 0 221 (2, [.ref (q0 + 1), .int x1, .int x2, .int x3, .int x4], []) h o := by
  refine kg_iload hk_221 rfl rfl rfl ?_
  refine kg_iload hk_221 rfl rfl rfl ?_
  refine wf_if hF (fun cz1 hF => ?_) (fun cz1 hF => ?_)
  · refine kg_icF hk_221 rfl (jc_F3 cz1) rfl ?_
    refine kg_aload hk_221 rfl rfl rfl ?_
    refine kg_iload hk_221 rfl rfl rfl ?_
    refine kg_iload hk_221 rfl rfl rfl ?_
    refine kg_bin (z := (x2 + x4)) hk_221 rfl rfl rfl ?_
    refine kg_aload hk_221 rfl rfl rfl ?_
    refine kg_iload hk_221 rfl rfl rfl ?_
    refine kg_iload hk_221 rfl rfl rfl ?_
    refine kg_bin (z := (x1 + x4)) hk_221 rfl rfl rfl ?_
    refine wf_gd hF (fun gz2 hF => ?_)
    refine kg_ald (y := (h q0 (x1 + x4).toNatClampNeg)) hk_221 rfl t0 gz2 rfl rfl ?_
    refine wf_gd hF (fun gz3 hF => ?_)
    refine wf_let hF (fun hz4 hhz4 hF => ?_)
    refine kg_ast hk_221 rfl t0 gz3 hhz4 rfl ?_
    refine kg_iinc (y := (x4 + 1)) (L2 := [.ref (q0 + 1), .int x1, .int x2, .int x3, .int (x4 + 1)]) hk_221 rfl rfl rfl rfl rfl ?_
    refine kg_goto hk_221 rfl ?_
    have hF := Option.some.inj hF
    exact hK _ hF.symm
  · refine kg_icT hk_221 rfl (jc_T3 cz1) ?_
    have hF := Option.some.inj hF
    exact kg_ret hk_221 rfl (hX0 _ hF.symm)
theorem l_221_2_ok {X : List Int32} {o : kO}  {q0 : Nat} {x1 : Int32} {x2 : Int32} {x3 : Int32} (t0 : w_tab[q0]? = some (50, (w_len q0), [])) {n : Nat} {s : Int32 × Hp} {e : Hp} (hF : w_lp (fun (s : Int32 × Hp) => l_221_2 q0 x1 x2 x3 s.1 s.2) n s = some e) (hX0 : (.inl none, e) = o) : k_Go X 0 221 (2, [.ref (q0 + 1), .int x1, .int x2, .int x3, .int s.1], []) s.2 o := by
  exact w_lp_ok (P := (fun (s : Int32 × Hp) => k_Go X 0 221 (2, [.ref (q0 + 1), .int x1, .int x2, .int x3, .int s.1], []) s.2 o)) (Q := (fun (e : Hp) => ((.inl none, e) = o))) (fun s r hF hK hX => l_221_2_st t0 hF hK (fun x hx => (hX _ hx))) n s e hF hX0
def p_221 (h : Hp) (q0 : Nat) (x1 : Int32) (x2 : Int32) (x3 : Int32) : Option (Hp) :=
  w_lp (fun (s : Int32 × Hp) => l_221_2 q0 x1 x2 x3 s.1 s.2) w_N (0, h)
theorem p_221_ok {X : List Int32}  {h : Hp} {q0 : Nat} {x1 : Int32} {x2 : Int32} {x3 : Int32} (t0 : w_tab[q0]? = some (50, w_len q0, [])) {r : Hp} (hF : p_221 h q0 x1 x2 x3 = some r) : k_Ev X 0 221 [.ref (q0 + 1), .int x1, .int x2, .int x3] h (.inl none, r) := by
  refine k_of hk_221 ?_
  show k_Go X 0 221 (0, [.ref (q0 + 1), .int x1, .int x2, .int x3, (.retAddr 0)], []) h _
  unfold p_221 at hF
  refine kg_push (x := 0) hk_221 rfl (by decide) rfl ?_
  refine kg_istore (L2 := [.ref (q0 + 1), .int x1, .int x2, .int x3, .int 0]) hk_221 rfl (Nat.le_of_ble_eq_true rfl) rfl rfl ?_
  exact l_221_2_ok t0 hF rfl
-- NotebookWeirModel.keepsRun(I)V
theorem hk_222 : jP[222]? = some (jc_222, 4, [], []) := by rfl
def l_222_21 (x1 : Int32) (x2 : Int32) (h : Hp) : Option ((Int32 × Hp) ⊕ Hp) :=
  if x2 < (((4 * x1) + 4) - 1) then
    ((p_221 h 1101 (40 * (x2 + 1)) (40 * x2) 40).bind fun vz8 =>
    w_gd (w_ix (x2 + 1) 64) <|
    w_gd (w_ix x2 64) <|
    w_let (w_up vz8 1102 x2.toNatClampNeg (vz8 1102 (x2 + 1).toNatClampNeg)) fun hz11 =>
    (p_221 hz11 1103 (234 * (x2 + 1)) (234 * x2) 234).bind fun vz12 =>
    (p_221 vz12 1104 (234 * (x2 + 1)) (234 * x2) 234).bind fun vz13 =>
    (p_221 vz13 1105 (9 * (x2 + 1)) (9 * x2) 9).bind fun vz14 =>
    some (.inl ((x2 + 1), vz14)))
  else
    (some (.inr h))
theorem l_222_21_st {X : List Int32} {o : kO}  {h : Hp} {x1 : Int32} {x2 : Int32}  {r : (Int32 × Hp) ⊕ Hp} (hF : l_222_21 x1 x2 h = some r) (hK : ∀ s' : Int32 × Hp, r = .inl s' → ∀ (u3 : Value), k_Go X 7 222 (21, [.ref (1076 + 1), .int x1, .int (s'.1), u3], []) s'.2 o) (hX0 : ∀ e : Hp, r = .inr e → ∀ (u2 : Value) (u3 : Value), k_Go X 7 222 (90, [.ref (1076 + 1), .int x1, u2, u3], []) e o) : ∀ (u3 : Value), k_Go X 7 222 (21, [.ref (1076 + 1), .int x1, .int x2, u3], []) h o := by
  intro u3
  refine kg_iload hk_222 rfl rfl rfl ?_
  refine kg_push (x := 4) hk_222 rfl (by decide) rfl ?_
  refine kg_iload hk_222 rfl rfl rfl ?_
  refine kg_bin (z := (4 * x1)) hk_222 rfl rfl rfl ?_
  refine kg_push (x := 4) hk_222 rfl (by decide) rfl ?_
  refine kg_bin (z := ((4 * x1) + 4)) hk_222 rfl rfl rfl ?_
  refine kg_push (x := 1) hk_222 rfl (by decide) rfl ?_
  refine kg_bin (z := (((4 * x1) + 4) - 1)) hk_222 rfl rfl rfl ?_
  refine wf_if hF (fun cz7 hF => ?_) (fun cz7 hF => ?_)
  · refine kg_icF hk_222 rfl (jc_F3 cz7) rfl ?_
    refine kg_aload hk_222 rfl rfl rfl ?_
    refine kg_get (v := .ref (1101 + 1)) hk_222 rfl wk_1076_34 rfl rfl ?_
    refine kg_push (x := 40) hk_222 rfl (by decide) rfl ?_
    refine kg_iload hk_222 rfl rfl rfl ?_
    refine kg_push (x := 1) hk_222 rfl (by decide) rfl ?_
    refine kg_bin (z := (x2 + 1)) hk_222 rfl rfl rfl ?_
    refine kg_bin (z := (40 * (x2 + 1))) hk_222 rfl rfl rfl ?_
    refine kg_push (x := 40) hk_222 rfl (by decide) rfl ?_
    refine kg_iload hk_222 rfl rfl rfl ?_
    refine kg_bin (z := (40 * x2)) hk_222 rfl rfl rfl ?_
    refine kg_push (x := 40) hk_222 rfl (by decide) rfl ?_
    refine wf_bind hF (fun vz8 hvz8 hF => ?_)
    refine kg_call (as := [.ref (1101 + 1), .int (40 * (x2 + 1)), .int (40 * x2), .int 40]) (rest := []) hk_222 rfl (Or.inl rfl) rfl rfl rfl (Nat.not_lt.mpr (Nat.le_of_ble_eq_true rfl)) (p_221_ok (w_lenE wc_1101) hvz8) (by decide) rfl ?_
    refine kg_aload hk_222 rfl rfl rfl ?_
    refine kg_get (v := .ref (1102 + 1)) hk_222 rfl wk_1076_35 rfl rfl ?_
    refine kg_iload hk_222 rfl rfl rfl ?_
    refine kg_aload hk_222 rfl rfl rfl ?_
    refine kg_get (v := .ref (1102 + 1)) hk_222 rfl wk_1076_35 rfl rfl ?_
    refine kg_iload hk_222 rfl rfl rfl ?_
    refine kg_push (x := 1) hk_222 rfl (by decide) rfl ?_
    refine kg_bin (z := (x2 + 1)) hk_222 rfl rfl rfl ?_
    refine wf_gd hF (fun gz9 hF => ?_)
    refine kg_ald (y := (vz8 1102 (x2 + 1).toNatClampNeg)) hk_222 rfl wc_1102 gz9 rfl rfl ?_
    refine wf_gd hF (fun gz10 hF => ?_)
    refine wf_let hF (fun hz11 hhz11 hF => ?_)
    refine kg_ast hk_222 rfl wc_1102 gz10 hhz11 rfl ?_
    refine kg_aload hk_222 rfl rfl rfl ?_
    refine kg_get (v := .ref (1103 + 1)) hk_222 rfl wk_1076_36 rfl rfl ?_
    refine kg_push (x := 234) hk_222 rfl (by decide) rfl ?_
    refine kg_iload hk_222 rfl rfl rfl ?_
    refine kg_push (x := 1) hk_222 rfl (by decide) rfl ?_
    refine kg_bin (z := (x2 + 1)) hk_222 rfl rfl rfl ?_
    refine kg_bin (z := (234 * (x2 + 1))) hk_222 rfl rfl rfl ?_
    refine kg_push (x := 234) hk_222 rfl (by decide) rfl ?_
    refine kg_iload hk_222 rfl rfl rfl ?_
    refine kg_bin (z := (234 * x2)) hk_222 rfl rfl rfl ?_
    refine kg_push (x := 234) hk_222 rfl (by decide) rfl ?_
    refine wf_bind hF (fun vz12 hvz12 hF => ?_)
    refine kg_call (as := [.ref (1103 + 1), .int (234 * (x2 + 1)), .int (234 * x2), .int 234]) (rest := []) hk_222 rfl (Or.inl rfl) rfl rfl rfl (Nat.not_lt.mpr (Nat.le_of_ble_eq_true rfl)) (p_221_ok (w_lenE wc_1103) hvz12) (by decide) rfl ?_
    refine kg_aload hk_222 rfl rfl rfl ?_
    refine kg_get (v := .ref (1104 + 1)) hk_222 rfl wk_1076_37 rfl rfl ?_
    refine kg_push (x := 234) hk_222 rfl (by decide) rfl ?_
    refine kg_iload hk_222 rfl rfl rfl ?_
    refine kg_push (x := 1) hk_222 rfl (by decide) rfl ?_
    refine kg_bin (z := (x2 + 1)) hk_222 rfl rfl rfl ?_
    refine kg_bin (z := (234 * (x2 + 1))) hk_222 rfl rfl rfl ?_
    refine kg_push (x := 234) hk_222 rfl (by decide) rfl ?_
    refine kg_iload hk_222 rfl rfl rfl ?_
    refine kg_bin (z := (234 * x2)) hk_222 rfl rfl rfl ?_
    refine kg_push (x := 234) hk_222 rfl (by decide) rfl ?_
    refine wf_bind hF (fun vz13 hvz13 hF => ?_)
    refine kg_call (as := [.ref (1104 + 1), .int (234 * (x2 + 1)), .int (234 * x2), .int 234]) (rest := []) hk_222 rfl (Or.inl rfl) rfl rfl rfl (Nat.not_lt.mpr (Nat.le_of_ble_eq_true rfl)) (p_221_ok (w_lenE wc_1104) hvz13) (by decide) rfl ?_
    refine kg_aload hk_222 rfl rfl rfl ?_
    refine kg_get (v := .ref (1105 + 1)) hk_222 rfl wk_1076_38 rfl rfl ?_
    refine kg_push (x := 9) hk_222 rfl (by decide) rfl ?_
    refine kg_iload hk_222 rfl rfl rfl ?_
    refine kg_push (x := 1) hk_222 rfl (by decide) rfl ?_
    refine kg_bin (z := (x2 + 1)) hk_222 rfl rfl rfl ?_
    refine kg_bin (z := (9 * (x2 + 1))) hk_222 rfl rfl rfl ?_
    refine kg_push (x := 9) hk_222 rfl (by decide) rfl ?_
    refine kg_iload hk_222 rfl rfl rfl ?_
    refine kg_bin (z := (9 * x2)) hk_222 rfl rfl rfl ?_
    refine kg_push (x := 9) hk_222 rfl (by decide) rfl ?_
    refine wf_bind hF (fun vz14 hvz14 hF => ?_)
    refine kg_call (as := [.ref (1105 + 1), .int (9 * (x2 + 1)), .int (9 * x2), .int 9]) (rest := []) hk_222 rfl (Or.inl rfl) rfl rfl rfl (Nat.not_lt.mpr (Nat.le_of_ble_eq_true rfl)) (p_221_ok (w_lenE wc_1105) hvz14) (by decide) rfl ?_
    refine kg_iinc (y := (x2 + 1)) (L2 := [.ref (1076 + 1), .int x1, .int (x2 + 1), u3]) hk_222 rfl rfl rfl rfl rfl ?_
    refine kg_goto hk_222 rfl ?_
    have hF := Option.some.inj hF
    exact hK _ hF.symm _
  · refine kg_icT hk_222 rfl (jc_T3 cz7) ?_
    have hF := Option.some.inj hF
    exact hX0 _ hF.symm _ _
theorem l_222_21_ok {X : List Int32} {o : kO}  {x1 : Int32}  {n : Nat} {s : Int32 × Hp} {e : Hp} (hF : w_lp (fun (s : Int32 × Hp) => l_222_21 x1 s.1 s.2) n s = some e) (hX0 : ∀ (u2 : Value) (u3 : Value), k_Go X 7 222 (90, [.ref (1076 + 1), .int x1, u2, u3], []) e o) : ∀ (u3 : Value), k_Go X 7 222 (21, [.ref (1076 + 1), .int x1, .int s.1, u3], []) s.2 o := by
  exact w_lp_ok (P := (fun (s : Int32 × Hp) => ∀ (u3 : Value), k_Go X 7 222 (21, [.ref (1076 + 1), .int x1, .int s.1, u3], []) s.2 o)) (Q := (fun (e : Hp) => (∀ (u2 : Value) (u3 : Value), k_Go X 7 222 (90, [.ref (1076 + 1), .int x1, u2, u3], []) e o))) (fun s r hF hK hX => l_222_21_st hF hK (fun x hx => (hX _ hx))) n s e hF hX0
def l_222_141 (x1 : Int32) (x2 : Int32) (x3 : Int32) (h : Hp) : Option ((Int32 × Hp) ⊕ Hp) :=
  if x3 < 234 then
    (w_gd (w_ix ((234 * x1) + x3) 3744) <|
    w_gd (w_ix ((234 * x2) + x3) 14976) <|
    w_let (w_up h 1104 (((234 * x2) + x3).toNatClampNeg) (h 1093 ((234 * x1) + x3).toNatClampNeg)) fun hz31 =>
    some (.inl ((x3 + 1), hz31)))
  else
    (some (.inr h))
theorem l_222_141_st {X : List Int32} {o : kO}  {h : Hp} {x1 : Int32} {x2 : Int32} {x3 : Int32}  {r : (Int32 × Hp) ⊕ Hp} (hF : l_222_141 x1 x2 x3 h = some r) (hK : ∀ s' : Int32 × Hp, r = .inl s' → k_Go X 7 222 (141, [.ref (1076 + 1), .int x1, .int x2, .int (s'.1)], []) s'.2 o) (hX0 : ∀ e : Hp, r = .inr e → ∀ (u3 : Value), k_Go X 7 222 (162, [.ref (1076 + 1), .int x1, .int x2, u3], []) e o) : k_Go X 7 222 (141, [.ref (1076 + 1), .int x1, .int x2, .int x3], []) h o := by
  refine kg_iload hk_222 rfl rfl rfl ?_
  refine kg_push (x := 234) hk_222 rfl (by decide) rfl ?_
  refine wf_if hF (fun cz28 hF => ?_) (fun cz28 hF => ?_)
  · refine kg_icF hk_222 rfl (jc_F3 cz28) rfl ?_
    refine kg_aload hk_222 rfl rfl rfl ?_
    refine kg_get (v := .ref (1104 + 1)) hk_222 rfl wk_1076_37 rfl rfl ?_
    refine kg_push (x := 234) hk_222 rfl (by decide) rfl ?_
    refine kg_iload hk_222 rfl rfl rfl ?_
    refine kg_bin (z := (234 * x2)) hk_222 rfl rfl rfl ?_
    refine kg_iload hk_222 rfl rfl rfl ?_
    refine kg_bin (z := ((234 * x2) + x3)) hk_222 rfl rfl rfl ?_
    refine kg_aload hk_222 rfl rfl rfl ?_
    refine kg_get (v := .ref (1093 + 1)) hk_222 rfl wk_1076_17 rfl rfl ?_
    refine kg_push (x := 234) hk_222 rfl (by decide) rfl ?_
    refine kg_iload hk_222 rfl rfl rfl ?_
    refine kg_bin (z := (234 * x1)) hk_222 rfl rfl rfl ?_
    refine kg_iload hk_222 rfl rfl rfl ?_
    refine kg_bin (z := ((234 * x1) + x3)) hk_222 rfl rfl rfl ?_
    refine wf_gd hF (fun gz29 hF => ?_)
    refine kg_ald (y := (h 1093 ((234 * x1) + x3).toNatClampNeg)) hk_222 rfl wc_1093 gz29 rfl rfl ?_
    refine wf_gd hF (fun gz30 hF => ?_)
    refine wf_let hF (fun hz31 hhz31 hF => ?_)
    refine kg_ast hk_222 rfl wc_1104 gz30 hhz31 rfl ?_
    refine kg_iinc (y := (x3 + 1)) (L2 := [.ref (1076 + 1), .int x1, .int x2, .int (x3 + 1)]) hk_222 rfl rfl rfl rfl rfl ?_
    refine kg_goto hk_222 rfl ?_
    have hF := Option.some.inj hF
    exact hK _ hF.symm
  · refine kg_icT hk_222 rfl (jc_T3 cz28) ?_
    have hF := Option.some.inj hF
    exact hX0 _ hF.symm _
theorem l_222_141_ok {X : List Int32} {o : kO}  {x1 : Int32} {x2 : Int32}  {n : Nat} {s : Int32 × Hp} {e : Hp} (hF : w_lp (fun (s : Int32 × Hp) => l_222_141 x1 x2 s.1 s.2) n s = some e) (hX0 : ∀ (u3 : Value), k_Go X 7 222 (162, [.ref (1076 + 1), .int x1, .int x2, u3], []) e o) : k_Go X 7 222 (141, [.ref (1076 + 1), .int x1, .int x2, .int s.1], []) s.2 o := by
  exact w_lp_ok (P := (fun (s : Int32 × Hp) => k_Go X 7 222 (141, [.ref (1076 + 1), .int x1, .int x2, .int s.1], []) s.2 o)) (Q := (fun (e : Hp) => (∀ (u3 : Value), k_Go X 7 222 (162, [.ref (1076 + 1), .int x1, .int x2, u3], []) e o))) (fun s r hF hK hX => l_222_141_st hF hK (fun x hx => (hX _ hx))) n s e hF hX0
def q_222_98 (h : Hp) (x1 : Int32) : Option (Hp) :=
  w_gd (w_ix x1 16) <|
  w_gd (w_ix x1 16) <|
  w_gd (w_ix x1 16) <|
  w_let (w_up h 1100 x1.toNatClampNeg ((h 1100 x1.toNatClampNeg) + 1)) fun hz22 =>
  (p_215 hz22 x1 1101 (40 * ((4 * x1) + (h 1100 x1.toNatClampNeg)))).bind fun vz23 =>
  w_gd (w_ix x1 16) <|
  w_gd (w_ix ((4 * x1) + (h 1100 x1.toNatClampNeg)) 64) <|
  w_let (w_up vz23 1102 (((4 * x1) + (h 1100 x1.toNatClampNeg)).toNatClampNeg) (vz23 1080 x1.toNatClampNeg)) fun hz26 =>
  (p_219 hz26 x1 1103 (234 * ((4 * x1) + (h 1100 x1.toNatClampNeg)))).bind fun vz27 =>
  (w_lp (fun (s : Int32 × Hp) => l_222_141 x1 ((4 * x1) + (h 1100 x1.toNatClampNeg)) s.1 s.2) w_N (0, vz27)).bind fun ez32 =>
  (p_193 ez32 1094 (9 * x1) 1105 (9 * ((4 * x1) + (h 1100 x1.toNatClampNeg)))).bind fun vz33 =>
  some vz33
theorem q_222_98_ok {X : List Int32}   {h : Hp} {x1 : Int32}  {r : Hp} (hF : q_222_98 h x1 = some r)  : ∀ (u2 : Value) (u3 : Value), k_Go X 7 222 (98, [.ref (1076 + 1), .int x1, u2, u3], []) h (.inl none, r) := by
  intro u2 u3
  unfold q_222_98 at hF
  refine kg_push (x := 4) hk_222 rfl (by decide) rfl ?_
  refine kg_iload hk_222 rfl rfl rfl ?_
  refine kg_bin (z := (4 * x1)) hk_222 rfl rfl rfl ?_
  refine kg_aload hk_222 rfl rfl rfl ?_
  refine kg_get (v := .ref (1100 + 1)) hk_222 rfl wk_1076_33 rfl rfl ?_
  refine kg_iload hk_222 rfl rfl rfl ?_
  refine wf_gd hF (fun gz19 hF => ?_)
  refine kg_ald (y := (h 1100 x1.toNatClampNeg)) hk_222 rfl wc_1100 gz19 rfl rfl ?_
  refine kg_bin (z := ((4 * x1) + (h 1100 x1.toNatClampNeg))) hk_222 rfl rfl rfl ?_
  refine kg_istore (L2 := [.ref (1076 + 1), .int x1, .int ((4 * x1) + (h 1100 x1.toNatClampNeg)), u3]) hk_222 rfl (Nat.le_of_ble_eq_true rfl) rfl rfl ?_
  refine kg_aload hk_222 rfl rfl rfl ?_
  refine kg_get (v := .ref (1100 + 1)) hk_222 rfl wk_1076_33 rfl rfl ?_
  refine kg_iload hk_222 rfl rfl rfl ?_
  refine kg_dup2 hk_222 rfl ⟨rfl, rfl⟩ rfl ?_
  refine wf_gd hF (fun gz20 hF => ?_)
  refine kg_ald (y := (h 1100 x1.toNatClampNeg)) hk_222 rfl wc_1100 gz20 rfl rfl ?_
  refine kg_push (x := 1) hk_222 rfl (by decide) rfl ?_
  refine kg_bin (z := ((h 1100 x1.toNatClampNeg) + 1)) hk_222 rfl rfl rfl ?_
  refine wf_gd hF (fun gz21 hF => ?_)
  refine wf_let hF (fun hz22 hhz22 hF => ?_)
  refine kg_ast hk_222 rfl wc_1100 gz21 hhz22 rfl ?_
  refine kg_aload hk_222 rfl rfl rfl ?_
  refine kg_iload hk_222 rfl rfl rfl ?_
  refine kg_aload hk_222 rfl rfl rfl ?_
  refine kg_get (v := .ref (1101 + 1)) hk_222 rfl wk_1076_34 rfl rfl ?_
  refine kg_push (x := 40) hk_222 rfl (by decide) rfl ?_
  refine kg_iload hk_222 rfl rfl rfl ?_
  refine kg_bin (z := (40 * ((4 * x1) + (h 1100 x1.toNatClampNeg)))) hk_222 rfl rfl rfl ?_
  refine wf_bind hF (fun vz23 hvz23 hF => ?_)
  refine kg_call (as := [.ref (1076 + 1), .int x1, .ref (1101 + 1), .int (40 * ((4 * x1) + (h 1100 x1.toNatClampNeg)))]) (rest := []) hk_222 rfl (Or.inr (Or.inr (Or.inr ⟨Or.inl rfl, _, _, rfl, wc_1076⟩))) rfl rfl rfl (Nat.not_lt.mpr (Nat.le_of_ble_eq_true rfl)) (p_215_ok (w_lenE wc_1101) hvz23) (by decide) rfl ?_
  refine kg_aload hk_222 rfl rfl rfl ?_
  refine kg_get (v := .ref (1102 + 1)) hk_222 rfl wk_1076_35 rfl rfl ?_
  refine kg_iload hk_222 rfl rfl rfl ?_
  refine kg_aload hk_222 rfl rfl rfl ?_
  refine kg_get (v := .ref (1080 + 1)) hk_222 rfl wk_1076_4 rfl rfl ?_
  refine kg_iload hk_222 rfl rfl rfl ?_
  refine wf_gd hF (fun gz24 hF => ?_)
  refine kg_ald (y := (vz23 1080 x1.toNatClampNeg)) hk_222 rfl wc_1080 gz24 rfl rfl ?_
  refine wf_gd hF (fun gz25 hF => ?_)
  refine wf_let hF (fun hz26 hhz26 hF => ?_)
  refine kg_ast hk_222 rfl wc_1102 gz25 hhz26 rfl ?_
  refine kg_aload hk_222 rfl rfl rfl ?_
  refine kg_iload hk_222 rfl rfl rfl ?_
  refine kg_aload hk_222 rfl rfl rfl ?_
  refine kg_get (v := .ref (1103 + 1)) hk_222 rfl wk_1076_36 rfl rfl ?_
  refine kg_push (x := 234) hk_222 rfl (by decide) rfl ?_
  refine kg_iload hk_222 rfl rfl rfl ?_
  refine kg_bin (z := (234 * ((4 * x1) + (h 1100 x1.toNatClampNeg)))) hk_222 rfl rfl rfl ?_
  refine wf_bind hF (fun vz27 hvz27 hF => ?_)
  refine kg_call (as := [.ref (1076 + 1), .int x1, .ref (1103 + 1), .int (234 * ((4 * x1) + (h 1100 x1.toNatClampNeg)))]) (rest := []) hk_222 rfl (Or.inr (Or.inr (Or.inr ⟨Or.inl rfl, _, _, rfl, wc_1076⟩))) rfl rfl rfl (Nat.not_lt.mpr (Nat.le_of_ble_eq_true rfl)) (p_219_ok (w_lenE wc_1103) hvz27) (by decide) rfl ?_
  refine kg_push (x := 0) hk_222 rfl (by decide) rfl ?_
  refine kg_istore (L2 := [.ref (1076 + 1), .int x1, .int ((4 * x1) + (h 1100 x1.toNatClampNeg)), .int 0]) hk_222 rfl (Nat.le_of_ble_eq_true rfl) rfl rfl ?_
  refine wf_bind hF (fun ez32 hez32 hF => ?_)
  refine l_222_141_ok hez32 ?_
  intro u3
  refine kg_aload hk_222 rfl rfl rfl ?_
  refine kg_aload hk_222 rfl rfl rfl ?_
  refine kg_get (v := .ref (1094 + 1)) hk_222 rfl wk_1076_18 rfl rfl ?_
  refine kg_push (x := 9) hk_222 rfl (by decide) rfl ?_
  refine kg_iload hk_222 rfl rfl rfl ?_
  refine kg_bin (z := (9 * x1)) hk_222 rfl rfl rfl ?_
  refine kg_aload hk_222 rfl rfl rfl ?_
  refine kg_get (v := .ref (1105 + 1)) hk_222 rfl wk_1076_38 rfl rfl ?_
  refine kg_push (x := 9) hk_222 rfl (by decide) rfl ?_
  refine kg_iload hk_222 rfl rfl rfl ?_
  refine kg_bin (z := (9 * ((4 * x1) + (h 1100 x1.toNatClampNeg)))) hk_222 rfl rfl rfl ?_
  refine wf_bind hF (fun vz33 hvz33 hF => ?_)
  refine kg_call (as := [.ref (1076 + 1), .ref (1094 + 1), .int (9 * x1), .ref (1105 + 1), .int (9 * ((4 * x1) + (h 1100 x1.toNatClampNeg)))]) (rest := []) hk_222 rfl (Or.inr (Or.inr (Or.inr ⟨Or.inl rfl, _, _, rfl, wc_1076⟩))) rfl rfl rfl (Nat.not_lt.mpr (Nat.le_of_ble_eq_true rfl)) (p_193_ok (w_lenE wc_1094) (w_lenE wc_1105) hvz33) (by decide) rfl ?_
  have hF := Option.some.inj hF
  subst hF
  exact kg_ret hk_222 rfl rfl
def p_222 (h : Hp) (x1 : Int32) : Option (Hp) :=
  w_gd (w_ix x1 16) <|
  if (h 1086 x1.toNatClampNeg) = 0 then
    ((p_220 h x1).bind fun vz3 =>
    if vz3.1 = (-1) then
      (w_gd (w_ix x1 16) <|
      if (vz3.2 1100 x1.toNatClampNeg) = 4 then
        ((w_lp (fun (s : Int32 × Hp) => l_222_21 x1 s.1 s.2) w_N ((4 * x1), vz3.2)).bind fun ez15 =>
        w_gd (w_ix x1 16) <|
        w_gd (w_ix x1 16) <|
        w_let (w_up ez15 1100 x1.toNatClampNeg ((ez15 1100 x1.toNatClampNeg) - 1)) fun hz18 =>
        q_222_98 hz18 x1)
      else
        (q_222_98 vz3.2 x1))
    else
      (some vz3.2))
  else
    (some h)
theorem p_222_ok {X : List Int32}  {h : Hp} {x1 : Int32}  {r : Hp} (hF : p_222 h x1 = some r) : k_Ev X 7 222 [.ref (1076 + 1), .int x1] h (.inl none, r) := by
  refine k_of hk_222 ?_
  show k_Go X 7 222 (0, [.ref (1076 + 1), .int x1, (.retAddr 0), (.retAddr 0)], []) h _
  unfold p_222 at hF
  refine kg_aload hk_222 rfl rfl rfl ?_
  refine kg_get (v := .ref (1086 + 1)) hk_222 rfl wk_1076_10 rfl rfl ?_
  refine kg_iload hk_222 rfl rfl rfl ?_
  refine wf_gd hF (fun gz1 hF => ?_)
  refine kg_ald (y := (h 1086 x1.toNatClampNeg)) hk_222 rfl wc_1086 gz1 rfl rfl ?_
  refine wf_if hF (fun cz2 hF => ?_) (fun cz2 hF => ?_)
  · refine kg_ifF hk_222 rfl (jc_F1 cz2) rfl ?_
    refine kg_aload hk_222 rfl rfl rfl ?_
    refine kg_iload hk_222 rfl rfl rfl ?_
    refine wf_bind hF (fun vz3 hvz3 hF => ?_)
    refine kg_call (as := [.ref (1076 + 1), .int x1]) (rest := []) hk_222 rfl (Or.inr (Or.inr (Or.inr ⟨Or.inl rfl, _, _, rfl, wc_1076⟩))) rfl rfl rfl (Nat.not_lt.mpr (Nat.le_of_ble_eq_true rfl)) (p_220_ok hvz3) (by decide) rfl ?_
    refine kg_push (x := (-1)) hk_222 rfl (by decide) rfl ?_
    refine wf_if hF (fun cz4 hF => ?_) (fun cz4 hF => ?_)
    · refine kg_icT hk_222 rfl (jc_T0 cz4) ?_
      refine kg_aload hk_222 rfl rfl rfl ?_
      refine kg_get (v := .ref (1100 + 1)) hk_222 rfl wk_1076_33 rfl rfl ?_
      refine kg_iload hk_222 rfl rfl rfl ?_
      refine wf_gd hF (fun gz5 hF => ?_)
      refine kg_ald (y := (vz3.2 1100 x1.toNatClampNeg)) hk_222 rfl wc_1100 gz5 rfl rfl ?_
      refine kg_push (x := 4) hk_222 rfl (by decide) rfl ?_
      refine wf_if hF (fun cz6 hF => ?_) (fun cz6 hF => ?_)
      · refine kg_icF hk_222 rfl (jc_F1 cz6) rfl ?_
        refine kg_push (x := 4) hk_222 rfl (by decide) rfl ?_
        refine kg_iload hk_222 rfl rfl rfl ?_
        refine kg_bin (z := (4 * x1)) hk_222 rfl rfl rfl ?_
        refine kg_istore (L2 := [.ref (1076 + 1), .int x1, .int (4 * x1), (.retAddr 0)]) hk_222 rfl (Nat.le_of_ble_eq_true rfl) rfl rfl ?_
        refine wf_bind hF (fun ez15 hez15 hF => ?_)
        refine l_222_21_ok hez15 ?_ _
        intro u2 u3
        refine kg_aload hk_222 rfl rfl rfl ?_
        refine kg_get (v := .ref (1100 + 1)) hk_222 rfl wk_1076_33 rfl rfl ?_
        refine kg_iload hk_222 rfl rfl rfl ?_
        refine kg_dup2 hk_222 rfl ⟨rfl, rfl⟩ rfl ?_
        refine wf_gd hF (fun gz16 hF => ?_)
        refine kg_ald (y := (ez15 1100 x1.toNatClampNeg)) hk_222 rfl wc_1100 gz16 rfl rfl ?_
        refine kg_push (x := 1) hk_222 rfl (by decide) rfl ?_
        refine kg_bin (z := ((ez15 1100 x1.toNatClampNeg) - 1)) hk_222 rfl rfl rfl ?_
        refine wf_gd hF (fun gz17 hF => ?_)
        refine wf_let hF (fun hz18 hhz18 hF => ?_)
        refine kg_ast hk_222 rfl wc_1100 gz17 hhz18 rfl ?_
        exact q_222_98_ok hF _ _
      · refine kg_icT hk_222 rfl (jc_T1 cz6) ?_
        exact q_222_98_ok hF _ _
    · refine kg_icF hk_222 rfl (jc_F0 cz4) rfl ?_
      have hF := Option.some.inj hF
      subst hF
      exact kg_ret hk_222 rfl rfl
  · refine kg_ifT hk_222 rfl (jc_T1 cz2) ?_
    have hF := Option.some.inj hF
    subst hF
    exact kg_ret hk_222 rfl rfl
-- NotebookWeirModel.runsOne(II)V
theorem hk_223 : jP[223]? = some (jc_223, 4, [], []) := by rfl
def q_223_59 (h : Hp) (x1 : Int32) (x3 : Int32) (s0 : Int32) (s1 : Int32) : Option (Hp) :=
  (p_217 h s1 s0).bind fun vz13 =>
  if x3 = 0 then
    (some vz13)
  else
    ((p_222 vz13 x1).bind fun vz15 =>
    some vz15)
theorem q_223_59_ok {X : List Int32}   {h : Hp} {s0 : Int32} {s1 : Int32} {x1 : Int32} {x3 : Int32}  {r : Hp} (hF : q_223_59 h x1 x3 s0 s1 = some r)  : ∀ (u2 : Value), k_Go X 10 223 (59, [.ref (1076 + 1), .int x1, u2, .int x3], [.int s0, .int s1, .ref (1076 + 1)]) h (.inl none, r) := by
  intro u2
  unfold q_223_59 at hF
  refine wf_bind hF (fun vz13 hvz13 hF => ?_)
  refine kg_call (as := [.ref (1076 + 1), .int s1, .int s0]) (rest := []) hk_223 rfl (Or.inr (Or.inr (Or.inr ⟨Or.inl rfl, _, _, rfl, wc_1076⟩))) rfl rfl rfl (Nat.not_lt.mpr (Nat.le_of_ble_eq_true rfl)) (p_217_ok hvz13) (by decide) rfl ?_
  refine kg_iload hk_223 rfl rfl rfl ?_
  refine wf_if hF (fun cz14 hF => ?_) (fun cz14 hF => ?_)
  · refine kg_ifT hk_223 rfl (jc_T0 cz14) ?_
    have hF := Option.some.inj hF
    subst hF
    exact kg_ret hk_223 rfl rfl
  · refine kg_ifF hk_223 rfl (jc_F0 cz14) rfl ?_
    refine kg_aload hk_223 rfl rfl rfl ?_
    refine kg_iload hk_223 rfl rfl rfl ?_
    refine wf_bind hF (fun vz15 hvz15 hF => ?_)
    refine kg_call (as := [.ref (1076 + 1), .int x1]) (rest := []) hk_223 rfl (Or.inr (Or.inr (Or.inr ⟨Or.inl rfl, _, _, rfl, wc_1076⟩))) rfl rfl rfl (Nat.not_lt.mpr (Nat.le_of_ble_eq_true rfl)) (p_222_ok hvz15) (by decide) rfl ?_
    have hF := Option.some.inj hF
    subst hF
    exact kg_ret hk_223 rfl rfl
def q_223_45 (h : Hp) (x1 : Int32) (x3 : Int32) (s0 : Int32) (s1 : Int32) : Option (Hp) :=
  w_gd (w_ix s1 16) <|
  w_let (w_up h 1092 s1.toNatClampNeg s0) fun hz10 =>
  w_let (w_up hz10 1076 20 ((hz10 1076 20) + 1)) fun hz11 =>
  q_223_59 hz11 x1 x3 (if x3 = 0 then 2 else 1 : Int32) x1
theorem q_223_45_ok {X : List Int32}   {h : Hp} {s0 : Int32} {s1 : Int32} {x1 : Int32} {x3 : Int32}  {r : Hp} (hF : q_223_45 h x1 x3 s0 s1 = some r)  : ∀ (u2 : Value), k_Go X 10 223 (45, [.ref (1076 + 1), .int x1, u2, .int x3], [.int s0, .int s1, .ref (1092 + 1)]) h (.inl none, r) := by
  intro u2
  unfold q_223_45 at hF
  refine wf_gd hF (fun gz9 hF => ?_)
  refine wf_let hF (fun hz10 hhz10 hF => ?_)
  refine kg_ast hk_223 rfl wc_1092 gz9 hhz10 rfl ?_
  refine kg_aload hk_223 rfl rfl rfl ?_
  refine kg_dup hk_223 rfl rfl rfl ?_
  refine kg_get (v := .int (hz10 1076 20)) hk_223 rfl wk_1076_20 rfl rfl ?_
  refine kg_push (x := 1) hk_223 rfl (by decide) rfl ?_
  refine kg_bin (z := ((hz10 1076 20) + 1)) hk_223 rfl rfl rfl ?_
  refine wf_let hF (fun hz11 hhz11 hF => ?_)
  refine kg_put hk_223 rfl wk_1076_20 rfl rfl hhz11 rfl ?_
  refine kg_aload hk_223 rfl rfl rfl ?_
  refine kg_iload hk_223 rfl rfl rfl ?_
  refine kg_iload hk_223 rfl rfl rfl ?_
  refine kv_mid (p := 59) (L := [.ref (1076 + 1), .int x1, u2, .int x3]) (S := [.int (if x3 = 0 then 2 else 1 : Int32), .int x1, .ref (1076 + 1)]) ?_ (fun hK => ?_)
  · exact q_223_59_ok hF _
  · by_cases cz12 : x3 = 0
    · have hK := kv_T cz12 hK
      refine kg_ifT hk_223 rfl (jc_T0 cz12) ?_
      refine kg_push (x := 2) hk_223 rfl (by decide) rfl ?_
      exact hK
    · have hK := kv_F cz12 hK
      refine kg_ifF hk_223 rfl (jc_F0 cz12) rfl ?_
      refine kg_push (x := 1) hk_223 rfl (by decide) rfl ?_
      refine kg_goto hk_223 rfl ?_
      exact hK
def p_223 (h : Hp) (x1 : Int32) (x2 : Int32) : Option (Hp) :=
  (p_216 h x1 x2 1093 1094).bind fun vz1 =>
  w_gd (w_ix x1 16) <|
  w_let (w_up vz1.2 1096 x1.toNatClampNeg (vz1.2 1076 30)) fun hz3 =>
  w_gd (w_ix x1 16) <|
  w_gd (w_ix x1 16) <|
  w_let (w_up hz3 1098 x1.toNatClampNeg (hz3 1080 x1.toNatClampNeg)) fun hz6 =>
  (p_215 hz6 x1 1097 (40 * x1)).bind fun vz7 =>
  q_223_45 vz7 x1 vz1.1 (if vz1.1 = 0 then ((100 * (vz7 1076 75)) + (vz7 1076 76)) else 0 : Int32) x1
theorem p_223_ok {X : List Int32}  {h : Hp} {x1 : Int32} {x2 : Int32}  {r : Hp} (hF : p_223 h x1 x2 = some r) : k_Ev X 10 223 [.ref (1076 + 1), .int x1, .int x2] h (.inl none, r) := by
  refine k_of hk_223 ?_
  show k_Go X 10 223 (0, [.ref (1076 + 1), .int x1, .int x2, (.retAddr 0)], []) h _
  unfold p_223 at hF
  refine kg_aload hk_223 rfl rfl rfl ?_
  refine kg_iload hk_223 rfl rfl rfl ?_
  refine kg_iload hk_223 rfl rfl rfl ?_
  refine kg_aload hk_223 rfl rfl rfl ?_
  refine kg_get (v := .ref (1093 + 1)) hk_223 rfl wk_1076_17 rfl rfl ?_
  refine kg_aload hk_223 rfl rfl rfl ?_
  refine kg_get (v := .ref (1094 + 1)) hk_223 rfl wk_1076_18 rfl rfl ?_
  refine wf_bind hF (fun vz1 hvz1 hF => ?_)
  refine kg_call (as := [.ref (1076 + 1), .int x1, .int x2, .ref (1093 + 1), .ref (1094 + 1)]) (rest := []) hk_223 rfl (Or.inr (Or.inr (Or.inr ⟨Or.inl rfl, _, _, rfl, wc_1076⟩))) rfl rfl rfl (Nat.not_lt.mpr (Nat.le_of_ble_eq_true rfl)) (p_216_ok (w_lenE wc_1093) (w_lenE wc_1094) hvz1) (by decide) rfl ?_
  refine kg_istore (L2 := [.ref (1076 + 1), .int x1, .int x2, .int vz1.1]) hk_223 rfl (Nat.le_of_ble_eq_true rfl) rfl rfl ?_
  refine kg_aload hk_223 rfl rfl rfl ?_
  refine kg_get (v := .ref (1096 + 1)) hk_223 rfl wk_1076_24 rfl rfl ?_
  refine kg_iload hk_223 rfl rfl rfl ?_
  refine kg_aload hk_223 rfl rfl rfl ?_
  refine kg_get (v := .int (vz1.2 1076 30)) hk_223 rfl wk_1076_30 rfl rfl ?_
  refine wf_gd hF (fun gz2 hF => ?_)
  refine wf_let hF (fun hz3 hhz3 hF => ?_)
  refine kg_ast hk_223 rfl wc_1096 gz2 hhz3 rfl ?_
  refine kg_aload hk_223 rfl rfl rfl ?_
  refine kg_get (v := .ref (1098 + 1)) hk_223 rfl wk_1076_26 rfl rfl ?_
  refine kg_iload hk_223 rfl rfl rfl ?_
  refine kg_aload hk_223 rfl rfl rfl ?_
  refine kg_get (v := .ref (1080 + 1)) hk_223 rfl wk_1076_4 rfl rfl ?_
  refine kg_iload hk_223 rfl rfl rfl ?_
  refine wf_gd hF (fun gz4 hF => ?_)
  refine kg_ald (y := (hz3 1080 x1.toNatClampNeg)) hk_223 rfl wc_1080 gz4 rfl rfl ?_
  refine wf_gd hF (fun gz5 hF => ?_)
  refine wf_let hF (fun hz6 hhz6 hF => ?_)
  refine kg_ast hk_223 rfl wc_1098 gz5 hhz6 rfl ?_
  refine kg_aload hk_223 rfl rfl rfl ?_
  refine kg_iload hk_223 rfl rfl rfl ?_
  refine kg_aload hk_223 rfl rfl rfl ?_
  refine kg_get (v := .ref (1097 + 1)) hk_223 rfl wk_1076_25 rfl rfl ?_
  refine kg_push (x := 40) hk_223 rfl (by decide) rfl ?_
  refine kg_iload hk_223 rfl rfl rfl ?_
  refine kg_bin (z := (40 * x1)) hk_223 rfl rfl rfl ?_
  refine wf_bind hF (fun vz7 hvz7 hF => ?_)
  refine kg_call (as := [.ref (1076 + 1), .int x1, .ref (1097 + 1), .int (40 * x1)]) (rest := []) hk_223 rfl (Or.inr (Or.inr (Or.inr ⟨Or.inl rfl, _, _, rfl, wc_1076⟩))) rfl rfl rfl (Nat.not_lt.mpr (Nat.le_of_ble_eq_true rfl)) (p_215_ok (w_lenE wc_1097) hvz7) (by decide) rfl ?_
  refine kg_aload hk_223 rfl rfl rfl ?_
  refine kg_get (v := .ref (1092 + 1)) hk_223 rfl wk_1076_16 rfl rfl ?_
  refine kg_iload hk_223 rfl rfl rfl ?_
  refine kg_iload hk_223 rfl rfl rfl ?_
  refine kv_mid (p := 45) (L := [.ref (1076 + 1), .int x1, .int x2, .int vz1.1]) (S := [.int (if vz1.1 = 0 then ((100 * (vz7 1076 75)) + (vz7 1076 76)) else 0 : Int32), .int x1, .ref (1092 + 1)]) ?_ (fun hK => ?_)
  · exact q_223_45_ok hF _
  · by_cases cz8 : vz1.1 = 0
    · have hK := kv_T cz8 hK
      refine kg_ifT hk_223 rfl (jc_T0 cz8) ?_
      refine kg_push (x := 100) hk_223 rfl (by decide) rfl ?_
      refine kg_aload hk_223 rfl rfl rfl ?_
      refine kg_get (v := .int (vz7 1076 75)) hk_223 rfl wk_1076_75 rfl rfl ?_
      refine kg_bin (z := (100 * (vz7 1076 75))) hk_223 rfl rfl rfl ?_
      refine kg_aload hk_223 rfl rfl rfl ?_
      refine kg_get (v := .int (vz7 1076 76)) hk_223 rfl wk_1076_76 rfl rfl ?_
      refine kg_bin (z := ((100 * (vz7 1076 75)) + (vz7 1076 76))) hk_223 rfl rfl rfl ?_
      exact hK
    · have hK := kv_F cz8 hK
      refine kg_ifF hk_223 rfl (jc_F0 cz8) rfl ?_
      refine kg_push (x := 0) hk_223 rfl (by decide) rfl ?_
      refine kg_goto hk_223 rfl ?_
      exact hK
-- NotebookWeirModel.does(I)I
theorem hk_224 : jP[224]? = some (jc_224, 4, [], []) := by rfl
def l_224_22 (x1 : Int32) (x2 : Int32) (x3 : Int32) (h : Hp) : Option ((Int32 × Hp) ⊕ Hp) :=
  if x3 < 234 then
    (w_gd (w_ix ((234 * x2) + x3) 14976) <|
    w_gd (w_ix ((234 * x1) + x3) 3744) <|
    w_let (w_up h 1093 (((234 * x1) + x3).toNatClampNeg) (h 1104 ((234 * x2) + x3).toNatClampNeg)) fun hz9 =>
    some (.inl ((x3 + 1), hz9)))
  else
    (some (.inr h))
theorem l_224_22_st {X : List Int32} {o : kO}  {h : Hp} {x1 : Int32} {x2 : Int32} {x3 : Int32}  {r : (Int32 × Hp) ⊕ Hp} (hF : l_224_22 x1 x2 x3 h = some r) (hK : ∀ s' : Int32 × Hp, r = .inl s' → k_Go X 11 224 (22, [.ref (1076 + 1), .int x1, .int x2, .int (s'.1)], []) s'.2 o) (hX0 : ∀ e : Hp, r = .inr e → ∀ (u3 : Value), k_Go X 11 224 (43, [.ref (1076 + 1), .int x1, .int x2, u3], []) e o) : k_Go X 11 224 (22, [.ref (1076 + 1), .int x1, .int x2, .int x3], []) h o := by
  refine kg_iload hk_224 rfl rfl rfl ?_
  refine kg_push (x := 234) hk_224 rfl (by decide) rfl ?_
  refine wf_if hF (fun cz6 hF => ?_) (fun cz6 hF => ?_)
  · refine kg_icF hk_224 rfl (jc_F3 cz6) rfl ?_
    refine kg_aload hk_224 rfl rfl rfl ?_
    refine kg_get (v := .ref (1093 + 1)) hk_224 rfl wk_1076_17 rfl rfl ?_
    refine kg_push (x := 234) hk_224 rfl (by decide) rfl ?_
    refine kg_iload hk_224 rfl rfl rfl ?_
    refine kg_bin (z := (234 * x1)) hk_224 rfl rfl rfl ?_
    refine kg_iload hk_224 rfl rfl rfl ?_
    refine kg_bin (z := ((234 * x1) + x3)) hk_224 rfl rfl rfl ?_
    refine kg_aload hk_224 rfl rfl rfl ?_
    refine kg_get (v := .ref (1104 + 1)) hk_224 rfl wk_1076_37 rfl rfl ?_
    refine kg_push (x := 234) hk_224 rfl (by decide) rfl ?_
    refine kg_iload hk_224 rfl rfl rfl ?_
    refine kg_bin (z := (234 * x2)) hk_224 rfl rfl rfl ?_
    refine kg_iload hk_224 rfl rfl rfl ?_
    refine kg_bin (z := ((234 * x2) + x3)) hk_224 rfl rfl rfl ?_
    refine wf_gd hF (fun gz7 hF => ?_)
    refine kg_ald (y := (h 1104 ((234 * x2) + x3).toNatClampNeg)) hk_224 rfl wc_1104 gz7 rfl rfl ?_
    refine wf_gd hF (fun gz8 hF => ?_)
    refine wf_let hF (fun hz9 hhz9 hF => ?_)
    refine kg_ast hk_224 rfl wc_1093 gz8 hhz9 rfl ?_
    refine kg_iinc (y := (x3 + 1)) (L2 := [.ref (1076 + 1), .int x1, .int x2, .int (x3 + 1)]) hk_224 rfl rfl rfl rfl rfl ?_
    refine kg_goto hk_224 rfl ?_
    have hF := Option.some.inj hF
    exact hK _ hF.symm
  · refine kg_icT hk_224 rfl (jc_T3 cz6) ?_
    have hF := Option.some.inj hF
    exact hX0 _ hF.symm _
theorem l_224_22_ok {X : List Int32} {o : kO}  {x1 : Int32} {x2 : Int32}  {n : Nat} {s : Int32 × Hp} {e : Hp} (hF : w_lp (fun (s : Int32 × Hp) => l_224_22 x1 x2 s.1 s.2) n s = some e) (hX0 : ∀ (u3 : Value), k_Go X 11 224 (43, [.ref (1076 + 1), .int x1, .int x2, u3], []) e o) : k_Go X 11 224 (22, [.ref (1076 + 1), .int x1, .int x2, .int s.1], []) s.2 o := by
  exact w_lp_ok (P := (fun (s : Int32 × Hp) => k_Go X 11 224 (22, [.ref (1076 + 1), .int x1, .int x2, .int s.1], []) s.2 o)) (Q := (fun (e : Hp) => (∀ (u3 : Value), k_Go X 11 224 (43, [.ref (1076 + 1), .int x1, .int x2, u3], []) e o))) (fun s r hF hK hX => l_224_22_st hF hK (fun x hx => (hX _ hx))) n s e hF hX0
def q_224_10 (h : Hp) (x1 : Int32) (s0 : Int32) : Option (Int32 × Hp) :=
  if s0 = (-1) then
    ((p_223 h x1 0).bind fun vz5 =>
    some (0, vz5))
  else
    ((w_lp (fun (s : Int32 × Hp) => l_224_22 x1 s0 s.1 s.2) w_N (0, h)).bind fun ez10 =>
    (p_193 ez10 1105 (9 * s0) 1094 (9 * x1)).bind fun vz11 =>
    w_gd (w_ix x1 16) <|
    w_let (w_up vz11 1092 x1.toNatClampNeg 0) fun hz13 =>
    w_let (w_up hz13 1076 21 ((hz13 1076 21) + 1)) fun hz14 =>
    (p_217 hz14 x1 1).bind fun vz15 =>
    some (1, vz15))
theorem q_224_10_ok {X : List Int32}   {h : Hp} {s0 : Int32} {x1 : Int32}  {r : Int32 × Hp} (hF : q_224_10 h x1 s0 = some r)  : ∀ (u2 : Value) (u3 : Value), k_Go X 11 224 (10, [.ref (1076 + 1), .int x1, u2, u3], [.int s0]) h (.inl (some (.int r.1)), r.2) := by
  intro u2 u3
  unfold q_224_10 at hF
  refine kg_istore (L2 := [.ref (1076 + 1), .int x1, .int s0, u3]) hk_224 rfl (Nat.le_of_ble_eq_true rfl) rfl rfl ?_
  refine kg_iload hk_224 rfl rfl rfl ?_
  refine kg_push (x := (-1)) hk_224 rfl (by decide) rfl ?_
  refine wf_if hF (fun cz4 hF => ?_) (fun cz4 hF => ?_)
  · refine kg_icF hk_224 rfl (jc_F1 cz4) rfl ?_
    refine kg_aload hk_224 rfl rfl rfl ?_
    refine kg_iload hk_224 rfl rfl rfl ?_
    refine kg_push (x := 0) hk_224 rfl (by decide) rfl ?_
    refine wf_bind hF (fun vz5 hvz5 hF => ?_)
    refine kg_call (as := [.ref (1076 + 1), .int x1, .int 0]) (rest := []) hk_224 rfl (Or.inr (Or.inr (Or.inr ⟨Or.inl rfl, _, _, rfl, wc_1076⟩))) rfl rfl rfl (Nat.not_lt.mpr (Nat.le_of_ble_eq_true rfl)) (p_223_ok hvz5) (by decide) rfl ?_
    refine kg_push (x := 0) hk_224 rfl (by decide) rfl ?_
    have hF := Option.some.inj hF
    subst hF
    exact kg_iret hk_224 rfl (Or.inl rfl) rfl
  · refine kg_icT hk_224 rfl (jc_T1 cz4) ?_
    refine kg_push (x := 0) hk_224 rfl (by decide) rfl ?_
    refine kg_istore (L2 := [.ref (1076 + 1), .int x1, .int s0, .int 0]) hk_224 rfl (Nat.le_of_ble_eq_true rfl) rfl rfl ?_
    refine wf_bind hF (fun ez10 hez10 hF => ?_)
    refine l_224_22_ok hez10 ?_
    intro u3
    refine kg_aload hk_224 rfl rfl rfl ?_
    refine kg_aload hk_224 rfl rfl rfl ?_
    refine kg_get (v := .ref (1105 + 1)) hk_224 rfl wk_1076_38 rfl rfl ?_
    refine kg_push (x := 9) hk_224 rfl (by decide) rfl ?_
    refine kg_iload hk_224 rfl rfl rfl ?_
    refine kg_bin (z := (9 * s0)) hk_224 rfl rfl rfl ?_
    refine kg_aload hk_224 rfl rfl rfl ?_
    refine kg_get (v := .ref (1094 + 1)) hk_224 rfl wk_1076_18 rfl rfl ?_
    refine kg_push (x := 9) hk_224 rfl (by decide) rfl ?_
    refine kg_iload hk_224 rfl rfl rfl ?_
    refine kg_bin (z := (9 * x1)) hk_224 rfl rfl rfl ?_
    refine wf_bind hF (fun vz11 hvz11 hF => ?_)
    refine kg_call (as := [.ref (1076 + 1), .ref (1105 + 1), .int (9 * s0), .ref (1094 + 1), .int (9 * x1)]) (rest := []) hk_224 rfl (Or.inr (Or.inr (Or.inr ⟨Or.inl rfl, _, _, rfl, wc_1076⟩))) rfl rfl rfl (Nat.not_lt.mpr (Nat.le_of_ble_eq_true rfl)) (p_193_ok (w_lenE wc_1105) (w_lenE wc_1094) hvz11) (by decide) rfl ?_
    refine kg_aload hk_224 rfl rfl rfl ?_
    refine kg_get (v := .ref (1092 + 1)) hk_224 rfl wk_1076_16 rfl rfl ?_
    refine kg_iload hk_224 rfl rfl rfl ?_
    refine kg_push (x := 0) hk_224 rfl (by decide) rfl ?_
    refine wf_gd hF (fun gz12 hF => ?_)
    refine wf_let hF (fun hz13 hhz13 hF => ?_)
    refine kg_ast hk_224 rfl wc_1092 gz12 hhz13 rfl ?_
    refine kg_aload hk_224 rfl rfl rfl ?_
    refine kg_dup hk_224 rfl rfl rfl ?_
    refine kg_get (v := .int (hz13 1076 21)) hk_224 rfl wk_1076_21 rfl rfl ?_
    refine kg_push (x := 1) hk_224 rfl (by decide) rfl ?_
    refine kg_bin (z := ((hz13 1076 21) + 1)) hk_224 rfl rfl rfl ?_
    refine wf_let hF (fun hz14 hhz14 hF => ?_)
    refine kg_put hk_224 rfl wk_1076_21 rfl rfl hhz14 rfl ?_
    refine kg_aload hk_224 rfl rfl rfl ?_
    refine kg_iload hk_224 rfl rfl rfl ?_
    refine kg_push (x := 1) hk_224 rfl (by decide) rfl ?_
    refine wf_bind hF (fun vz15 hvz15 hF => ?_)
    refine kg_call (as := [.ref (1076 + 1), .int x1, .int 1]) (rest := []) hk_224 rfl (Or.inr (Or.inr (Or.inr ⟨Or.inl rfl, _, _, rfl, wc_1076⟩))) rfl rfl rfl (Nat.not_lt.mpr (Nat.le_of_ble_eq_true rfl)) (p_217_ok hvz15) (by decide) rfl ?_
    refine kg_push (x := 1) hk_224 rfl (by decide) rfl ?_
    have hF := Option.some.inj hF
    subst hF
    exact kg_iret hk_224 rfl (Or.inl rfl) rfl
def p_224 (h : Hp) (x1 : Int32) : Option (Int32 × Hp) :=
  w_gd (w_ix x1 16) <|
  if (h 1086 x1.toNatClampNeg) = 0 then
    ((p_220 h x1).bind fun vz3 =>
    q_224_10 vz3.2 x1 vz3.1)
  else
    (q_224_10 h x1 (-1))
theorem p_224_ok {X : List Int32}  {h : Hp} {x1 : Int32}  {r : Int32 × Hp} (hF : p_224 h x1 = some r) : k_Ev X 11 224 [.ref (1076 + 1), .int x1] h (.inl (some (.int r.1)), r.2) := by
  refine k_of hk_224 ?_
  show k_Go X 11 224 (0, [.ref (1076 + 1), .int x1, (.retAddr 0), (.retAddr 0)], []) h _
  unfold p_224 at hF
  refine kg_aload hk_224 rfl rfl rfl ?_
  refine kg_get (v := .ref (1086 + 1)) hk_224 rfl wk_1076_10 rfl rfl ?_
  refine kg_iload hk_224 rfl rfl rfl ?_
  refine wf_gd hF (fun gz1 hF => ?_)
  refine kg_ald (y := (h 1086 x1.toNatClampNeg)) hk_224 rfl wc_1086 gz1 rfl rfl ?_
  refine wf_if hF (fun cz2 hF => ?_) (fun cz2 hF => ?_)
  · refine kg_ifT hk_224 rfl (jc_T0 cz2) ?_
    refine kg_aload hk_224 rfl rfl rfl ?_
    refine kg_iload hk_224 rfl rfl rfl ?_
    refine wf_bind hF (fun vz3 hvz3 hF => ?_)
    refine kg_call (as := [.ref (1076 + 1), .int x1]) (rest := []) hk_224 rfl (Or.inr (Or.inr (Or.inr ⟨Or.inl rfl, _, _, rfl, wc_1076⟩))) rfl rfl rfl (Nat.not_lt.mpr (Nat.le_of_ble_eq_true rfl)) (p_220_ok hvz3) (by decide) rfl ?_
    exact q_224_10_ok hF _ _
  · refine kg_ifF hk_224 rfl (jc_F0 cz2) rfl ?_
    refine kg_push (x := (-1)) hk_224 rfl (by decide) rfl ?_
    refine kg_goto hk_224 rfl ?_
    exact q_224_10_ok hF _ _
-- NotebookWeirModel.runsAll(I)V
theorem hk_191 : jP[191]? = some (jc_191, 3, [], []) := by rfl
def l_191_6 (x1 : Int32) (x2 : Int32) (h : Hp) : Option ((Int32 × Hp) ⊕ Hp) :=
  if x2 = (-1) then
    (some (.inr h))
  else
    ((p_224 h x2).bind fun vz4 =>
    (p_188 vz4.2).bind fun vz5 =>
    (p_190 vz5 x1).bind fun vz6 =>
    some (.inl (vz6, vz5)))
theorem l_191_6_st {X : List Int32} {o : kO}  {h : Hp} {x1 : Int32} {x2 : Int32}  {r : (Int32 × Hp) ⊕ Hp} (hF : l_191_6 x1 x2 h = some r) (hK : ∀ s' : Int32 × Hp, r = .inl s' → k_Go X 12 191 (6, [.ref (1076 + 1), .int x1, .int (s'.1)], []) s'.2 o) (hX0 : ∀ e : Hp, r = .inr e → (.inl none, e) = o) : k_Go X 12 191 (6, [.ref (1076 + 1), .int x1, .int x2], []) h o := by
  refine kg_iload hk_191 rfl rfl rfl ?_
  refine kg_push (x := (-1)) hk_191 rfl (by decide) rfl ?_
  refine wf_if hF (fun cz3 hF => ?_) (fun cz3 hF => ?_)
  · refine kg_icT hk_191 rfl (jc_T0 cz3) ?_
    have hF := Option.some.inj hF
    exact kg_ret hk_191 rfl (hX0 _ hF.symm)
  · refine kg_icF hk_191 rfl (jc_F0 cz3) rfl ?_
    refine kg_aload hk_191 rfl rfl rfl ?_
    refine kg_iload hk_191 rfl rfl rfl ?_
    refine wf_bind hF (fun vz4 hvz4 hF => ?_)
    refine kg_call (as := [.ref (1076 + 1), .int x2]) (rest := []) hk_191 rfl (Or.inr (Or.inr (Or.inr ⟨Or.inl rfl, _, _, rfl, wc_1076⟩))) rfl rfl rfl (Nat.not_lt.mpr (Nat.le_of_ble_eq_true rfl)) (p_224_ok hvz4) (by decide) rfl ?_
    refine kg_pop hk_191 rfl rfl rfl ?_
    refine kg_aload hk_191 rfl rfl rfl ?_
    refine wf_bind hF (fun vz5 hvz5 hF => ?_)
    refine kg_call (as := [.ref (1076 + 1)]) (rest := []) hk_191 rfl (Or.inr (Or.inr (Or.inr ⟨Or.inl rfl, _, _, rfl, wc_1076⟩))) rfl rfl rfl (Nat.not_lt.mpr (Nat.le_of_ble_eq_true rfl)) (p_188_ok hvz5) (by decide) rfl ?_
    refine kg_aload hk_191 rfl rfl rfl ?_
    refine kg_iload hk_191 rfl rfl rfl ?_
    refine wf_bind hF (fun vz6 hvz6 hF => ?_)
    refine kg_call (as := [.ref (1076 + 1), .int x1]) (rest := []) hk_191 rfl (Or.inr (Or.inr (Or.inr ⟨Or.inl rfl, _, _, rfl, wc_1076⟩))) rfl rfl rfl (Nat.not_lt.mpr (Nat.le_of_ble_eq_true rfl)) (p_190_ok hvz6) (by decide) rfl ?_
    refine kg_istore (L2 := [.ref (1076 + 1), .int x1, .int vz6]) hk_191 rfl (Nat.le_of_ble_eq_true rfl) rfl rfl ?_
    refine kg_goto hk_191 rfl ?_
    have hF := Option.some.inj hF
    exact hK _ hF.symm
theorem l_191_6_ok {X : List Int32} {o : kO}  {x1 : Int32}  {n : Nat} {s : Int32 × Hp} {e : Hp} (hF : w_lp (fun (s : Int32 × Hp) => l_191_6 x1 s.1 s.2) n s = some e) (hX0 : (.inl none, e) = o) : k_Go X 12 191 (6, [.ref (1076 + 1), .int x1, .int s.1], []) s.2 o := by
  exact w_lp_ok (P := (fun (s : Int32 × Hp) => k_Go X 12 191 (6, [.ref (1076 + 1), .int x1, .int s.1], []) s.2 o)) (Q := (fun (e : Hp) => ((.inl none, e) = o))) (fun s r hF hK hX => l_191_6_st hF hK (fun x hx => (hX _ hx))) n s e hF hX0
def p_191 (h : Hp) (x1 : Int32) : Option (Hp) :=
  (p_188 h).bind fun vz1 =>
  (p_190 vz1 x1).bind fun vz2 =>
  w_lp (fun (s : Int32 × Hp) => l_191_6 x1 s.1 s.2) w_N (vz2, vz1)
theorem p_191_ok {X : List Int32}  {h : Hp} {x1 : Int32}  {r : Hp} (hF : p_191 h x1 = some r) : k_Ev X 12 191 [.ref (1076 + 1), .int x1] h (.inl none, r) := by
  refine k_of hk_191 ?_
  show k_Go X 12 191 (0, [.ref (1076 + 1), .int x1, (.retAddr 0)], []) h _
  unfold p_191 at hF
  refine kg_aload hk_191 rfl rfl rfl ?_
  refine wf_bind hF (fun vz1 hvz1 hF => ?_)
  refine kg_call (as := [.ref (1076 + 1)]) (rest := []) hk_191 rfl (Or.inr (Or.inr (Or.inr ⟨Or.inl rfl, _, _, rfl, wc_1076⟩))) rfl rfl rfl (Nat.not_lt.mpr (Nat.le_of_ble_eq_true rfl)) (p_188_ok hvz1) (by decide) rfl ?_
  refine kg_aload hk_191 rfl rfl rfl ?_
  refine kg_iload hk_191 rfl rfl rfl ?_
  refine wf_bind hF (fun vz2 hvz2 hF => ?_)
  refine kg_call (as := [.ref (1076 + 1), .int x1]) (rest := []) hk_191 rfl (Or.inr (Or.inr (Or.inr ⟨Or.inl rfl, _, _, rfl, wc_1076⟩))) rfl rfl rfl (Nat.not_lt.mpr (Nat.le_of_ble_eq_true rfl)) (p_190_ok hvz2) (by decide) rfl ?_
  refine kg_istore (L2 := [.ref (1076 + 1), .int x1, .int vz2]) hk_191 rfl (Nat.le_of_ble_eq_true rfl) rfl rfl ?_
  exact l_191_6_ok hF rfl
-- NotebookWeirModel.atOnce()V
theorem hk_192 : jP[192]? = some (jc_192, 1, [], []) := by rfl
def p_192 (h : Hp) : Option (Hp) :=
  if (h 1076 22) = 2 then
    ((p_191 h 65535).bind fun vz2 =>
    some vz2)
  else
    (some h)
theorem p_192_ok {X : List Int32}  {h : Hp}   {r : Hp} (hF : p_192 h = some r) : k_Ev X 13 192 [.ref (1076 + 1)] h (.inl none, r) := by
  refine k_of hk_192 ?_
  show k_Go X 13 192 (0, [.ref (1076 + 1)], []) h _
  unfold p_192 at hF
  refine kg_aload hk_192 rfl rfl rfl ?_
  refine kg_get (v := .int (h 1076 22)) hk_192 rfl wk_1076_22 rfl rfl ?_
  refine kg_push (x := 2) hk_192 rfl (by decide) rfl ?_
  refine wf_if hF (fun cz1 hF => ?_) (fun cz1 hF => ?_)
  · refine kg_icF hk_192 rfl (jc_F1 cz1) rfl ?_
    refine kg_aload hk_192 rfl rfl rfl ?_
    refine kg_push (x := 65535) hk_192 rfl (by decide) rfl ?_
    refine wf_bind hF (fun vz2 hvz2 hF => ?_)
    refine kg_call (as := [.ref (1076 + 1), .int 65535]) (rest := []) hk_192 rfl (Or.inr (Or.inr (Or.inr ⟨Or.inl rfl, _, _, rfl, wc_1076⟩))) rfl rfl rfl (Nat.not_lt.mpr (Nat.le_of_ble_eq_true rfl)) (p_191_ok hvz2) (by decide) rfl ?_
    have hF := Option.some.inj hF
    subst hF
    exact kg_ret hk_192 rfl rfl
  · refine kg_icT hk_192 rfl (jc_T1 cz1) ?_
    have hF := Option.some.inj hF
    subst hF
    exact kg_ret hk_192 rfl rfl
-- NotebookWeirModel.cell(II)I
theorem hk_166 : jP[166]? = some (jc_166, 5, [], []) := by rfl
def q_166_57 (h : Hp) (x1 : Int32) (x4 : Int32) : Option (Int32 × Hp) :=
  w_gd (w_ix x1 2) <|
  w_let (w_up h 1078 x1.toNatClampNeg 0) fun hz14 =>
  if x4 = (-1) then
    (some (x4, hz14))
  else
    ((p_192 hz14).bind fun vz16 =>
    some (x4, vz16))
theorem q_166_57_ok {X : List Int32}   {h : Hp} {x1 : Int32} {x4 : Int32}  {r : Int32 × Hp} (hF : q_166_57 h x1 x4 = some r)  : ∀ (u2 : Value) (u3 : Value), k_Go X 14 166 (57, [.ref (1076 + 1), .int x1, u2, u3, .int x4], []) h (.inl (some (.int r.1)), r.2) := by
  intro u2 u3
  unfold q_166_57 at hF
  refine kg_aload hk_166 rfl rfl rfl ?_
  refine kg_get (v := .ref (1078 + 1)) hk_166 rfl wk_1076_1 rfl rfl ?_
  refine kg_iload hk_166 rfl rfl rfl ?_
  refine kg_push (x := 0) hk_166 rfl (by decide) rfl ?_
  refine wf_gd hF (fun gz13 hF => ?_)
  refine wf_let hF (fun hz14 hhz14 hF => ?_)
  refine kg_ast hk_166 rfl wc_1078 gz13 hhz14 rfl ?_
  refine kg_iload hk_166 rfl rfl rfl ?_
  refine kg_push (x := (-1)) hk_166 rfl (by decide) rfl ?_
  refine wf_if hF (fun cz15 hF => ?_) (fun cz15 hF => ?_)
  · refine kg_icT hk_166 rfl (jc_T0 cz15) ?_
    refine kg_iload hk_166 rfl rfl rfl ?_
    have hF := Option.some.inj hF
    subst hF
    exact kg_iret hk_166 rfl (Or.inl rfl) rfl
  · refine kg_icF hk_166 rfl (jc_F0 cz15) rfl ?_
    refine kg_aload hk_166 rfl rfl rfl ?_
    refine wf_bind hF (fun vz16 hvz16 hF => ?_)
    refine kg_call (as := [.ref (1076 + 1)]) (rest := []) hk_166 rfl (Or.inr (Or.inr (Or.inr ⟨Or.inl rfl, _, _, rfl, wc_1076⟩))) rfl rfl rfl (Nat.not_lt.mpr (Nat.le_of_ble_eq_true rfl)) (p_192_ok hvz16) (by decide) rfl ?_
    refine kg_iload hk_166 rfl rfl rfl ?_
    have hF := Option.some.inj hF
    subst hF
    exact kg_iret hk_166 rfl (Or.inl rfl) rfl
def q_166_23 (h : Hp) (x1 : Int32) (x2 : Int32) (s0 : Int32) (s1 : Int32) : Option (Int32 × Hp) :=
  (p_146 h s1 s0 1).bind fun vz4 =>
  if vz4.1 = 0 then
    (some (0, vz4.2))
  else
    ((p_158 vz4.2 x1 x2).bind fun vz6 =>
    if vz6.1 = (-1) then
      (w_let (w_up vz6.2 1076 2 ((vz6.2 1076 2) + 1)) fun hz8 =>
      w_gd (w_ix (vz6.2 1076 2) 16) <|
      w_let (w_up hz8 1081 ((vz6.2 1076 2).toNatClampNeg) x2) fun hz10 =>
      (p_165 hz10 x1 (vz6.2 1076 2)).bind fun vz11 =>
      w_let (w_up vz11 1076 45 0) fun hz12 =>
      q_166_57 hz12 x1 (vz6.2 1076 2))
    else
      (q_166_57 vz6.2 x1 (-1)))
theorem q_166_23_ok {X : List Int32}   {h : Hp} {s0 : Int32} {s1 : Int32} {x1 : Int32} {x2 : Int32}  {r : Int32 × Hp} (hF : q_166_23 h x1 x2 s0 s1 = some r)  : ∀ (u3 : Value) (u4 : Value), k_Go X 14 166 (23, [.ref (1076 + 1), .int x1, .int x2, u3, u4], [.int s0, .int s1, .ref (1076 + 1)]) h (.inl (some (.int r.1)), r.2) := by
  intro u3 u4
  unfold q_166_23 at hF
  refine kg_push (x := 1) hk_166 rfl (by decide) rfl ?_
  refine wf_bind hF (fun vz4 hvz4 hF => ?_)
  refine kg_call (as := [.ref (1076 + 1), .int s1, .int s0, .int 1]) (rest := []) hk_166 rfl (Or.inr (Or.inr (Or.inr ⟨Or.inl rfl, _, _, rfl, wc_1076⟩))) rfl rfl rfl (Nat.not_lt.mpr (Nat.le_of_ble_eq_true rfl)) (p_146_ok hvz4) (by decide) rfl ?_
  refine wf_if hF (fun cz5 hF => ?_) (fun cz5 hF => ?_)
  · refine kg_ifF hk_166 rfl (jc_F1 cz5) rfl ?_
    refine kg_push (x := 0) hk_166 rfl (by decide) rfl ?_
    have hF := Option.some.inj hF
    subst hF
    exact kg_iret hk_166 rfl (Or.inl rfl) rfl
  · refine kg_ifT hk_166 rfl (jc_T1 cz5) ?_
    refine kg_push (x := (-1)) hk_166 rfl (by decide) rfl ?_
    refine kg_istore (L2 := [.ref (1076 + 1), .int x1, .int x2, u3, .int (-1)]) hk_166 rfl (Nat.le_of_ble_eq_true rfl) rfl rfl ?_
    refine kg_aload hk_166 rfl rfl rfl ?_
    refine kg_iload hk_166 rfl rfl rfl ?_
    refine kg_iload hk_166 rfl rfl rfl ?_
    refine wf_bind hF (fun vz6 hvz6 hF => ?_)
    refine kg_call (as := [.ref (1076 + 1), .int x1, .int x2]) (rest := []) hk_166 rfl (Or.inr (Or.inr (Or.inr ⟨Or.inl rfl, _, _, rfl, wc_1076⟩))) rfl rfl rfl (Nat.not_lt.mpr (Nat.le_of_ble_eq_true rfl)) (p_158_ok hvz6) (by decide) rfl ?_
    refine kg_push (x := (-1)) hk_166 rfl (by decide) rfl ?_
    refine wf_if hF (fun cz7 hF => ?_) (fun cz7 hF => ?_)
    · refine kg_icF hk_166 rfl (jc_F1 cz7) rfl ?_
      refine kg_aload hk_166 rfl rfl rfl ?_
      refine kg_get (v := .int (vz6.2 1076 2)) hk_166 rfl wk_1076_2 rfl rfl ?_
      refine kg_istore (L2 := [.ref (1076 + 1), .int x1, .int x2, u3, .int (vz6.2 1076 2)]) hk_166 rfl (Nat.le_of_ble_eq_true rfl) rfl rfl ?_
      refine kg_aload hk_166 rfl rfl rfl ?_
      refine kg_dup hk_166 rfl rfl rfl ?_
      refine kg_get (v := .int (vz6.2 1076 2)) hk_166 rfl wk_1076_2 rfl rfl ?_
      refine kg_push (x := 1) hk_166 rfl (by decide) rfl ?_
      refine kg_bin (z := ((vz6.2 1076 2) + 1)) hk_166 rfl rfl rfl ?_
      refine wf_let hF (fun hz8 hhz8 hF => ?_)
      refine kg_put hk_166 rfl wk_1076_2 rfl rfl hhz8 rfl ?_
      refine kg_aload hk_166 rfl rfl rfl ?_
      refine kg_get (v := .ref (1081 + 1)) hk_166 rfl wk_1076_5 rfl rfl ?_
      refine kg_iload hk_166 rfl rfl rfl ?_
      refine kg_iload hk_166 rfl rfl rfl ?_
      refine wf_gd hF (fun gz9 hF => ?_)
      refine wf_let hF (fun hz10 hhz10 hF => ?_)
      refine kg_ast hk_166 rfl wc_1081 gz9 hhz10 rfl ?_
      refine kg_aload hk_166 rfl rfl rfl ?_
      refine kg_iload hk_166 rfl rfl rfl ?_
      refine kg_iload hk_166 rfl rfl rfl ?_
      refine wf_bind hF (fun vz11 hvz11 hF => ?_)
      refine kg_call (as := [.ref (1076 + 1), .int x1, .int (vz6.2 1076 2)]) (rest := []) hk_166 rfl (Or.inr (Or.inr (Or.inr ⟨Or.inl rfl, _, _, rfl, wc_1076⟩))) rfl rfl rfl (Nat.not_lt.mpr (Nat.le_of_ble_eq_true rfl)) (p_165_ok hvz11) (by decide) rfl ?_
      refine kg_aload hk_166 rfl rfl rfl ?_
      refine kg_push (x := 0) hk_166 rfl (by decide) rfl ?_
      refine wf_let hF (fun hz12 hhz12 hF => ?_)
      refine kg_put hk_166 rfl wk_1076_45 rfl (w_fitB rfl) hhz12 rfl ?_
      exact q_166_57_ok hF _ _
    · refine kg_icT hk_166 rfl (jc_T1 cz7) ?_
      exact q_166_57_ok hF _ _
def q_166_13 (h : Hp) (x1 : Int32) (x2 : Int32) (s0 : Int32) : Option (Int32 × Hp) :=
  q_166_23 h x1 x2 (if (h 1076 2) < 16 then 1 else 0 : Int32) s0
theorem q_166_13_ok {X : List Int32}   {h : Hp} {s0 : Int32} {x1 : Int32} {x2 : Int32}  {r : Int32 × Hp} (hF : q_166_13 h x1 x2 s0 = some r)  : ∀ (u3 : Value) (u4 : Value), k_Go X 14 166 (13, [.ref (1076 + 1), .int x1, .int x2, u3, u4], [.int s0]) h (.inl (some (.int r.1)), r.2) := by
  intro u3 u4
  unfold q_166_13 at hF
  refine kg_istore (L2 := [.ref (1076 + 1), .int x1, .int x2, .int s0, u4]) hk_166 rfl (Nat.le_of_ble_eq_true rfl) rfl rfl ?_
  refine kg_aload hk_166 rfl rfl rfl ?_
  refine kg_iload hk_166 rfl rfl rfl ?_
  refine kg_aload hk_166 rfl rfl rfl ?_
  refine kg_get (v := .int (h 1076 2)) hk_166 rfl wk_1076_2 rfl rfl ?_
  refine kg_push (x := 16) hk_166 rfl (by decide) rfl ?_
  refine kv_mid (p := 23) (L := [.ref (1076 + 1), .int x1, .int x2, .int s0, u4]) (S := [.int (if (h 1076 2) < 16 then 1 else 0 : Int32), .int s0, .ref (1076 + 1)]) ?_ (fun hK => ?_)
  · exact q_166_23_ok hF _ _
  · by_cases cz3 : (h 1076 2) < 16
    · have hK := kv_T cz3 hK
      refine kg_icF hk_166 rfl (jc_F3 cz3) rfl ?_
      refine kg_push (x := 1) hk_166 rfl (by decide) rfl ?_
      refine kg_goto hk_166 rfl ?_
      exact hK
    · have hK := kv_F cz3 hK
      refine kg_icT hk_166 rfl (jc_T3 cz3) ?_
      refine kg_push (x := 0) hk_166 rfl (by decide) rfl ?_
      exact hK
def p_166 (h : Hp) (x1 : Int32) (x2 : Int32) : Option (Int32 × Hp) :=
  q_166_13 h x1 x2 (if (v_147 x1 0 1) = 0 then 0 else (if (v_147 x2 0 2) = 0 then 0 else 1 : Int32) : Int32)
theorem p_166_ok {X : List Int32}  {h : Hp} {x1 : Int32} {x2 : Int32}  {r : Int32 × Hp} (hF : p_166 h x1 x2 = some r) : k_Ev X 14 166 [.ref (1076 + 1), .int x1, .int x2] h (.inl (some (.int r.1)), r.2) := by
  refine k_of hk_166 ?_
  show k_Go X 14 166 (0, [.ref (1076 + 1), .int x1, .int x2, (.retAddr 0), (.retAddr 0)], []) h _
  unfold p_166 at hF
  refine kg_iload hk_166 rfl rfl rfl ?_
  refine kg_push (x := 0) hk_166 rfl (by decide) rfl ?_
  refine kg_push (x := 1) hk_166 rfl (by decide) rfl ?_
  refine kg_call (as := [.int x1, .int 0, .int 1]) (rest := []) hk_166 rfl (Or.inl rfl) rfl rfl rfl (Nat.not_lt.mpr (Nat.le_of_ble_eq_true rfl)) (v_147_ok) (by decide) rfl ?_
  refine kv_mid (p := 13) (L := [.ref (1076 + 1), .int x1, .int x2, (.retAddr 0), (.retAddr 0)]) (S := [.int (if (v_147 x1 0 1) = 0 then 0 else (if (v_147 x2 0 2) = 0 then 0 else 1 : Int32) : Int32)]) ?_ (fun hK => ?_)
  · exact q_166_13_ok hF _ _
  · by_cases cz1 : (v_147 x1 0 1) = 0
    · have hK := kv_T cz1 hK
      refine kg_ifT hk_166 rfl (jc_T0 cz1) ?_
      refine kg_push (x := 0) hk_166 rfl (by decide) rfl ?_
      exact hK
    · have hK := kv_F cz1 hK
      refine kg_ifF hk_166 rfl (jc_F0 cz1) rfl ?_
      refine kg_iload hk_166 rfl rfl rfl ?_
      refine kg_push (x := 0) hk_166 rfl (by decide) rfl ?_
      refine kg_push (x := 2) hk_166 rfl (by decide) rfl ?_
      refine kg_call (as := [.int x2, .int 0, .int 2]) (rest := []) hk_166 rfl (Or.inl rfl) rfl rfl rfl (Nat.not_lt.mpr (Nat.le_of_ble_eq_true rfl)) (v_147_ok) (by decide) rfl ?_
      by_cases cz2 : (v_147 x2 0 2) = 0
      · have hK := kv_T cz2 hK
        refine kg_ifT hk_166 rfl (jc_T0 cz2) ?_
        refine kg_push (x := 0) hk_166 rfl (by decide) rfl ?_
        exact hK
      · have hK := kv_F cz2 hK
        refine kg_ifF hk_166 rfl (jc_F0 cz2) rfl ?_
        refine kg_push (x := 1) hk_166 rfl (by decide) rfl ?_
        refine kg_goto hk_166 rfl ?_
        exact hK
-- NotebookWeirModel.isCell(I)Z
theorem hk_167 : jP[167]? = some (jc_167, 2, [], []) := by rfl
def v_167 (h : Hp) (x1 : Int32) : Int32 := (v_147 x1 0 ((h 1076 2) - 1))
theorem v_167_bo (h : Hp) (x1 : Int32) : w_bo (v_167 h x1) = true := by
  unfold v_167
  exact (v_147_bo _ _ _)
theorem v_167_ok {X : List Int32} {h : Hp} {x1 : Int32}  : k_Ev X 1 167 [.ref (1076 + 1), .int x1] h (.inl (some (.int (v_167 h x1))), h) := by
  refine k_of hk_167 ?_
  show k_Go X 1 167 (0, [.ref (1076 + 1), .int x1], []) h _
  generalize hv : v_167 h x1 = z
  unfold v_167 at hv
  refine kg_iload hk_167 rfl rfl rfl ?_
  refine kg_push (x := 0) hk_167 rfl (by decide) rfl ?_
  refine kg_aload hk_167 rfl rfl rfl ?_
  refine kg_get (v := .int (h 1076 2)) hk_167 rfl wk_1076_2 rfl rfl ?_
  refine kg_push (x := 1) hk_167 rfl (by decide) rfl ?_
  refine kg_bin (z := ((h 1076 2) - 1)) hk_167 rfl rfl rfl ?_
  refine kg_call (as := [.int x1, .int 0, .int ((h 1076 2) - 1)]) (rest := []) hk_167 rfl (Or.inl rfl) rfl rfl rfl (Nat.not_lt.mpr (Nat.le_of_ble_eq_true rfl)) (v_147_ok) (by decide) rfl ?_
  exact kg_iret hk_167 rfl (Or.inr (v_147_bo _ _ _)) (by rw [hv])
-- NotebookWeirModel.edit(III)I
theorem hk_168 : jP[168]? = some (jc_168, 6, [], []) := by rfl
def q_168_64 (h : Hp) (x2 : Int32) (x5 : Int32) : Option (Int32 × Hp) :=
  w_gd ((if x5 = 0 then true else w_ix x2 16)) <|
  some ((if x5 = 0 then (-1) else (h 1082 x2.toNatClampNeg) : Int32), h)
theorem q_168_64_ok {X : List Int32}   {h : Hp} {x2 : Int32} {x5 : Int32}  {r : Int32 × Hp} (hF : q_168_64 h x2 x5 = some r)  : ∀ (u1 : Value) (u3 : Value) (u4 : Value), k_Go X 14 168 (64, [.ref (1076 + 1), u1, .int x2, u3, u4, .int x5], []) h (.inl (some (.int r.1)), r.2) := by
  intro u1 u3 u4
  unfold q_168_64 at hF
  refine kg_iload hk_168 rfl rfl rfl ?_
  refine wf_gd hF (fun gz16 hF => ?_)
  refine kv_mid (p := 72) (L := [.ref (1076 + 1), u1, .int x2, u3, u4, .int x5]) (S := [.int (if x5 = 0 then (-1) else (h 1082 x2.toNatClampNeg) : Int32)]) ?_ (fun hK => ?_)
  · have hF := Option.some.inj hF
    subst hF
    exact kg_iret hk_168 rfl (Or.inl rfl) rfl
  · have hg := gz16
    by_cases cz14 : x5 = 0
    · have hK := kv_T cz14 hK
      refine kg_ifT hk_168 rfl (jc_T0 cz14) ?_
      refine kg_push (x := (-1)) hk_168 rfl (by decide) rfl ?_
      exact hK
    · have hg := wv_F cz14 hg
      have hK := kv_F cz14 hK
      have gz15 := hg
      refine kg_ifF hk_168 rfl (jc_F0 cz14) rfl ?_
      refine kg_aload hk_168 rfl rfl rfl ?_
      refine kg_get (v := .ref (1082 + 1)) hk_168 rfl wk_1076_6 rfl rfl ?_
      refine kg_iload hk_168 rfl rfl rfl ?_
      refine kg_ald (y := (h 1082 x2.toNatClampNeg)) hk_168 rfl wc_1082 gz15 rfl rfl ?_
      refine kg_goto hk_168 rfl ?_
      exact hK
def q_168_55 (h : Hp) (x1 : Int32) (x2 : Int32) (x5 : Int32) : Option (Int32 × Hp) :=
  w_gd (w_ix x1 2) <|
  w_let (w_up h 1078 x1.toNatClampNeg 0) fun hz12 =>
  if x5 = 0 then
    (q_168_64 hz12 x2 x5)
  else
    ((p_192 hz12).bind fun vz17 =>
    q_168_64 vz17 x2 x5)
theorem q_168_55_ok {X : List Int32}   {h : Hp} {x1 : Int32} {x2 : Int32} {x5 : Int32}  {r : Int32 × Hp} (hF : q_168_55 h x1 x2 x5 = some r)  : ∀ (u3 : Value) (u4 : Value), k_Go X 14 168 (55, [.ref (1076 + 1), .int x1, .int x2, u3, u4, .int x5], []) h (.inl (some (.int r.1)), r.2) := by
  intro u3 u4
  unfold q_168_55 at hF
  refine kg_aload hk_168 rfl rfl rfl ?_
  refine kg_get (v := .ref (1078 + 1)) hk_168 rfl wk_1076_1 rfl rfl ?_
  refine kg_iload hk_168 rfl rfl rfl ?_
  refine kg_push (x := 0) hk_168 rfl (by decide) rfl ?_
  refine wf_gd hF (fun gz11 hF => ?_)
  refine wf_let hF (fun hz12 hhz12 hF => ?_)
  refine kg_ast hk_168 rfl wc_1078 gz11 hhz12 rfl ?_
  refine kg_iload hk_168 rfl rfl rfl ?_
  refine wf_if hF (fun cz13 hF => ?_) (fun cz13 hF => ?_)
  · refine kg_ifT hk_168 rfl (jc_T0 cz13) ?_
    exact q_168_64_ok hF _ _ _
  · refine kg_ifF hk_168 rfl (jc_F0 cz13) rfl ?_
    refine kg_aload hk_168 rfl rfl rfl ?_
    refine wf_bind hF (fun vz17 hvz17 hF => ?_)
    refine kg_call (as := [.ref (1076 + 1)]) (rest := []) hk_168 rfl (Or.inr (Or.inr (Or.inr ⟨Or.inl rfl, _, _, rfl, wc_1076⟩))) rfl rfl rfl (Nat.not_lt.mpr (Nat.le_of_ble_eq_true rfl)) (p_192_ok hvz17) (by decide) rfl ?_
    exact q_168_64_ok hF _ _ _
def q_168_37 (h : Hp) (x1 : Int32) (x2 : Int32) (s0 : Int32) : Option (Int32 × Hp) :=
  if s0 = 0 then
    (q_168_55 h x1 x2 s0)
  else
    ((p_165 h x1 x2).bind fun vz18 =>
    w_gd (w_ix x2 16) <|
    w_gd (w_ix x2 16) <|
    w_let (w_up vz18 1082 x2.toNatClampNeg ((vz18 1082 x2.toNatClampNeg) + 1)) fun hz21 =>
    w_let (w_up hz21 1076 45 0) fun hz22 =>
    q_168_55 hz22 x1 x2 s0)
theorem q_168_37_ok {X : List Int32}   {h : Hp} {s0 : Int32} {x1 : Int32} {x2 : Int32}  {r : Int32 × Hp} (hF : q_168_37 h x1 x2 s0 = some r)  : ∀ (u3 : Value) (u4 : Value) (u5 : Value), k_Go X 14 168 (37, [.ref (1076 + 1), .int x1, .int x2, u3, u4, u5], [.int s0]) h (.inl (some (.int r.1)), r.2) := by
  intro u3 u4 u5
  unfold q_168_37 at hF
  refine kg_istore (L2 := [.ref (1076 + 1), .int x1, .int x2, u3, u4, .int s0]) hk_168 rfl (Nat.le_of_ble_eq_true rfl) rfl rfl ?_
  refine kg_iload hk_168 rfl rfl rfl ?_
  refine wf_if hF (fun cz10 hF => ?_) (fun cz10 hF => ?_)
  · refine kg_ifT hk_168 rfl (jc_T0 cz10) ?_
    exact q_168_55_ok hF _ _
  · refine kg_ifF hk_168 rfl (jc_F0 cz10) rfl ?_
    refine kg_aload hk_168 rfl rfl rfl ?_
    refine kg_iload hk_168 rfl rfl rfl ?_
    refine kg_iload hk_168 rfl rfl rfl ?_
    refine wf_bind hF (fun vz18 hvz18 hF => ?_)
    refine kg_call (as := [.ref (1076 + 1), .int x1, .int x2]) (rest := []) hk_168 rfl (Or.inr (Or.inr (Or.inr ⟨Or.inl rfl, _, _, rfl, wc_1076⟩))) rfl rfl rfl (Nat.not_lt.mpr (Nat.le_of_ble_eq_true rfl)) (p_165_ok hvz18) (by decide) rfl ?_
    refine kg_aload hk_168 rfl rfl rfl ?_
    refine kg_get (v := .ref (1082 + 1)) hk_168 rfl wk_1076_6 rfl rfl ?_
    refine kg_iload hk_168 rfl rfl rfl ?_
    refine kg_dup2 hk_168 rfl ⟨rfl, rfl⟩ rfl ?_
    refine wf_gd hF (fun gz19 hF => ?_)
    refine kg_ald (y := (vz18 1082 x2.toNatClampNeg)) hk_168 rfl wc_1082 gz19 rfl rfl ?_
    refine kg_push (x := 1) hk_168 rfl (by decide) rfl ?_
    refine kg_bin (z := ((vz18 1082 x2.toNatClampNeg) + 1)) hk_168 rfl rfl rfl ?_
    refine wf_gd hF (fun gz20 hF => ?_)
    refine wf_let hF (fun hz21 hhz21 hF => ?_)
    refine kg_ast hk_168 rfl wc_1082 gz20 hhz21 rfl ?_
    refine kg_aload hk_168 rfl rfl rfl ?_
    refine kg_push (x := 0) hk_168 rfl (by decide) rfl ?_
    refine wf_let hF (fun hz22 hhz22 hF => ?_)
    refine kg_put hk_168 rfl wk_1076_45 rfl (w_fitB rfl) hhz22 rfl ?_
    exact q_168_55_ok hF _ _
def q_168_21 (h : Hp) (x1 : Int32) (x2 : Int32) (s0 : Int32) (s1 : Int32) (s2 : Int32) : Option (Int32 × Hp) :=
  (p_146 h s2 s1 s0).bind fun vz5 =>
  if vz5.1 = 0 then
    (some (0, vz5.2))
  else
    (w_gd (w_ix x2 16) <|
    (p_158 vz5.2 x1 (vz5.2 1081 x2.toNatClampNeg)).bind fun vz8 =>
    q_168_37 vz8.2 x1 x2 (if vz8.1 = (-1) then 1 else 0 : Int32))
theorem q_168_21_ok {X : List Int32}   {h : Hp} {s0 : Int32} {s1 : Int32} {s2 : Int32} {x1 : Int32} {x2 : Int32}  {r : Int32 × Hp} (hF : q_168_21 h x1 x2 s0 s1 s2 = some r)  : ∀ (u3 : Value) (u4 : Value) (u5 : Value), k_Go X 14 168 (21, [.ref (1076 + 1), .int x1, .int x2, u3, u4, u5], [.int s0, .int s1, .int s2, .ref (1076 + 1)]) h (.inl (some (.int r.1)), r.2) := by
  intro u3 u4 u5
  unfold q_168_21 at hF
  refine wf_bind hF (fun vz5 hvz5 hF => ?_)
  refine kg_call (as := [.ref (1076 + 1), .int s2, .int s1, .int s0]) (rest := []) hk_168 rfl (Or.inr (Or.inr (Or.inr ⟨Or.inl rfl, _, _, rfl, wc_1076⟩))) rfl rfl rfl (Nat.not_lt.mpr (Nat.le_of_ble_eq_true rfl)) (p_146_ok hvz5) (by decide) rfl ?_
  refine wf_if hF (fun cz6 hF => ?_) (fun cz6 hF => ?_)
  · refine kg_ifF hk_168 rfl (jc_F1 cz6) rfl ?_
    refine kg_push (x := 0) hk_168 rfl (by decide) rfl ?_
    have hF := Option.some.inj hF
    subst hF
    exact kg_iret hk_168 rfl (Or.inl rfl) rfl
  · refine kg_ifT hk_168 rfl (jc_T1 cz6) ?_
    refine kg_aload hk_168 rfl rfl rfl ?_
    refine kg_iload hk_168 rfl rfl rfl ?_
    refine kg_aload hk_168 rfl rfl rfl ?_
    refine kg_get (v := .ref (1081 + 1)) hk_168 rfl wk_1076_5 rfl rfl ?_
    refine kg_iload hk_168 rfl rfl rfl ?_
    refine wf_gd hF (fun gz7 hF => ?_)
    refine kg_ald (y := (vz5.2 1081 x2.toNatClampNeg)) hk_168 rfl wc_1081 gz7 rfl rfl ?_
    refine wf_bind hF (fun vz8 hvz8 hF => ?_)
    refine kg_call (as := [.ref (1076 + 1), .int x1, .int (vz5.2 1081 x2.toNatClampNeg)]) (rest := []) hk_168 rfl (Or.inr (Or.inr (Or.inr ⟨Or.inl rfl, _, _, rfl, wc_1076⟩))) rfl rfl rfl (Nat.not_lt.mpr (Nat.le_of_ble_eq_true rfl)) (p_158_ok hvz8) (by decide) rfl ?_
    refine kg_push (x := (-1)) hk_168 rfl (by decide) rfl ?_
    refine kv_mid (p := 37) (L := [.ref (1076 + 1), .int x1, .int x2, u3, u4, u5]) (S := [.int (if vz8.1 = (-1) then 1 else 0 : Int32)]) ?_ (fun hK => ?_)
    · exact q_168_37_ok hF _ _ _
    · by_cases cz9 : vz8.1 = (-1)
      · have hK := kv_T cz9 hK
        refine kg_icF hk_168 rfl (jc_F1 cz9) rfl ?_
        refine kg_push (x := 1) hk_168 rfl (by decide) rfl ?_
        refine kg_goto hk_168 rfl ?_
        exact hK
      · have hK := kv_F cz9 hK
        refine kg_icT hk_168 rfl (jc_T1 cz9) ?_
        refine kg_push (x := 0) hk_168 rfl (by decide) rfl ?_
        exact hK
def p_168 (h : Hp) (x1 : Int32) (x2 : Int32) (x3 : Int32) : Option (Int32 × Hp) :=
  w_gd ((if (v_167 h x2) = 0 then true else w_ix x2 16)) <|
  q_168_21 h x1 x2 (if (v_167 h x2) = 0 then 0 else (if (h 1082 x2.toNatClampNeg) = x3 then 1 else 0 : Int32) : Int32) (v_147 x1 0 1) (v_167 h x2)
theorem p_168_ok {X : List Int32}  {h : Hp} {x1 : Int32} {x2 : Int32} {x3 : Int32}  {r : Int32 × Hp} (hF : p_168 h x1 x2 x3 = some r) : k_Ev X 14 168 [.ref (1076 + 1), .int x1, .int x2, .int x3] h (.inl (some (.int r.1)), r.2) := by
  refine k_of hk_168 ?_
  show k_Go X 14 168 (0, [.ref (1076 + 1), .int x1, .int x2, .int x3, (.retAddr 0), (.retAddr 0)], []) h _
  unfold p_168 at hF
  refine kg_aload hk_168 rfl rfl rfl ?_
  refine kg_iload hk_168 rfl rfl rfl ?_
  refine kg_call (as := [.ref (1076 + 1), .int x2]) (rest := []) hk_168 rfl (Or.inr (Or.inr (Or.inr ⟨Or.inl rfl, _, _, rfl, wc_1076⟩))) rfl rfl rfl (Nat.not_lt.mpr (Nat.le_of_ble_eq_true rfl)) (v_167_ok) (by decide) rfl ?_
  refine kg_istore (L2 := [.ref (1076 + 1), .int x1, .int x2, .int x3, .int (v_167 h x2), (.retAddr 0)]) hk_168 rfl (Nat.le_of_ble_eq_true rfl) rfl rfl ?_
  refine kg_aload hk_168 rfl rfl rfl ?_
  refine kg_iload hk_168 rfl rfl rfl ?_
  refine kg_iload hk_168 rfl rfl rfl ?_
  refine kg_push (x := 0) hk_168 rfl (by decide) rfl ?_
  refine kg_push (x := 1) hk_168 rfl (by decide) rfl ?_
  refine kg_call (as := [.int x1, .int 0, .int 1]) (rest := [.int (v_167 h x2), .ref (1076 + 1)]) hk_168 rfl (Or.inl rfl) rfl rfl rfl (Nat.not_lt.mpr (Nat.le_of_ble_eq_true rfl)) (v_147_ok) (by decide) rfl ?_
  refine kg_iload hk_168 rfl rfl rfl ?_
  refine wf_gd hF (fun gz4 hF => ?_)
  refine kv_mid (p := 21) (L := [.ref (1076 + 1), .int x1, .int x2, .int x3, .int (v_167 h x2), (.retAddr 0)]) (S := [.int (if (v_167 h x2) = 0 then 0 else (if (h 1082 x2.toNatClampNeg) = x3 then 1 else 0 : Int32) : Int32), .int (v_147 x1 0 1), .int (v_167 h x2), .ref (1076 + 1)]) ?_ (fun hK => ?_)
  · exact q_168_21_ok hF _ _ _
  · have hg := gz4
    by_cases cz1 : (v_167 h x2) = 0
    · have hK := kv_T cz1 hK
      refine kg_ifT hk_168 rfl (jc_T0 cz1) ?_
      refine kg_push (x := 0) hk_168 rfl (by decide) rfl ?_
      exact hK
    · have hg := wv_F cz1 hg
      have hK := kv_F cz1 hK
      have gz2 := hg
      refine kg_ifF hk_168 rfl (jc_F0 cz1) rfl ?_
      refine kg_aload hk_168 rfl rfl rfl ?_
      refine kg_get (v := .ref (1082 + 1)) hk_168 rfl wk_1076_6 rfl rfl ?_
      refine kg_iload hk_168 rfl rfl rfl ?_
      refine kg_ald (y := (h 1082 x2.toNatClampNeg)) hk_168 rfl wc_1082 gz2 rfl rfl ?_
      refine kg_iload hk_168 rfl rfl rfl ?_
      by_cases cz3 : (h 1082 x2.toNatClampNeg) = x3
      · have hK := kv_T cz3 hK
        refine kg_icF hk_168 rfl (jc_F1 cz3) rfl ?_
        refine kg_push (x := 1) hk_168 rfl (by decide) rfl ?_
        refine kg_goto hk_168 rfl ?_
        exact hK
      · have hK := kv_F cz3 hK
        refine kg_icT hk_168 rfl (jc_T1 cz3) ?_
        refine kg_push (x := 0) hk_168 rfl (by decide) rfl ?_
        exact hK
-- NotebookWeirModel.mode(I)I
theorem hk_169 : jP[169]? = some (jc_169, 3, [], []) := by rfl
def p_169 (h : Hp) (x1 : Int32) : Option (Int32 × Hp) :=
  (p_146 h (v_147 x1 0 2) 1 1).bind fun vz1 =>
  if vz1.1 = 0 then
    (some (0, vz1.2))
  else
    (w_let (w_up vz1.2 1076 22 x1) fun hz3 =>
    (p_192 hz3).bind fun vz4 =>
    some ((vz1.2 1076 22), vz4))
theorem p_169_ok {X : List Int32}  {h : Hp} {x1 : Int32}  {r : Int32 × Hp} (hF : p_169 h x1 = some r) : k_Ev X 14 169 [.ref (1076 + 1), .int x1] h (.inl (some (.int r.1)), r.2) := by
  refine k_of hk_169 ?_
  show k_Go X 14 169 (0, [.ref (1076 + 1), .int x1, (.retAddr 0)], []) h _
  unfold p_169 at hF
  refine kg_aload hk_169 rfl rfl rfl ?_
  refine kg_iload hk_169 rfl rfl rfl ?_
  refine kg_push (x := 0) hk_169 rfl (by decide) rfl ?_
  refine kg_push (x := 2) hk_169 rfl (by decide) rfl ?_
  refine kg_call (as := [.int x1, .int 0, .int 2]) (rest := [.ref (1076 + 1)]) hk_169 rfl (Or.inl rfl) rfl rfl rfl (Nat.not_lt.mpr (Nat.le_of_ble_eq_true rfl)) (v_147_ok) (by decide) rfl ?_
  refine kg_push (x := 1) hk_169 rfl (by decide) rfl ?_
  refine kg_push (x := 1) hk_169 rfl (by decide) rfl ?_
  refine wf_bind hF (fun vz1 hvz1 hF => ?_)
  refine kg_call (as := [.ref (1076 + 1), .int (v_147 x1 0 2), .int 1, .int 1]) (rest := []) hk_169 rfl (Or.inr (Or.inr (Or.inr ⟨Or.inl rfl, _, _, rfl, wc_1076⟩))) rfl rfl rfl (Nat.not_lt.mpr (Nat.le_of_ble_eq_true rfl)) (p_146_ok hvz1) (by decide) rfl ?_
  refine wf_if hF (fun cz2 hF => ?_) (fun cz2 hF => ?_)
  · refine kg_ifF hk_169 rfl (jc_F1 cz2) rfl ?_
    refine kg_push (x := 0) hk_169 rfl (by decide) rfl ?_
    have hF := Option.some.inj hF
    subst hF
    exact kg_iret hk_169 rfl (Or.inl rfl) rfl
  · refine kg_ifT hk_169 rfl (jc_T1 cz2) ?_
    refine kg_aload hk_169 rfl rfl rfl ?_
    refine kg_get (v := .int (vz1.2 1076 22)) hk_169 rfl wk_1076_22 rfl rfl ?_
    refine kg_istore (L2 := [.ref (1076 + 1), .int x1, .int (vz1.2 1076 22)]) hk_169 rfl (Nat.le_of_ble_eq_true rfl) rfl rfl ?_
    refine kg_aload hk_169 rfl rfl rfl ?_
    refine kg_iload hk_169 rfl rfl rfl ?_
    refine wf_let hF (fun hz3 hhz3 hF => ?_)
    refine kg_put hk_169 rfl wk_1076_22 rfl rfl hhz3 rfl ?_
    refine kg_aload hk_169 rfl rfl rfl ?_
    refine wf_bind hF (fun vz4 hvz4 hF => ?_)
    refine kg_call (as := [.ref (1076 + 1)]) (rest := []) hk_169 rfl (Or.inr (Or.inr (Or.inr ⟨Or.inl rfl, _, _, rfl, wc_1076⟩))) rfl rfl rfl (Nat.not_lt.mpr (Nat.le_of_ble_eq_true rfl)) (p_192_ok hvz4) (by decide) rfl ?_
    refine kg_iload hk_169 rfl rfl rfl ?_
    have hF := Option.some.inj hF
    subst hF
    exact kg_iret hk_169 rfl (Or.inl rfl) rfl
-- NotebookWeirModel.widget(CII)I
theorem hk_171 : jP[171]? = some (jc_171, 6, [], []) := by rfl
def q_171_30 (h : Hp) (x1 : Int32) (x2 : Int32) (x3 : Int32) (s0 : Int32) (s1 : Int32) : Option (Int32 × Hp) :=
  (p_146 h s1 s0 1).bind fun vz8 =>
  if vz8.1 = 0 then
    (some (0, vz8.2))
  else
    (w_let (w_up vz8.2 1076 48 ((vz8.2 1076 48) + 1)) fun hz10 =>
    w_gd (w_ix (vz8.2 1076 48) 4) <|
    w_let (w_up hz10 1112 ((vz8.2 1076 48).toNatClampNeg) x1) fun hz12 =>
    w_gd (w_ix (vz8.2 1076 48) 4) <|
    w_let (w_up hz12 1113 ((vz8.2 1076 48).toNatClampNeg) x2) fun hz14 =>
    w_gd (w_ix (vz8.2 1076 48) 4) <|
    w_let (w_up hz14 1114 ((vz8.2 1076 48).toNatClampNeg) x3) fun hz16 =>
    w_gd (w_ix (vz8.2 1076 48) 4) <|
    w_let (w_up hz16 1115 ((vz8.2 1076 48).toNatClampNeg) x2) fun hz18 =>
    w_let (w_up hz18 1076 45 0) fun hz19 =>
    (p_192 hz19).bind fun vz20 =>
    some ((vz8.2 1076 48), vz20))
theorem q_171_30_ok {X : List Int32}   {h : Hp} {s0 : Int32} {s1 : Int32} {x1 : Int32} {x2 : Int32} {x3 : Int32}  {r : Int32 × Hp} (hF : q_171_30 h x1 x2 x3 s0 s1 = some r)  : ∀ (u4 : Value) (u5 : Value), k_Go X 14 171 (30, [.ref (1076 + 1), .int x1, .int x2, .int x3, u4, u5], [.int s0, .int s1, .ref (1076 + 1)]) h (.inl (some (.int r.1)), r.2) := by
  intro u4 u5
  unfold q_171_30 at hF
  refine kg_push (x := 1) hk_171 rfl (by decide) rfl ?_
  refine wf_bind hF (fun vz8 hvz8 hF => ?_)
  refine kg_call (as := [.ref (1076 + 1), .int s1, .int s0, .int 1]) (rest := []) hk_171 rfl (Or.inr (Or.inr (Or.inr ⟨Or.inl rfl, _, _, rfl, wc_1076⟩))) rfl rfl rfl (Nat.not_lt.mpr (Nat.le_of_ble_eq_true rfl)) (p_146_ok hvz8) (by decide) rfl ?_
  refine wf_if hF (fun cz9 hF => ?_) (fun cz9 hF => ?_)
  · refine kg_ifF hk_171 rfl (jc_F1 cz9) rfl ?_
    refine kg_push (x := 0) hk_171 rfl (by decide) rfl ?_
    have hF := Option.some.inj hF
    subst hF
    exact kg_iret hk_171 rfl (Or.inl rfl) rfl
  · refine kg_ifT hk_171 rfl (jc_T1 cz9) ?_
    refine kg_aload hk_171 rfl rfl rfl ?_
    refine kg_get (v := .int (vz8.2 1076 48)) hk_171 rfl wk_1076_48 rfl rfl ?_
    refine kg_istore (L2 := [.ref (1076 + 1), .int x1, .int x2, .int x3, u4, .int (vz8.2 1076 48)]) hk_171 rfl (Nat.le_of_ble_eq_true rfl) rfl rfl ?_
    refine kg_aload hk_171 rfl rfl rfl ?_
    refine kg_dup hk_171 rfl rfl rfl ?_
    refine kg_get (v := .int (vz8.2 1076 48)) hk_171 rfl wk_1076_48 rfl rfl ?_
    refine kg_push (x := 1) hk_171 rfl (by decide) rfl ?_
    refine kg_bin (z := ((vz8.2 1076 48) + 1)) hk_171 rfl rfl rfl ?_
    refine wf_let hF (fun hz10 hhz10 hF => ?_)
    refine kg_put hk_171 rfl wk_1076_48 rfl rfl hhz10 rfl ?_
    refine kg_aload hk_171 rfl rfl rfl ?_
    refine kg_get (v := .ref (1112 + 1)) hk_171 rfl wk_1076_49 rfl rfl ?_
    refine kg_iload hk_171 rfl rfl rfl ?_
    refine kg_iload hk_171 rfl rfl rfl ?_
    refine wf_gd hF (fun gz11 hF => ?_)
    refine wf_let hF (fun hz12 hhz12 hF => ?_)
    refine kg_ast hk_171 rfl wc_1112 gz11 hhz12 rfl ?_
    refine kg_aload hk_171 rfl rfl rfl ?_
    refine kg_get (v := .ref (1113 + 1)) hk_171 rfl wk_1076_50 rfl rfl ?_
    refine kg_iload hk_171 rfl rfl rfl ?_
    refine kg_iload hk_171 rfl rfl rfl ?_
    refine wf_gd hF (fun gz13 hF => ?_)
    refine wf_let hF (fun hz14 hhz14 hF => ?_)
    refine kg_ast hk_171 rfl wc_1113 gz13 hhz14 rfl ?_
    refine kg_aload hk_171 rfl rfl rfl ?_
    refine kg_get (v := .ref (1114 + 1)) hk_171 rfl wk_1076_51 rfl rfl ?_
    refine kg_iload hk_171 rfl rfl rfl ?_
    refine kg_iload hk_171 rfl rfl rfl ?_
    refine wf_gd hF (fun gz15 hF => ?_)
    refine wf_let hF (fun hz16 hhz16 hF => ?_)
    refine kg_ast hk_171 rfl wc_1114 gz15 hhz16 rfl ?_
    refine kg_aload hk_171 rfl rfl rfl ?_
    refine kg_get (v := .ref (1115 + 1)) hk_171 rfl wk_1076_52 rfl rfl ?_
    refine kg_iload hk_171 rfl rfl rfl ?_
    refine kg_iload hk_171 rfl rfl rfl ?_
    refine wf_gd hF (fun gz17 hF => ?_)
    refine wf_let hF (fun hz18 hhz18 hF => ?_)
    refine kg_ast hk_171 rfl wc_1115 gz17 hhz18 rfl ?_
    refine kg_aload hk_171 rfl rfl rfl ?_
    refine kg_push (x := 0) hk_171 rfl (by decide) rfl ?_
    refine wf_let hF (fun hz19 hhz19 hF => ?_)
    refine kg_put hk_171 rfl wk_1076_45 rfl (w_fitB rfl) hhz19 rfl ?_
    refine kg_aload hk_171 rfl rfl rfl ?_
    refine wf_bind hF (fun vz20 hvz20 hF => ?_)
    refine kg_call (as := [.ref (1076 + 1)]) (rest := []) hk_171 rfl (Or.inr (Or.inr (Or.inr ⟨Or.inl rfl, _, _, rfl, wc_1076⟩))) rfl rfl rfl (Nat.not_lt.mpr (Nat.le_of_ble_eq_true rfl)) (p_192_ok hvz20) (by decide) rfl ?_
    refine kg_iload hk_171 rfl rfl rfl ?_
    have hF := Option.some.inj hF
    subst hF
    exact kg_iret hk_171 rfl (Or.inl rfl) rfl
def q_171_29 (h : Hp) (x1 : Int32) (x2 : Int32) (x3 : Int32) (s0 : Int32) : Option (Int32 × Hp) :=
  q_171_30 h x1 x2 x3 0 s0
theorem q_171_29_ok {X : List Int32}   {h : Hp} {s0 : Int32} {x1 : Int32} {x2 : Int32} {x3 : Int32}  {r : Int32 × Hp} (hF : q_171_29 h x1 x2 x3 s0 = some r)  : ∀ (u4 : Value) (u5 : Value), k_Go X 14 171 (29, [.ref (1076 + 1), .int x1, .int x2, .int x3, u4, u5], [.int s0, .ref (1076 + 1)]) h (.inl (some (.int r.1)), r.2) := by
  intro u4 u5
  unfold q_171_29 at hF
  refine kg_push (x := 0) hk_171 rfl (by decide) rfl ?_
  exact q_171_30_ok hF _ _
def q_171_15 (h : Hp) (x1 : Int32) (x2 : Int32) (x3 : Int32) (s0 : Int32) : Option (Int32 × Hp) :=
  if (h 1076 48) < 4 then
    ((p_170 h x1).bind fun vz6 =>
    q_171_30 h x1 x2 x3 (if vz6 = (-1) then 1 else 0 : Int32) s0)
  else
    (q_171_29 h x1 x2 x3 s0)
theorem q_171_15_ok {X : List Int32}   {h : Hp} {s0 : Int32} {x1 : Int32} {x2 : Int32} {x3 : Int32}  {r : Int32 × Hp} (hF : q_171_15 h x1 x2 x3 s0 = some r)  : ∀ (u4 : Value) (u5 : Value), k_Go X 14 171 (15, [.ref (1076 + 1), .int x1, .int x2, .int x3, u4, u5], [.int s0]) h (.inl (some (.int r.1)), r.2) := by
  intro u4 u5
  unfold q_171_15 at hF
  refine kg_istore (L2 := [.ref (1076 + 1), .int x1, .int x2, .int x3, .int s0, u5]) hk_171 rfl (Nat.le_of_ble_eq_true rfl) rfl rfl ?_
  refine kg_aload hk_171 rfl rfl rfl ?_
  refine kg_iload hk_171 rfl rfl rfl ?_
  refine kg_aload hk_171 rfl rfl rfl ?_
  refine kg_get (v := .int (h 1076 48)) hk_171 rfl wk_1076_48 rfl rfl ?_
  refine kg_push (x := 4) hk_171 rfl (by decide) rfl ?_
  refine wf_if hF (fun cz5 hF => ?_) (fun cz5 hF => ?_)
  · refine kg_icF hk_171 rfl (jc_F3 cz5) rfl ?_
    refine kg_aload hk_171 rfl rfl rfl ?_
    refine kg_iload hk_171 rfl rfl rfl ?_
    refine wf_bind hF (fun vz6 hvz6 hF => ?_)
    refine kg_call (as := [.ref (1076 + 1), .int x1]) (rest := [.int s0, .ref (1076 + 1)]) hk_171 rfl (Or.inr (Or.inr (Or.inr ⟨Or.inl rfl, _, _, rfl, wc_1076⟩))) rfl rfl rfl (Nat.not_lt.mpr (Nat.le_of_ble_eq_true rfl)) (p_170_ok hvz6) (by decide) rfl ?_
    refine kg_push (x := (-1)) hk_171 rfl (by decide) rfl ?_
    refine kv_mid (p := 30) (L := [.ref (1076 + 1), .int x1, .int x2, .int x3, .int s0, u5]) (S := [.int (if vz6 = (-1) then 1 else 0 : Int32), .int s0, .ref (1076 + 1)]) ?_ (fun hK => ?_)
    · exact q_171_30_ok hF _ _
    · by_cases cz7 : vz6 = (-1)
      · have hK := kv_T cz7 hK
        refine kg_icF hk_171 rfl (jc_F1 cz7) rfl ?_
        refine kg_push (x := 1) hk_171 rfl (by decide) rfl ?_
        refine kg_goto hk_171 rfl ?_
        exact hK
      · have hK := kv_F cz7 hK
        refine kg_icT hk_171 rfl (jc_T1 cz7) ?_
        refine kg_push (x := 0) hk_171 rfl (by decide) rfl ?_
        exact hK
  · refine kg_icT hk_171 rfl (jc_T3 cz5) ?_
    exact q_171_29_ok hF _ _
def p_171 (h : Hp) (x1 : Int32) (x2 : Int32) (x3 : Int32) : Option (Int32 × Hp) :=
  q_171_15 h x1 x2 x3 (if (v_148 x1) = 0 then 0 else (if x2 < (-1000) then 0 else (if x2 ≤ x3 then (if x3 ≤ 1000 then 1 else 0 : Int32) else 0 : Int32) : Int32) : Int32)
theorem p_171_ok {X : List Int32}  {h : Hp} {x1 : Int32} {x2 : Int32} {x3 : Int32}  {r : Int32 × Hp} (hF : p_171 h x1 x2 x3 = some r) : k_Ev X 14 171 [.ref (1076 + 1), .int x1, .int x2, .int x3] h (.inl (some (.int r.1)), r.2) := by
  refine k_of hk_171 ?_
  show k_Go X 14 171 (0, [.ref (1076 + 1), .int x1, .int x2, .int x3, (.retAddr 0), (.retAddr 0)], []) h _
  unfold p_171 at hF
  refine kg_iload hk_171 rfl rfl rfl ?_
  refine kg_call (as := [.int x1]) (rest := []) hk_171 rfl (Or.inl rfl) rfl rfl rfl (Nat.not_lt.mpr (Nat.le_of_ble_eq_true rfl)) (v_148_ok) (by decide) rfl ?_
  refine kv_mid (p := 15) (L := [.ref (1076 + 1), .int x1, .int x2, .int x3, (.retAddr 0), (.retAddr 0)]) (S := [.int (if (v_148 x1) = 0 then 0 else (if x2 < (-1000) then 0 else (if x2 ≤ x3 then (if x3 ≤ 1000 then 1 else 0 : Int32) else 0 : Int32) : Int32) : Int32)]) ?_ (fun hK => ?_)
  · exact q_171_15_ok hF _ _
  · by_cases cz1 : (v_148 x1) = 0
    · have hK := kv_T cz1 hK
      refine kg_ifT hk_171 rfl (jc_T0 cz1) ?_
      refine kg_push (x := 0) hk_171 rfl (by decide) rfl ?_
      exact hK
    · have hK := kv_F cz1 hK
      refine kg_ifF hk_171 rfl (jc_F0 cz1) rfl ?_
      refine kg_iload hk_171 rfl rfl rfl ?_
      refine kg_push (x := (-1000)) hk_171 rfl (by decide) rfl ?_
      by_cases cz2 : x2 < (-1000)
      · have hK := kv_T cz2 hK
        refine kg_icT hk_171 rfl (jc_T2 cz2) ?_
        refine kg_push (x := 0) hk_171 rfl (by decide) rfl ?_
        exact hK
      · have hK := kv_F cz2 hK
        refine kg_icF hk_171 rfl (jc_F2 cz2) rfl ?_
        refine kg_iload hk_171 rfl rfl rfl ?_
        refine kg_iload hk_171 rfl rfl rfl ?_
        by_cases cz3 : x2 ≤ x3
        · have hK := kv_T cz3 hK
          refine kg_icF hk_171 rfl (jc_F4 cz3) rfl ?_
          refine kg_iload hk_171 rfl rfl rfl ?_
          refine kg_push (x := 1000) hk_171 rfl (by decide) rfl ?_
          by_cases cz4 : x3 ≤ 1000
          · have hK := kv_T cz4 hK
            refine kg_icF hk_171 rfl (jc_F4 cz4) rfl ?_
            refine kg_push (x := 1) hk_171 rfl (by decide) rfl ?_
            refine kg_goto hk_171 rfl ?_
            exact hK
          · have hK := kv_F cz4 hK
            refine kg_icT hk_171 rfl (jc_T4 cz4) ?_
            refine kg_push (x := 0) hk_171 rfl (by decide) rfl ?_
            exact hK
        · have hK := kv_F cz3 hK
          refine kg_icT hk_171 rfl (jc_T4 cz3) ?_
          refine kg_push (x := 0) hk_171 rfl (by decide) rfl ?_
          exact hK
-- NotebookWeirModel.isWidget(I)Z
theorem hk_172 : jP[172]? = some (jc_172, 2, [], []) := by rfl
def v_172 (h : Hp) (x1 : Int32) : Int32 := (v_147 x1 0 ((h 1076 48) - 1))
theorem v_172_bo (h : Hp) (x1 : Int32) : w_bo (v_172 h x1) = true := by
  unfold v_172
  exact (v_147_bo _ _ _)
theorem v_172_ok {X : List Int32} {h : Hp} {x1 : Int32}  : k_Ev X 1 172 [.ref (1076 + 1), .int x1] h (.inl (some (.int (v_172 h x1))), h) := by
  refine k_of hk_172 ?_
  show k_Go X 1 172 (0, [.ref (1076 + 1), .int x1], []) h _
  generalize hv : v_172 h x1 = z
  unfold v_172 at hv
  refine kg_iload hk_172 rfl rfl rfl ?_
  refine kg_push (x := 0) hk_172 rfl (by decide) rfl ?_
  refine kg_aload hk_172 rfl rfl rfl ?_
  refine kg_get (v := .int (h 1076 48)) hk_172 rfl wk_1076_48 rfl rfl ?_
  refine kg_push (x := 1) hk_172 rfl (by decide) rfl ?_
  refine kg_bin (z := ((h 1076 48) - 1)) hk_172 rfl rfl rfl ?_
  refine kg_call (as := [.int x1, .int 0, .int ((h 1076 48) - 1)]) (rest := []) hk_172 rfl (Or.inl rfl) rfl rfl rfl (Nat.not_lt.mpr (Nat.le_of_ble_eq_true rfl)) (v_147_ok) (by decide) rfl ?_
  exact kg_iret hk_172 rfl (Or.inr (v_147_bo _ _ _)) (by rw [hv])
-- NotebookWeirModel.bind(II)Z
theorem hk_173 : jP[173]? = some (jc_173, 4, [], []) := by rfl
def q_173_35 (h : Hp) (x1 : Int32) (x2 : Int32) (s0 : Int32) : Option (Int32 × Hp) :=
  w_gd (w_ix ((4 * x1) + x2) 16) <|
  w_let (w_up h 1118 (((4 * x1) + x2).toNatClampNeg) (j_nar 52 s0)) fun hz9 =>
  w_gd (w_ix ((4 * x2) + x1) 16) <|
  w_let (w_up hz9 1118 (((4 * x2) + x1).toNatClampNeg) (j_nar 52 s0)) fun hz11 =>
  w_gd (w_bo s0) <|
  some (s0, hz11)
theorem q_173_35_ok {X : List Int32}   {h : Hp} {s0 : Int32} {x1 : Int32} {x2 : Int32}  {r : Int32 × Hp} (hF : q_173_35 h x1 x2 s0 = some r)  : ∀ (u3 : Value), k_Go X 2 173 (35, [.ref (1076 + 1), .int x1, .int x2, u3], [.int s0]) h (.inl (some (.int r.1)), r.2) := by
  intro u3
  unfold q_173_35 at hF
  refine kg_istore (L2 := [.ref (1076 + 1), .int x1, .int x2, .int s0]) hk_173 rfl (Nat.le_of_ble_eq_true rfl) rfl rfl ?_
  refine kg_aload hk_173 rfl rfl rfl ?_
  refine kg_get (v := .ref (1118 + 1)) hk_173 rfl wk_1076_55 rfl rfl ?_
  refine kg_push (x := 4) hk_173 rfl (by decide) rfl ?_
  refine kg_iload hk_173 rfl rfl rfl ?_
  refine kg_bin (z := (4 * x1)) hk_173 rfl rfl rfl ?_
  refine kg_iload hk_173 rfl rfl rfl ?_
  refine kg_bin (z := ((4 * x1) + x2)) hk_173 rfl rfl rfl ?_
  refine kg_iload hk_173 rfl rfl rfl ?_
  refine wf_gd hF (fun gz8 hF => ?_)
  refine wf_let hF (fun hz9 hhz9 hF => ?_)
  refine kg_ast hk_173 rfl wc_1118 gz8 hhz9 rfl ?_
  refine kg_aload hk_173 rfl rfl rfl ?_
  refine kg_get (v := .ref (1118 + 1)) hk_173 rfl wk_1076_55 rfl rfl ?_
  refine kg_push (x := 4) hk_173 rfl (by decide) rfl ?_
  refine kg_iload hk_173 rfl rfl rfl ?_
  refine kg_bin (z := (4 * x2)) hk_173 rfl rfl rfl ?_
  refine kg_iload hk_173 rfl rfl rfl ?_
  refine kg_bin (z := ((4 * x2) + x1)) hk_173 rfl rfl rfl ?_
  refine kg_iload hk_173 rfl rfl rfl ?_
  refine wf_gd hF (fun gz10 hF => ?_)
  refine wf_let hF (fun hz11 hhz11 hF => ?_)
  refine kg_ast hk_173 rfl wc_1118 gz10 hhz11 rfl ?_
  refine kg_iload hk_173 rfl rfl rfl ?_
  refine wf_gd hF (fun gz12 hF => ?_)
  have hF := Option.some.inj hF
  subst hF
  exact kg_iret hk_173 rfl (Or.inr gz12) rfl
def q_173_18 (h : Hp) (x1 : Int32) (x2 : Int32) (s0 : Int32) (s1 : Int32) : Option (Int32 × Hp) :=
  (p_146 h s1 s0 1).bind fun vz4 =>
  if vz4.1 = 0 then
    (some (0, vz4.2))
  else
    (w_gd (w_ix ((4 * x1) + x2) 16) <|
    q_173_35 vz4.2 x1 x2 (if (vz4.2 1118 ((4 * x1) + x2).toNatClampNeg) = 0 then 1 else 0 : Int32))
theorem q_173_18_ok {X : List Int32}   {h : Hp} {s0 : Int32} {s1 : Int32} {x1 : Int32} {x2 : Int32}  {r : Int32 × Hp} (hF : q_173_18 h x1 x2 s0 s1 = some r)  : ∀ (u3 : Value), k_Go X 2 173 (18, [.ref (1076 + 1), .int x1, .int x2, u3], [.int s0, .int s1, .ref (1076 + 1)]) h (.inl (some (.int r.1)), r.2) := by
  intro u3
  unfold q_173_18 at hF
  refine kg_push (x := 1) hk_173 rfl (by decide) rfl ?_
  refine wf_bind hF (fun vz4 hvz4 hF => ?_)
  refine kg_call (as := [.ref (1076 + 1), .int s1, .int s0, .int 1]) (rest := []) hk_173 rfl (Or.inr (Or.inr (Or.inr ⟨Or.inl rfl, _, _, rfl, wc_1076⟩))) rfl rfl rfl (Nat.not_lt.mpr (Nat.le_of_ble_eq_true rfl)) (p_146_ok hvz4) (by decide) rfl ?_
  refine wf_if hF (fun cz5 hF => ?_) (fun cz5 hF => ?_)
  · refine kg_ifF hk_173 rfl (jc_F1 cz5) rfl ?_
    refine kg_push (x := 0) hk_173 rfl (by decide) rfl ?_
    have hF := Option.some.inj hF
    subst hF
    exact kg_iret hk_173 rfl (Or.inr rfl) rfl
  · refine kg_ifT hk_173 rfl (jc_T1 cz5) ?_
    refine kg_aload hk_173 rfl rfl rfl ?_
    refine kg_get (v := .ref (1118 + 1)) hk_173 rfl wk_1076_55 rfl rfl ?_
    refine kg_push (x := 4) hk_173 rfl (by decide) rfl ?_
    refine kg_iload hk_173 rfl rfl rfl ?_
    refine kg_bin (z := (4 * x1)) hk_173 rfl rfl rfl ?_
    refine kg_iload hk_173 rfl rfl rfl ?_
    refine kg_bin (z := ((4 * x1) + x2)) hk_173 rfl rfl rfl ?_
    refine wf_gd hF (fun gz6 hF => ?_)
    refine kg_ald (y := (vz4.2 1118 ((4 * x1) + x2).toNatClampNeg)) hk_173 rfl wc_1118 gz6 rfl rfl ?_
    refine kv_mid (p := 35) (L := [.ref (1076 + 1), .int x1, .int x2, u3]) (S := [.int (if (vz4.2 1118 ((4 * x1) + x2).toNatClampNeg) = 0 then 1 else 0 : Int32)]) ?_ (fun hK => ?_)
    · exact q_173_35_ok hF _
    · by_cases cz7 : (vz4.2 1118 ((4 * x1) + x2).toNatClampNeg) = 0
      · have hK := kv_T cz7 hK
        refine kg_ifF hk_173 rfl (jc_F1 cz7) rfl ?_
        refine kg_push (x := 1) hk_173 rfl (by decide) rfl ?_
        refine kg_goto hk_173 rfl ?_
        exact hK
      · have hK := kv_F cz7 hK
        refine kg_ifT hk_173 rfl (jc_T1 cz7) ?_
        refine kg_push (x := 0) hk_173 rfl (by decide) rfl ?_
        exact hK
def q_173_12 (h : Hp) (x1 : Int32) (x2 : Int32) (s0 : Int32) : Option (Int32 × Hp) :=
  q_173_18 h x1 x2 (if x1 = x2 then 0 else 1 : Int32) s0
theorem q_173_12_ok {X : List Int32}   {h : Hp} {s0 : Int32} {x1 : Int32} {x2 : Int32}  {r : Int32 × Hp} (hF : q_173_12 h x1 x2 s0 = some r)  : ∀ (u3 : Value), k_Go X 2 173 (12, [.ref (1076 + 1), .int x1, .int x2, u3], [.int s0, .ref (1076 + 1)]) h (.inl (some (.int r.1)), r.2) := by
  intro u3
  unfold q_173_12 at hF
  refine kg_iload hk_173 rfl rfl rfl ?_
  refine kg_iload hk_173 rfl rfl rfl ?_
  refine kv_mid (p := 18) (L := [.ref (1076 + 1), .int x1, .int x2, u3]) (S := [.int (if x1 = x2 then 0 else 1 : Int32), .int s0, .ref (1076 + 1)]) ?_ (fun hK => ?_)
  · exact q_173_18_ok hF _
  · by_cases cz3 : x1 = x2
    · have hK := kv_T cz3 hK
      refine kg_icT hk_173 rfl (jc_T0 cz3) ?_
      refine kg_push (x := 0) hk_173 rfl (by decide) rfl ?_
      exact hK
    · have hK := kv_F cz3 hK
      refine kg_icF hk_173 rfl (jc_F0 cz3) rfl ?_
      refine kg_push (x := 1) hk_173 rfl (by decide) rfl ?_
      refine kg_goto hk_173 rfl ?_
      exact hK
def p_173 (h : Hp) (x1 : Int32) (x2 : Int32) : Option (Int32 × Hp) :=
  q_173_12 h x1 x2 (if (v_172 h x1) = 0 then 0 else (if (v_172 h x2) = 0 then 0 else 1 : Int32) : Int32)
theorem p_173_ok {X : List Int32}  {h : Hp} {x1 : Int32} {x2 : Int32}  {r : Int32 × Hp} (hF : p_173 h x1 x2 = some r) : k_Ev X 2 173 [.ref (1076 + 1), .int x1, .int x2] h (.inl (some (.int r.1)), r.2) := by
  refine k_of hk_173 ?_
  show k_Go X 2 173 (0, [.ref (1076 + 1), .int x1, .int x2, (.retAddr 0)], []) h _
  unfold p_173 at hF
  refine kg_aload hk_173 rfl rfl rfl ?_
  refine kg_aload hk_173 rfl rfl rfl ?_
  refine kg_iload hk_173 rfl rfl rfl ?_
  refine kg_call (as := [.ref (1076 + 1), .int x1]) (rest := [.ref (1076 + 1)]) hk_173 rfl (Or.inr (Or.inr (Or.inr ⟨Or.inl rfl, _, _, rfl, wc_1076⟩))) rfl rfl rfl (Nat.not_lt.mpr (Nat.le_of_ble_eq_true rfl)) (v_172_ok) (by decide) rfl ?_
  refine kv_mid (p := 12) (L := [.ref (1076 + 1), .int x1, .int x2, (.retAddr 0)]) (S := [.int (if (v_172 h x1) = 0 then 0 else (if (v_172 h x2) = 0 then 0 else 1 : Int32) : Int32), .ref (1076 + 1)]) ?_ (fun hK => ?_)
  · exact q_173_12_ok hF _
  · by_cases cz1 : (v_172 h x1) = 0
    · have hK := kv_T cz1 hK
      refine kg_ifT hk_173 rfl (jc_T0 cz1) ?_
      refine kg_push (x := 0) hk_173 rfl (by decide) rfl ?_
      exact hK
    · have hK := kv_F cz1 hK
      refine kg_ifF hk_173 rfl (jc_F0 cz1) rfl ?_
      refine kg_aload hk_173 rfl rfl rfl ?_
      refine kg_iload hk_173 rfl rfl rfl ?_
      refine kg_call (as := [.ref (1076 + 1), .int x2]) (rest := [.ref (1076 + 1)]) hk_173 rfl (Or.inr (Or.inr (Or.inr ⟨Or.inl rfl, _, _, rfl, wc_1076⟩))) rfl rfl rfl (Nat.not_lt.mpr (Nat.le_of_ble_eq_true rfl)) (v_172_ok) (by decide) rfl ?_
      by_cases cz2 : (v_172 h x2) = 0
      · have hK := kv_T cz2 hK
        refine kg_ifT hk_173 rfl (jc_T0 cz2) ?_
        refine kg_push (x := 0) hk_173 rfl (by decide) rfl ?_
        exact hK
      · have hK := kv_F cz2 hK
        refine kg_ifF hk_173 rfl (jc_F0 cz2) rfl ?_
        refine kg_push (x := 1) hk_173 rfl (by decide) rfl ?_
        refine kg_goto hk_173 rfl ?_
        exact hK
-- NotebookWeirModel.turn(II)I
theorem hk_174 : jP[174]? = some (jc_174, 4, [], []) := by rfl
def q_174_22 (h : Hp) (x1 : Int32) (x2 : Int32) (s0 : Int32) (s1 : Int32) : Option (Int32 × Hp) :=
  (p_146 h s1 s0 1).bind fun vz6 =>
  if vz6.1 = 0 then
    (some (0, vz6.2))
  else
    (w_gd (w_ix x1 4) <|
    w_let (w_up vz6.2 1116 x1.toNatClampNeg x2) fun hz9 =>
    w_gd (w_ix x1 4) <|
    w_let (w_up hz9 1117 x1.toNatClampNeg (j_nar 52 1)) fun hz11 =>
    w_let (w_up hz11 1076 45 0) fun hz12 =>
    w_gd (w_ix x1 4) <|
    some ((hz12 1115 x1.toNatClampNeg), hz12))
theorem q_174_22_ok {X : List Int32}   {h : Hp} {s0 : Int32} {s1 : Int32} {x1 : Int32} {x2 : Int32}  {r : Int32 × Hp} (hF : q_174_22 h x1 x2 s0 s1 = some r)  : ∀ (u3 : Value), k_Go X 2 174 (22, [.ref (1076 + 1), .int x1, .int x2, u3], [.int s0, .int s1, .ref (1076 + 1)]) h (.inl (some (.int r.1)), r.2) := by
  intro u3
  unfold q_174_22 at hF
  refine kg_push (x := 1) hk_174 rfl (by decide) rfl ?_
  refine wf_bind hF (fun vz6 hvz6 hF => ?_)
  refine kg_call (as := [.ref (1076 + 1), .int s1, .int s0, .int 1]) (rest := []) hk_174 rfl (Or.inr (Or.inr (Or.inr ⟨Or.inl rfl, _, _, rfl, wc_1076⟩))) rfl rfl rfl (Nat.not_lt.mpr (Nat.le_of_ble_eq_true rfl)) (p_146_ok hvz6) (by decide) rfl ?_
  refine wf_if hF (fun cz7 hF => ?_) (fun cz7 hF => ?_)
  · refine kg_ifF hk_174 rfl (jc_F1 cz7) rfl ?_
    refine kg_push (x := 0) hk_174 rfl (by decide) rfl ?_
    have hF := Option.some.inj hF
    subst hF
    exact kg_iret hk_174 rfl (Or.inl rfl) rfl
  · refine kg_ifT hk_174 rfl (jc_T1 cz7) ?_
    refine kg_aload hk_174 rfl rfl rfl ?_
    refine kg_get (v := .ref (1116 + 1)) hk_174 rfl wk_1076_53 rfl rfl ?_
    refine kg_iload hk_174 rfl rfl rfl ?_
    refine kg_iload hk_174 rfl rfl rfl ?_
    refine wf_gd hF (fun gz8 hF => ?_)
    refine wf_let hF (fun hz9 hhz9 hF => ?_)
    refine kg_ast hk_174 rfl wc_1116 gz8 hhz9 rfl ?_
    refine kg_aload hk_174 rfl rfl rfl ?_
    refine kg_get (v := .ref (1117 + 1)) hk_174 rfl wk_1076_54 rfl rfl ?_
    refine kg_iload hk_174 rfl rfl rfl ?_
    refine kg_push (x := 1) hk_174 rfl (by decide) rfl ?_
    refine wf_gd hF (fun gz10 hF => ?_)
    refine wf_let hF (fun hz11 hhz11 hF => ?_)
    refine kg_ast hk_174 rfl wc_1117 gz10 hhz11 rfl ?_
    refine kg_aload hk_174 rfl rfl rfl ?_
    refine kg_push (x := 0) hk_174 rfl (by decide) rfl ?_
    refine wf_let hF (fun hz12 hhz12 hF => ?_)
    refine kg_put hk_174 rfl wk_1076_45 rfl (w_fitB rfl) hhz12 rfl ?_
    refine kg_aload hk_174 rfl rfl rfl ?_
    refine kg_get (v := .ref (1115 + 1)) hk_174 rfl wk_1076_52 rfl rfl ?_
    refine kg_iload hk_174 rfl rfl rfl ?_
    refine wf_gd hF (fun gz13 hF => ?_)
    refine kg_ald (y := (hz12 1115 x1.toNatClampNeg)) hk_174 rfl wc_1115 gz13 rfl rfl ?_
    have hF := Option.some.inj hF
    subst hF
    exact kg_iret hk_174 rfl (Or.inl rfl) rfl
def p_174 (h : Hp) (x1 : Int32) (x2 : Int32) : Option (Int32 × Hp) :=
  w_gd ((if (v_172 h x1) = 0 then true else (w_ix x1 4) && (w_ix x1 4))) <|
  q_174_22 h x1 x2 (if (v_172 h x1) = 0 then 0 else (if (v_147 x2 (h 1113 x1.toNatClampNeg) (h 1114 x1.toNatClampNeg)) = 0 then 0 else 1 : Int32) : Int32) (v_172 h x1)
theorem p_174_ok {X : List Int32}  {h : Hp} {x1 : Int32} {x2 : Int32}  {r : Int32 × Hp} (hF : p_174 h x1 x2 = some r) : k_Ev X 2 174 [.ref (1076 + 1), .int x1, .int x2] h (.inl (some (.int r.1)), r.2) := by
  refine k_of hk_174 ?_
  show k_Go X 2 174 (0, [.ref (1076 + 1), .int x1, .int x2, (.retAddr 0)], []) h _
  unfold p_174 at hF
  refine kg_aload hk_174 rfl rfl rfl ?_
  refine kg_iload hk_174 rfl rfl rfl ?_
  refine kg_call (as := [.ref (1076 + 1), .int x1]) (rest := []) hk_174 rfl (Or.inr (Or.inr (Or.inr ⟨Or.inl rfl, _, _, rfl, wc_1076⟩))) rfl rfl rfl (Nat.not_lt.mpr (Nat.le_of_ble_eq_true rfl)) (v_172_ok) (by decide) rfl ?_
  refine kg_istore (L2 := [.ref (1076 + 1), .int x1, .int x2, .int (v_172 h x1)]) hk_174 rfl (Nat.le_of_ble_eq_true rfl) rfl rfl ?_
  refine kg_aload hk_174 rfl rfl rfl ?_
  refine kg_iload hk_174 rfl rfl rfl ?_
  refine kg_iload hk_174 rfl rfl rfl ?_
  refine wf_gd hF (fun gz5 hF => ?_)
  refine kv_mid (p := 22) (L := [.ref (1076 + 1), .int x1, .int x2, .int (v_172 h x1)]) (S := [.int (if (v_172 h x1) = 0 then 0 else (if (v_147 x2 (h 1113 x1.toNatClampNeg) (h 1114 x1.toNatClampNeg)) = 0 then 0 else 1 : Int32) : Int32), .int (v_172 h x1), .ref (1076 + 1)]) ?_ (fun hK => ?_)
  · exact q_174_22_ok hF _
  · have hg := gz5
    by_cases cz1 : (v_172 h x1) = 0
    · have hK := kv_T cz1 hK
      refine kg_ifT hk_174 rfl (jc_T0 cz1) ?_
      refine kg_push (x := 0) hk_174 rfl (by decide) rfl ?_
      exact hK
    · have hg := wv_F cz1 hg
      have hK := kv_F cz1 hK
      have gz2 := wb_1 hg
      have hg := wb_2 hg
      have gz3 := hg
      refine kg_ifF hk_174 rfl (jc_F0 cz1) rfl ?_
      refine kg_iload hk_174 rfl rfl rfl ?_
      refine kg_aload hk_174 rfl rfl rfl ?_
      refine kg_get (v := .ref (1113 + 1)) hk_174 rfl wk_1076_50 rfl rfl ?_
      refine kg_iload hk_174 rfl rfl rfl ?_
      refine kg_ald (y := (h 1113 x1.toNatClampNeg)) hk_174 rfl wc_1113 gz2 rfl rfl ?_
      refine kg_aload hk_174 rfl rfl rfl ?_
      refine kg_get (v := .ref (1114 + 1)) hk_174 rfl wk_1076_51 rfl rfl ?_
      refine kg_iload hk_174 rfl rfl rfl ?_
      refine kg_ald (y := (h 1114 x1.toNatClampNeg)) hk_174 rfl wc_1114 gz3 rfl rfl ?_
      refine kg_call (as := [.int x2, .int (h 1113 x1.toNatClampNeg), .int (h 1114 x1.toNatClampNeg)]) (rest := [.int (v_172 h x1), .ref (1076 + 1)]) hk_174 rfl (Or.inl rfl) rfl rfl rfl (Nat.not_lt.mpr (Nat.le_of_ble_eq_true rfl)) (v_147_ok) (by decide) rfl ?_
      by_cases cz4 : (v_147 x2 (h 1113 x1.toNatClampNeg) (h 1114 x1.toNatClampNeg)) = 0
      · have hK := kv_T cz4 hK
        refine kg_ifT hk_174 rfl (jc_T0 cz4) ?_
        refine kg_push (x := 0) hk_174 rfl (by decide) rfl ?_
        exact hK
      · have hK := kv_F cz4 hK
        refine kg_ifF hk_174 rfl (jc_F0 cz4) rfl ?_
        refine kg_push (x := 1) hk_174 rfl (by decide) rfl ?_
        refine kg_goto hk_174 rfl ?_
        exact hK
-- NotebookWeirModel.held(II)I
theorem hk_175 : jP[175]? = some (jc_175, 3, [], []) := by rfl
def v_175 (h : Hp) (x1 : Int32) (x2 : Int32) : Int32 := (if x2 < (h 1113 x1.toNatClampNeg) then (h 1113 x1.toNatClampNeg) else (if x2 ≤ (h 1114 x1.toNatClampNeg) then x2 else (h 1114 x1.toNatClampNeg) : Int32) : Int32)
def g_175 (h : Hp) (x1 : Int32) (x2 : Int32) : Bool := (w_ix x1 4) && ((if x2 < (h 1113 x1.toNatClampNeg) then w_ix x1 4 else (w_ix x1 4) && ((if x2 ≤ (h 1114 x1.toNatClampNeg) then true else w_ix x1 4))))
theorem v_175_ok {X : List Int32} {h : Hp} {x1 : Int32} {x2 : Int32}  (hg : g_175 h x1 x2 = true) : k_Ev X 0 175 [.ref (1076 + 1), .int x1, .int x2] h (.inl (some (.int (v_175 h x1 x2))), h) := by
  refine k_of hk_175 ?_
  show k_Go X 0 175 (0, [.ref (1076 + 1), .int x1, .int x2], []) h _
  generalize hv : v_175 h x1 x2 = z
  unfold v_175 at hv
  unfold g_175 at hg
  have gz1 := wb_1 hg
  have hg := wb_2 hg
  have gz7 := hg
  refine kg_iload hk_175 rfl rfl rfl ?_
  refine kg_aload hk_175 rfl rfl rfl ?_
  refine kg_get (v := .ref (1113 + 1)) hk_175 rfl wk_1076_50 rfl rfl ?_
  refine kg_iload hk_175 rfl rfl rfl ?_
  refine kg_ald (y := (h 1113 x1.toNatClampNeg)) hk_175 rfl wc_1113 gz1 rfl rfl ?_
  refine kv_mid (p := 23) (L := [.ref (1076 + 1), .int x1, .int x2]) (S := [.int (if x2 < (h 1113 x1.toNatClampNeg) then (h 1113 x1.toNatClampNeg) else (if x2 ≤ (h 1114 x1.toNatClampNeg) then x2 else (h 1114 x1.toNatClampNeg) : Int32) : Int32)]) ?_ (fun hK => ?_)
  · exact kg_iret hk_175 rfl (Or.inl rfl) (by rw [hv])
  · have hg := gz7
    by_cases cz2 : x2 < (h 1113 x1.toNatClampNeg)
    · have hg := wv_T cz2 hg
      have hK := kv_T cz2 hK
      have gz3 := hg
      refine kg_icF hk_175 rfl (jc_F3 cz2) rfl ?_
      refine kg_aload hk_175 rfl rfl rfl ?_
      refine kg_get (v := .ref (1113 + 1)) hk_175 rfl wk_1076_50 rfl rfl ?_
      refine kg_iload hk_175 rfl rfl rfl ?_
      refine kg_ald (y := (h 1113 x1.toNatClampNeg)) hk_175 rfl wc_1113 gz3 rfl rfl ?_
      refine kg_goto hk_175 rfl ?_
      exact hK
    · have hg := wv_F cz2 hg
      have hK := kv_F cz2 hK
      have gz4 := wb_1 hg
      have hg := wb_2 hg
      refine kg_icT hk_175 rfl (jc_T3 cz2) ?_
      refine kg_iload hk_175 rfl rfl rfl ?_
      refine kg_aload hk_175 rfl rfl rfl ?_
      refine kg_get (v := .ref (1114 + 1)) hk_175 rfl wk_1076_51 rfl rfl ?_
      refine kg_iload hk_175 rfl rfl rfl ?_
      refine kg_ald (y := (h 1114 x1.toNatClampNeg)) hk_175 rfl wc_1114 gz4 rfl rfl ?_
      by_cases cz5 : x2 ≤ (h 1114 x1.toNatClampNeg)
      · have hK := kv_T cz5 hK
        refine kg_icT hk_175 rfl (jc_T5 cz5) ?_
        refine kg_iload hk_175 rfl rfl rfl ?_
        exact hK
      · have hg := wv_F cz5 hg
        have hK := kv_F cz5 hK
        have gz6 := hg
        refine kg_icF hk_175 rfl (jc_F5 cz5) rfl ?_
        refine kg_aload hk_175 rfl rfl rfl ?_
        refine kg_get (v := .ref (1114 + 1)) hk_175 rfl wk_1076_51 rfl rfl ?_
        refine kg_iload hk_175 rfl rfl rfl ?_
        refine kg_ald (y := (h 1114 x1.toNatClampNeg)) hk_175 rfl wc_1114 gz6 rfl rfl ?_
        refine kg_goto hk_175 rfl ?_
        exact hK
-- NotebookWeirModel.spreads(I)V
theorem hk_176 : jP[176]? = some (jc_176, 7, [], []) := by rfl
def l_176_12 (x1 : Int32) (x2 : Int32) (x3 : Int32) (x4 : Int32) (h : Hp) : Option ((Int32 × Int32 × Int32 × Hp) ⊕ Int32 × Int32 × Hp) :=
  if x4 < 16 then
    (if ((x2 >>> ((x4 / 4) &&& 31)) &&& 1) = 1 then
      (w_gd (w_ix x4 16) <|
      if (h 1118 x4.toNatClampNeg) = 0 then
        (some (.inl (x2, x3, (x4 + 1), h)))
      else
        (w_gd (w_ix (x4 - x4 / 4 * 4) 4) <|
        if (h 1119 (x4 - x4 / 4 * 4).toNatClampNeg) = 0 then
          (w_gd (w_ix x1 4) <|
          w_gd (g_175 h (x4 - x4 / 4 * 4) (h 1116 x1.toNatClampNeg)) <|
          w_gd (w_ix (x4 - x4 / 4 * 4) 4) <|
          w_let (w_up h 1115 ((x4 - x4 / 4 * 4).toNatClampNeg) (v_175 h (x4 - x4 / 4 * 4) (h 1116 x1.toNatClampNeg))) fun hz11 =>
          w_gd (w_ix (x4 - x4 / 4 * 4) 4) <|
          w_let (w_up hz11 1119 ((x4 - x4 / 4 * 4).toNatClampNeg) (j_nar 52 1)) fun hz13 =>
          some (.inl ((x2 ||| (1 <<< ((x4 - x4 / 4 * 4) &&& 31))), 1, (x4 + 1), hz13)))
        else
          (some (.inl (x2, x3, (x4 + 1), h)))))
    else
      (some (.inl (x2, x3, (x4 + 1), h))))
  else
    (some (.inr (x2, x3, h)))
theorem l_176_12_st {X : List Int32} {o : kO}  {h : Hp} {x1 : Int32} {x2 : Int32} {x3 : Int32} {x4 : Int32}  {r : (Int32 × Int32 × Int32 × Hp) ⊕ Int32 × Int32 × Hp} (hF : l_176_12 x1 x2 x3 x4 h = some r) (hK : ∀ s' : Int32 × Int32 × Int32 × Hp, r = .inl s' → ∀ (u5 : Value) (u6 : Value), k_Go X 1 176 (12, [.ref (1076 + 1), .int x1, .int (s'.1), .int (s'.2.1), .int (s'.2.2.1), u5, u6], []) s'.2.2.2 o) (hX0 : ∀ e : Int32 × Int32 × Hp, r = .inr e → ∀ (u4 : Value) (u5 : Value) (u6 : Value), k_Go X 1 176 (66, [.ref (1076 + 1), .int x1, .int e.1, .int e.2.1, u4, u5, u6], []) e.2.2 o) : ∀ (u5 : Value) (u6 : Value), k_Go X 1 176 (12, [.ref (1076 + 1), .int x1, .int x2, .int x3, .int x4, u5, u6], []) h o := by
  intro u5 u6
  refine kg_iload hk_176 rfl rfl rfl ?_
  refine kg_push (x := 16) hk_176 rfl (by decide) rfl ?_
  refine wf_if hF (fun cz2 hF => ?_) (fun cz2 hF => ?_)
  · refine kg_icF hk_176 rfl (jc_F3 cz2) rfl ?_
    refine kg_iload hk_176 rfl rfl rfl ?_
    refine kg_push (x := 4) hk_176 rfl (by decide) rfl ?_
    refine kg_bin (z := (x4 / 4)) hk_176 rfl (j_div (by decide)) rfl ?_
    refine kg_istore (L2 := [.ref (1076 + 1), .int x1, .int x2, .int x3, .int x4, .int (x4 / 4), u6]) hk_176 rfl (Nat.le_of_ble_eq_true rfl) rfl rfl ?_
    refine kg_iload hk_176 rfl rfl rfl ?_
    refine kg_push (x := 4) hk_176 rfl (by decide) rfl ?_
    refine kg_bin (z := (x4 - x4 / 4 * 4)) hk_176 rfl (j_rem (by decide)) rfl ?_
    refine kg_istore (L2 := [.ref (1076 + 1), .int x1, .int x2, .int x3, .int x4, .int (x4 / 4), .int (x4 - x4 / 4 * 4)]) hk_176 rfl (Nat.le_of_ble_eq_true rfl) rfl rfl ?_
    refine kg_iload hk_176 rfl rfl rfl ?_
    refine kg_iload hk_176 rfl rfl rfl ?_
    refine kg_bin (z := (x2 >>> ((x4 / 4) &&& 31))) hk_176 rfl rfl rfl ?_
    refine kg_push (x := 1) hk_176 rfl (by decide) rfl ?_
    refine kg_bin (z := ((x2 >>> ((x4 / 4) &&& 31)) &&& 1)) hk_176 rfl rfl rfl ?_
    refine kg_push (x := 1) hk_176 rfl (by decide) rfl ?_
    refine wf_if hF (fun cz3 hF => ?_) (fun cz3 hF => ?_)
    · refine kg_icF hk_176 rfl (jc_F1 cz3) rfl ?_
      refine kg_aload hk_176 rfl rfl rfl ?_
      refine kg_get (v := .ref (1118 + 1)) hk_176 rfl wk_1076_55 rfl rfl ?_
      refine kg_iload hk_176 rfl rfl rfl ?_
      refine wf_gd hF (fun gz4 hF => ?_)
      refine kg_ald (y := (h 1118 x4.toNatClampNeg)) hk_176 rfl wc_1118 gz4 rfl rfl ?_
      refine wf_if hF (fun cz5 hF => ?_) (fun cz5 hF => ?_)
      · refine kg_ifT hk_176 rfl (jc_T0 cz5) ?_
        refine kg_iinc (y := (x4 + 1)) (L2 := [.ref (1076 + 1), .int x1, .int x2, .int x3, .int (x4 + 1), .int (x4 / 4), .int (x4 - x4 / 4 * 4)]) hk_176 rfl rfl rfl rfl rfl ?_
        refine kg_goto hk_176 rfl ?_
        have hF := Option.some.inj hF
        exact hK _ hF.symm _ _
      · refine kg_ifF hk_176 rfl (jc_F0 cz5) rfl ?_
        refine kg_aload hk_176 rfl rfl rfl ?_
        refine kg_get (v := .ref (1119 + 1)) hk_176 rfl wk_1076_56 rfl rfl ?_
        refine kg_iload hk_176 rfl rfl rfl ?_
        refine wf_gd hF (fun gz6 hF => ?_)
        refine kg_ald (y := (h 1119 (x4 - x4 / 4 * 4).toNatClampNeg)) hk_176 rfl wc_1119 gz6 rfl rfl ?_
        refine wf_if hF (fun cz7 hF => ?_) (fun cz7 hF => ?_)
        · refine kg_ifF hk_176 rfl (jc_F1 cz7) rfl ?_
          refine kg_aload hk_176 rfl rfl rfl ?_
          refine kg_get (v := .ref (1115 + 1)) hk_176 rfl wk_1076_52 rfl rfl ?_
          refine kg_iload hk_176 rfl rfl rfl ?_
          refine kg_aload hk_176 rfl rfl rfl ?_
          refine kg_iload hk_176 rfl rfl rfl ?_
          refine kg_aload hk_176 rfl rfl rfl ?_
          refine kg_get (v := .ref (1116 + 1)) hk_176 rfl wk_1076_53 rfl rfl ?_
          refine kg_iload hk_176 rfl rfl rfl ?_
          refine wf_gd hF (fun gz8 hF => ?_)
          refine kg_ald (y := (h 1116 x1.toNatClampNeg)) hk_176 rfl wc_1116 gz8 rfl rfl ?_
          refine wf_gd hF (fun gz9 hF => ?_)
          refine kg_call (as := [.ref (1076 + 1), .int (x4 - x4 / 4 * 4), .int (h 1116 x1.toNatClampNeg)]) (rest := [.int (x4 - x4 / 4 * 4), .ref (1115 + 1)]) hk_176 rfl (Or.inr (Or.inr (Or.inr ⟨Or.inl rfl, _, _, rfl, wc_1076⟩))) rfl rfl rfl (Nat.not_lt.mpr (Nat.le_of_ble_eq_true rfl)) (v_175_ok gz9) (by decide) rfl ?_
          refine wf_gd hF (fun gz10 hF => ?_)
          refine wf_let hF (fun hz11 hhz11 hF => ?_)
          refine kg_ast hk_176 rfl wc_1115 gz10 hhz11 rfl ?_
          refine kg_aload hk_176 rfl rfl rfl ?_
          refine kg_get (v := .ref (1119 + 1)) hk_176 rfl wk_1076_56 rfl rfl ?_
          refine kg_iload hk_176 rfl rfl rfl ?_
          refine kg_push (x := 1) hk_176 rfl (by decide) rfl ?_
          refine wf_gd hF (fun gz12 hF => ?_)
          refine wf_let hF (fun hz13 hhz13 hF => ?_)
          refine kg_ast hk_176 rfl wc_1119 gz12 hhz13 rfl ?_
          refine kg_iload hk_176 rfl rfl rfl ?_
          refine kg_push (x := 1) hk_176 rfl (by decide) rfl ?_
          refine kg_iload hk_176 rfl rfl rfl ?_
          refine kg_bin (z := (1 <<< ((x4 - x4 / 4 * 4) &&& 31))) hk_176 rfl rfl rfl ?_
          refine kg_bin (z := (x2 ||| (1 <<< ((x4 - x4 / 4 * 4) &&& 31)))) hk_176 rfl rfl rfl ?_
          refine kg_istore (L2 := [.ref (1076 + 1), .int x1, .int (x2 ||| (1 <<< ((x4 - x4 / 4 * 4) &&& 31))), .int x3, .int x4, .int (x4 / 4), .int (x4 - x4 / 4 * 4)]) hk_176 rfl (Nat.le_of_ble_eq_true rfl) rfl rfl ?_
          refine kg_push (x := 1) hk_176 rfl (by decide) rfl ?_
          refine kg_istore (L2 := [.ref (1076 + 1), .int x1, .int (x2 ||| (1 <<< ((x4 - x4 / 4 * 4) &&& 31))), .int 1, .int x4, .int (x4 / 4), .int (x4 - x4 / 4 * 4)]) hk_176 rfl (Nat.le_of_ble_eq_true rfl) rfl rfl ?_
          refine kg_iinc (y := (x4 + 1)) (L2 := [.ref (1076 + 1), .int x1, .int (x2 ||| (1 <<< ((x4 - x4 / 4 * 4) &&& 31))), .int 1, .int (x4 + 1), .int (x4 / 4), .int (x4 - x4 / 4 * 4)]) hk_176 rfl rfl rfl rfl rfl ?_
          refine kg_goto hk_176 rfl ?_
          have hF := Option.some.inj hF
          exact hK _ hF.symm _ _
        · refine kg_ifT hk_176 rfl (jc_T1 cz7) ?_
          refine kg_iinc (y := (x4 + 1)) (L2 := [.ref (1076 + 1), .int x1, .int x2, .int x3, .int (x4 + 1), .int (x4 / 4), .int (x4 - x4 / 4 * 4)]) hk_176 rfl rfl rfl rfl rfl ?_
          refine kg_goto hk_176 rfl ?_
          have hF := Option.some.inj hF
          exact hK _ hF.symm _ _
    · refine kg_icT hk_176 rfl (jc_T1 cz3) ?_
      refine kg_iinc (y := (x4 + 1)) (L2 := [.ref (1076 + 1), .int x1, .int x2, .int x3, .int (x4 + 1), .int (x4 / 4), .int (x4 - x4 / 4 * 4)]) hk_176 rfl rfl rfl rfl rfl ?_
      refine kg_goto hk_176 rfl ?_
      have hF := Option.some.inj hF
      exact hK _ hF.symm _ _
  · refine kg_icT hk_176 rfl (jc_T3 cz2) ?_
    have hF := Option.some.inj hF
    exact hX0 _ hF.symm _ _ _
theorem l_176_12_ok {X : List Int32} {o : kO}  {x1 : Int32}  {n : Nat} {s : Int32 × Int32 × Int32 × Hp} {e : Int32 × Int32 × Hp} (hF : w_lp (fun (s : Int32 × Int32 × Int32 × Hp) => l_176_12 x1 s.1 s.2.1 s.2.2.1 s.2.2.2) n s = some e) (hX0 : ∀ (u4 : Value) (u5 : Value) (u6 : Value), k_Go X 1 176 (66, [.ref (1076 + 1), .int x1, .int e.1, .int e.2.1, u4, u5, u6], []) e.2.2 o) : ∀ (u5 : Value) (u6 : Value), k_Go X 1 176 (12, [.ref (1076 + 1), .int x1, .int s.1, .int s.2.1, .int s.2.2.1, u5, u6], []) s.2.2.2 o := by
  exact w_lp_ok (P := (fun (s : Int32 × Int32 × Int32 × Hp) => ∀ (u5 : Value) (u6 : Value), k_Go X 1 176 (12, [.ref (1076 + 1), .int x1, .int s.1, .int s.2.1, .int s.2.2.1, u5, u6], []) s.2.2.2 o)) (Q := (fun (e : Int32 × Int32 × Hp) => (∀ (u4 : Value) (u5 : Value) (u6 : Value), k_Go X 1 176 (66, [.ref (1076 + 1), .int x1, .int e.1, .int e.2.1, u4, u5, u6], []) e.2.2 o))) (fun s r hF hK hX => l_176_12_st hF hK (fun x hx => (hX _ hx))) n s e hF hX0
def l_176_6 (x1 : Int32) (x2 : Int32) (x3 : Int32) (h : Hp) : Option ((Int32 × Int32 × Hp) ⊕ Hp) :=
  if x3 = 0 then
    (some (.inr h))
  else
    ((w_lp (fun (s : Int32 × Int32 × Int32 × Hp) => l_176_12 x1 s.1 s.2.1 s.2.2.1 s.2.2.2) w_N (x2, 0, 0, h)).bind fun ez14 =>
    some (.inl (ez14.1, ez14.2.1, ez14.2.2)))
theorem l_176_6_st {X : List Int32} {o : kO}  {h : Hp} {x1 : Int32} {x2 : Int32} {x3 : Int32}  {r : (Int32 × Int32 × Hp) ⊕ Hp} (hF : l_176_6 x1 x2 x3 h = some r) (hK : ∀ s' : Int32 × Int32 × Hp, r = .inl s' → ∀ (u4 : Value) (u5 : Value) (u6 : Value), k_Go X 1 176 (6, [.ref (1076 + 1), .int x1, .int (s'.1), .int (s'.2.1), u4, u5, u6], []) s'.2.2 o) (hX0 : ∀ e : Hp, r = .inr e → (.inl none, e) = o) : ∀ (u4 : Value) (u5 : Value) (u6 : Value), k_Go X 1 176 (6, [.ref (1076 + 1), .int x1, .int x2, .int x3, u4, u5, u6], []) h o := by
  intro u4 u5 u6
  refine kg_iload hk_176 rfl rfl rfl ?_
  refine wf_if hF (fun cz1 hF => ?_) (fun cz1 hF => ?_)
  · refine kg_ifT hk_176 rfl (jc_T0 cz1) ?_
    have hF := Option.some.inj hF
    exact kg_ret hk_176 rfl (hX0 _ hF.symm)
  · refine kg_ifF hk_176 rfl (jc_F0 cz1) rfl ?_
    refine kg_push (x := 0) hk_176 rfl (by decide) rfl ?_
    refine kg_istore (L2 := [.ref (1076 + 1), .int x1, .int x2, .int 0, u4, u5, u6]) hk_176 rfl (Nat.le_of_ble_eq_true rfl) rfl rfl ?_
    refine kg_push (x := 0) hk_176 rfl (by decide) rfl ?_
    refine kg_istore (L2 := [.ref (1076 + 1), .int x1, .int x2, .int 0, .int 0, u5, u6]) hk_176 rfl (Nat.le_of_ble_eq_true rfl) rfl rfl ?_
    refine wf_bind hF (fun ez14 hez14 hF => ?_)
    refine l_176_12_ok hez14 ?_ _ _
    intro u4 u5 u6
    refine kg_goto hk_176 rfl ?_
    have hF := Option.some.inj hF
    exact hK _ hF.symm _ _ _
theorem l_176_6_ok {X : List Int32} {o : kO}  {x1 : Int32}  {n : Nat} {s : Int32 × Int32 × Hp} {e : Hp} (hF : w_lp (fun (s : Int32 × Int32 × Hp) => l_176_6 x1 s.1 s.2.1 s.2.2) n s = some e) (hX0 : (.inl none, e) = o) : ∀ (u4 : Value) (u5 : Value) (u6 : Value), k_Go X 1 176 (6, [.ref (1076 + 1), .int x1, .int s.1, .int s.2.1, u4, u5, u6], []) s.2.2 o := by
  exact w_lp_ok (P := (fun (s : Int32 × Int32 × Hp) => ∀ (u4 : Value) (u5 : Value) (u6 : Value), k_Go X 1 176 (6, [.ref (1076 + 1), .int x1, .int s.1, .int s.2.1, u4, u5, u6], []) s.2.2 o)) (Q := (fun (e : Hp) => ((.inl none, e) = o))) (fun s r hF hK hX => l_176_6_st hF hK (fun x hx => (hX _ hx))) n s e hF hX0
def p_176 (h : Hp) (x1 : Int32) : Option (Hp) :=
  w_lp (fun (s : Int32 × Int32 × Hp) => l_176_6 x1 s.1 s.2.1 s.2.2) w_N ((1 <<< (x1 &&& 31)), 1, h)
theorem p_176_ok {X : List Int32}  {h : Hp} {x1 : Int32}  {r : Hp} (hF : p_176 h x1 = some r) : k_Ev X 1 176 [.ref (1076 + 1), .int x1] h (.inl none, r) := by
  refine k_of hk_176 ?_
  show k_Go X 1 176 (0, [.ref (1076 + 1), .int x1, (.retAddr 0), (.retAddr 0), (.retAddr 0), (.retAddr 0), (.retAddr 0)], []) h _
  unfold p_176 at hF
  refine kg_push (x := 1) hk_176 rfl (by decide) rfl ?_
  refine kg_iload hk_176 rfl rfl rfl ?_
  refine kg_bin (z := (1 <<< (x1 &&& 31))) hk_176 rfl rfl rfl ?_
  refine kg_istore (L2 := [.ref (1076 + 1), .int x1, .int (1 <<< (x1 &&& 31)), (.retAddr 0), (.retAddr 0), (.retAddr 0), (.retAddr 0)]) hk_176 rfl (Nat.le_of_ble_eq_true rfl) rfl rfl ?_
  refine kg_push (x := 1) hk_176 rfl (by decide) rfl ?_
  refine kg_istore (L2 := [.ref (1076 + 1), .int x1, .int (1 <<< (x1 &&& 31)), .int 1, (.retAddr 0), (.retAddr 0), (.retAddr 0)]) hk_176 rfl (Nat.le_of_ble_eq_true rfl) rfl rfl ?_
  exact l_176_6_ok hF rfl _ _ _
