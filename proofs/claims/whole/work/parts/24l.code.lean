/-! ===== the methods as functions over the flat heap, and that the interpreter does what they say (printed by wip/whole/dec.py) ===== -/
-- NotebookWeirModel.keepsRun(I)V
theorem hk_222 : jP[222]? = some (jc_222, 4, [], []) := by rfl
def l_222_21 (x1 : Int32) (x2 : Int32) (h : Hp) : Option ((Int32 × Hp) ⊕ Hp) :=
  if x2 < (((4 * x1) + 4) - 1) then
    ((p_221 h 1101 (40 * (x2 + 1)) (40 * x2) 40).bind fun v8 =>
    w_gd (w_ix (x2 + 1) 64) <|
    w_gd (w_ix x2 64) <|
    w_let (w_up v8 1102 x2.toNatClampNeg (v8 1102 (x2 + 1).toNatClampNeg)) fun h11 =>
    (p_221 h11 1103 (234 * (x2 + 1)) (234 * x2) 234).bind fun v12 =>
    (p_221 v12 1104 (234 * (x2 + 1)) (234 * x2) 234).bind fun v13 =>
    (p_221 v13 1105 (9 * (x2 + 1)) (9 * x2) 9).bind fun v14 =>
    some (.inl ((x2 + 1), v14)))
  else
    (some (.inr h))
theorem l_222_21_st {X : List Int32} {o : kO}  {h : Hp} {x1 : Int32} {x2 : Int32}  {r : (Int32 × Hp) ⊕ Hp} (hF : l_222_21 x1 x2 h = some r) (hK : ∀ s' : Int32 × Hp, r = .inl s' → ∀ (u3 : Value), k_Go X 7 222 (21, [.ref (1076 + 1), .int x1, .int (s'.1), u3], []) s'.2 o) (hX0 : ∀ e : Hp, r = .inr e → ∀ (u2 : Value) (u3 : Value), k_Go X 7 222 (90, [.ref (1076 + 1), .int x1, u2, u3], []) e o) : ∀ (u3 : Value), k_Go X 7 222 (21, [.ref (1076 + 1), .int x1, .int x2, u3], []) h o := by
  intro u3
  refine kg_iload hk_222 rfl rfl rfl ?_
  refine kg_push (x := 4) hk_222 rfl (by decide) rfl ?_
  refine kg_iload hk_222 rfl rfl rfl ?_
  refine kg_bin (z := (4 * x1)) hk_222 rfl rfl rfl ?_
  refine kg_push (x := 4) hk_222 rfl (by decide) rfl ?_
  refine kg_bin (z := ((4 * x1) + 4)) hk_222 rfl rfl rfl ?_
  refine kg_push (x := 1) hk_222 rfl (by decide) rfl ?_
  refine kg_bin (z := (((4 * x1) + 4) - 1)) hk_222 rfl rfl rfl ?_
  refine wf_if hF (fun c7 hF => ?_) (fun c7 hF => ?_)
  · refine kg_icF hk_222 rfl (jc_F3 c7) rfl ?_
    refine kg_aload hk_222 rfl rfl rfl ?_
    refine kg_get (v := .ref (1101 + 1)) hk_222 rfl wk_1076_34 rfl rfl ?_
    refine kg_push (x := 40) hk_222 rfl (by decide) rfl ?_
    refine kg_iload hk_222 rfl rfl rfl ?_
    refine kg_push (x := 1) hk_222 rfl (by decide) rfl ?_
    refine kg_bin (z := (x2 + 1)) hk_222 rfl rfl rfl ?_
    refine kg_bin (z := (40 * (x2 + 1))) hk_222 rfl rfl rfl ?_
    refine kg_push (x := 40) hk_222 rfl (by decide) rfl ?_
    refine kg_iload hk_222 rfl rfl rfl ?_
    refine kg_bin (z := (40 * x2)) hk_222 rfl rfl rfl ?_
    refine kg_push (x := 40) hk_222 rfl (by decide) rfl ?_
    refine wf_bind hF (fun v8 hv8 hF => ?_)
    refine kg_call (as := [.ref (1101 + 1), .int (40 * (x2 + 1)), .int (40 * x2), .int 40]) (rest := []) hk_222 rfl (Or.inl rfl) rfl rfl rfl (Nat.not_lt.mpr (Nat.le_of_ble_eq_true rfl)) (p_221_ok wc_1101 hv8) (by decide) rfl ?_
    refine kg_aload hk_222 rfl rfl rfl ?_
    refine kg_get (v := .ref (1102 + 1)) hk_222 rfl wk_1076_35 rfl rfl ?_
    refine kg_iload hk_222 rfl rfl rfl ?_
    refine kg_aload hk_222 rfl rfl rfl ?_
    refine kg_get (v := .ref (1102 + 1)) hk_222 rfl wk_1076_35 rfl rfl ?_
    refine kg_iload hk_222 rfl rfl rfl ?_
    refine kg_push (x := 1) hk_222 rfl (by decide) rfl ?_
    refine kg_bin (z := (x2 + 1)) hk_222 rfl rfl rfl ?_
    refine wf_gd hF (fun g9 hF => ?_)
    refine kg_ald (y := (v8 1102 (x2 + 1).toNatClampNeg)) hk_222 rfl wc_1102 g9 rfl rfl ?_
    refine wf_gd hF (fun g10 hF => ?_)
    refine wf_let hF (fun h11 hh11 hF => ?_)
    refine kg_ast hk_222 rfl wc_1102 g10 (by rw [j_nar50]; exact hh11) rfl ?_
    refine kg_aload hk_222 rfl rfl rfl ?_
    refine kg_get (v := .ref (1103 + 1)) hk_222 rfl wk_1076_36 rfl rfl ?_
    refine kg_push (x := 234) hk_222 rfl (by decide) rfl ?_
    refine kg_iload hk_222 rfl rfl rfl ?_
    refine kg_push (x := 1) hk_222 rfl (by decide) rfl ?_
    refine kg_bin (z := (x2 + 1)) hk_222 rfl rfl rfl ?_
    refine kg_bin (z := (234 * (x2 + 1))) hk_222 rfl rfl rfl ?_
    refine kg_push (x := 234) hk_222 rfl (by decide) rfl ?_
    refine kg_iload hk_222 rfl rfl rfl ?_
    refine kg_bin (z := (234 * x2)) hk_222 rfl rfl rfl ?_
    refine kg_push (x := 234) hk_222 rfl (by decide) rfl ?_
    refine wf_bind hF (fun v12 hv12 hF => ?_)
    refine kg_call (as := [.ref (1103 + 1), .int (234 * (x2 + 1)), .int (234 * x2), .int 234]) (rest := []) hk_222 rfl (Or.inl rfl) rfl rfl rfl (Nat.not_lt.mpr (Nat.le_of_ble_eq_true rfl)) (p_221_ok wc_1103 hv12) (by decide) rfl ?_
    refine kg_aload hk_222 rfl rfl rfl ?_
    refine kg_get (v := .ref (1104 + 1)) hk_222 rfl wk_1076_37 rfl rfl ?_
    refine kg_push (x := 234) hk_222 rfl (by decide) rfl ?_
    refine kg_iload hk_222 rfl rfl rfl ?_
    refine kg_push (x := 1) hk_222 rfl (by decide) rfl ?_
    refine kg_bin (z := (x2 + 1)) hk_222 rfl rfl rfl ?_
    refine kg_bin (z := (234 * (x2 + 1))) hk_222 rfl rfl rfl ?_
    refine kg_push (x := 234) hk_222 rfl (by decide) rfl ?_
    refine kg_iload hk_222 rfl rfl rfl ?_
    refine kg_bin (z := (234 * x2)) hk_222 rfl rfl rfl ?_
    refine kg_push (x := 234) hk_222 rfl (by decide) rfl ?_
    refine wf_bind hF (fun v13 hv13 hF => ?_)
    refine kg_call (as := [.ref (1104 + 1), .int (234 * (x2 + 1)), .int (234 * x2), .int 234]) (rest := []) hk_222 rfl (Or.inl rfl) rfl rfl rfl (Nat.not_lt.mpr (Nat.le_of_ble_eq_true rfl)) (p_221_ok wc_1104 hv13) (by decide) rfl ?_
    refine kg_aload hk_222 rfl rfl rfl ?_
    refine kg_get (v := .ref (1105 + 1)) hk_222 rfl wk_1076_38 rfl rfl ?_
    refine kg_push (x := 9) hk_222 rfl (by decide) rfl ?_
    refine kg_iload hk_222 rfl rfl rfl ?_
    refine kg_push (x := 1) hk_222 rfl (by decide) rfl ?_
    refine kg_bin (z := (x2 + 1)) hk_222 rfl rfl rfl ?_
    refine kg_bin (z := (9 * (x2 + 1))) hk_222 rfl rfl rfl ?_
    refine kg_push (x := 9) hk_222 rfl (by decide) rfl ?_
    refine kg_iload hk_222 rfl rfl rfl ?_
    refine kg_bin (z := (9 * x2)) hk_222 rfl rfl rfl ?_
    refine kg_push (x := 9) hk_222 rfl (by decide) rfl ?_
    refine wf_bind hF (fun v14 hv14 hF => ?_)
    refine kg_call (as := [.ref (1105 + 1), .int (9 * (x2 + 1)), .int (9 * x2), .int 9]) (rest := []) hk_222 rfl (Or.inl rfl) rfl rfl rfl (Nat.not_lt.mpr (Nat.le_of_ble_eq_true rfl)) (p_221_ok wc_1105 hv14) (by decide) rfl ?_
    refine kg_iinc (y := (x2 + 1)) (L2 := [.ref (1076 + 1), .int x1, .int (x2 + 1), u3]) hk_222 rfl rfl rfl rfl rfl ?_
    refine kg_goto hk_222 rfl ?_
    have hF := Option.some.inj hF
    exact hK _ hF.symm _
  · refine kg_icT hk_222 rfl (jc_T3 c7) ?_
    have hF := Option.some.inj hF
    exact hX0 _ hF.symm _ _
theorem l_222_21_ok {X : List Int32} {o : kO}  {x1 : Int32}  {n : Nat} {s : Int32 × Hp} {e : Hp} (hF : w_lp (fun (s : Int32 × Hp) => l_222_21 x1 s.1 s.2) n s = some e) (hX0 : ∀ (u2 : Value) (u3 : Value), k_Go X 7 222 (90, [.ref (1076 + 1), .int x1, u2, u3], []) e o) : ∀ (u3 : Value), k_Go X 7 222 (21, [.ref (1076 + 1), .int x1, .int s.1, u3], []) s.2 o := by
  exact w_lp_ok (P := (fun (s : Int32 × Hp) => ∀ (u3 : Value), k_Go X 7 222 (21, [.ref (1076 + 1), .int x1, .int s.1, u3], []) s.2 o)) (Q := (fun (e : Hp) => (∀ (u2 : Value) (u3 : Value), k_Go X 7 222 (90, [.ref (1076 + 1), .int x1, u2, u3], []) e o))) (fun s r hF hK hX => l_222_21_st hF hK (fun x hx => (hX _ hx))) n s e hF hX0
def l_222_141 (x1 : Int32) (x2 : Int32) (x3 : Int32) (h : Hp) : Option ((Int32 × Hp) ⊕ Hp) :=
  if x3 < 234 then
    (w_gd (w_ix ((234 * x1) + x3) 3744) <|
    w_gd (w_ix ((234 * x2) + x3) 14976) <|
    w_let (w_up h 1104 (((234 * x2) + x3).toNatClampNeg) (h 1093 ((234 * x1) + x3).toNatClampNeg)) fun h31 =>
    some (.inl ((x3 + 1), h31)))
  else
    (some (.inr h))
theorem l_222_141_st {X : List Int32} {o : kO}  {h : Hp} {x1 : Int32} {x2 : Int32} {x3 : Int32}  {r : (Int32 × Hp) ⊕ Hp} (hF : l_222_141 x1 x2 x3 h = some r) (hK : ∀ s' : Int32 × Hp, r = .inl s' → k_Go X 7 222 (141, [.ref (1076 + 1), .int x1, .int x2, .int (s'.1)], []) s'.2 o) (hX0 : ∀ e : Hp, r = .inr e → ∀ (u3 : Value), k_Go X 7 222 (162, [.ref (1076 + 1), .int x1, .int x2, u3], []) e o) : k_Go X 7 222 (141, [.ref (1076 + 1), .int x1, .int x2, .int x3], []) h o := by
  refine kg_iload hk_222 rfl rfl rfl ?_
  refine kg_push (x := 234) hk_222 rfl (by decide) rfl ?_
  refine wf_if hF (fun c28 hF => ?_) (fun c28 hF => ?_)
  · refine kg_icF hk_222 rfl (jc_F3 c28) rfl ?_
    refine kg_aload hk_222 rfl rfl rfl ?_
    refine kg_get (v := .ref (1104 + 1)) hk_222 rfl wk_1076_37 rfl rfl ?_
    refine kg_push (x := 234) hk_222 rfl (by decide) rfl ?_
    refine kg_iload hk_222 rfl rfl rfl ?_
    refine kg_bin (z := (234 * x2)) hk_222 rfl rfl rfl ?_
    refine kg_iload hk_222 rfl rfl rfl ?_
    refine kg_bin (z := ((234 * x2) + x3)) hk_222 rfl rfl rfl ?_
    refine kg_aload hk_222 rfl rfl rfl ?_
    refine kg_get (v := .ref (1093 + 1)) hk_222 rfl wk_1076_17 rfl rfl ?_
    refine kg_push (x := 234) hk_222 rfl (by decide) rfl ?_
    refine kg_iload hk_222 rfl rfl rfl ?_
    refine kg_bin (z := (234 * x1)) hk_222 rfl rfl rfl ?_
    refine kg_iload hk_222 rfl rfl rfl ?_
    refine kg_bin (z := ((234 * x1) + x3)) hk_222 rfl rfl rfl ?_
    refine wf_gd hF (fun g29 hF => ?_)
    refine kg_ald (y := (h 1093 ((234 * x1) + x3).toNatClampNeg)) hk_222 rfl wc_1093 g29 rfl rfl ?_
    refine wf_gd hF (fun g30 hF => ?_)
    refine wf_let hF (fun h31 hh31 hF => ?_)
    refine kg_ast hk_222 rfl wc_1104 g30 (by rw [j_nar50]; exact hh31) rfl ?_
    refine kg_iinc (y := (x3 + 1)) (L2 := [.ref (1076 + 1), .int x1, .int x2, .int (x3 + 1)]) hk_222 rfl rfl rfl rfl rfl ?_
    refine kg_goto hk_222 rfl ?_
    have hF := Option.some.inj hF
    exact hK _ hF.symm
  · refine kg_icT hk_222 rfl (jc_T3 c28) ?_
    have hF := Option.some.inj hF
    exact hX0 _ hF.symm _
theorem l_222_141_ok {X : List Int32} {o : kO}  {x1 : Int32} {x2 : Int32}  {n : Nat} {s : Int32 × Hp} {e : Hp} (hF : w_lp (fun (s : Int32 × Hp) => l_222_141 x1 x2 s.1 s.2) n s = some e) (hX0 : ∀ (u3 : Value), k_Go X 7 222 (162, [.ref (1076 + 1), .int x1, .int x2, u3], []) e o) : k_Go X 7 222 (141, [.ref (1076 + 1), .int x1, .int x2, .int s.1], []) s.2 o := by
  exact w_lp_ok (P := (fun (s : Int32 × Hp) => k_Go X 7 222 (141, [.ref (1076 + 1), .int x1, .int x2, .int s.1], []) s.2 o)) (Q := (fun (e : Hp) => (∀ (u3 : Value), k_Go X 7 222 (162, [.ref (1076 + 1), .int x1, .int x2, u3], []) e o))) (fun s r hF hK hX => l_222_141_st hF hK (fun x hx => (hX _ hx))) n s e hF hX0
def q_222_98 (h : Hp) (x1 : Int32) : Option (Hp) :=
  w_gd (w_ix x1 16) <|
  w_gd (w_ix x1 16) <|
  w_gd (w_ix x1 16) <|
  w_let (w_up h 1100 x1.toNatClampNeg ((h 1100 x1.toNatClampNeg) + 1)) fun h22 =>
  (p_215 h22 x1 1101 (40 * ((4 * x1) + (h 1100 x1.toNatClampNeg)))).bind fun v23 =>
  w_gd (w_ix x1 16) <|
  w_gd (w_ix ((4 * x1) + (h 1100 x1.toNatClampNeg)) 64) <|
  w_let (w_up v23 1102 (((4 * x1) + (h 1100 x1.toNatClampNeg)).toNatClampNeg) (v23 1080 x1.toNatClampNeg)) fun h26 =>
  (p_219 h26 x1 1103 (234 * ((4 * x1) + (h 1100 x1.toNatClampNeg)))).bind fun v27 =>
  (w_lp (fun (s : Int32 × Hp) => l_222_141 x1 ((4 * x1) + (h 1100 x1.toNatClampNeg)) s.1 s.2) w_N (0, v27)).bind fun e32 =>
  (p_193 e32 1094 (9 * x1) 1105 (9 * ((4 * x1) + (h 1100 x1.toNatClampNeg)))).bind fun v33 =>
  some v33
theorem q_222_98_ok {X : List Int32}   {h : Hp} {x1 : Int32}  {r : Hp} (hF : q_222_98 h x1 = some r)  : ∀ (u2 : Value) (u3 : Value), k_Go X 7 222 (98, [.ref (1076 + 1), .int x1, u2, u3], []) h (.inl none, r) := by
  intro u2 u3
  unfold q_222_98 at hF
  refine kg_push (x := 4) hk_222 rfl (by decide) rfl ?_
  refine kg_iload hk_222 rfl rfl rfl ?_
  refine kg_bin (z := (4 * x1)) hk_222 rfl rfl rfl ?_
  refine kg_aload hk_222 rfl rfl rfl ?_
  refine kg_get (v := .ref (1100 + 1)) hk_222 rfl wk_1076_33 rfl rfl ?_
  refine kg_iload hk_222 rfl rfl rfl ?_
  refine wf_gd hF (fun g19 hF => ?_)
  refine kg_ald (y := (h 1100 x1.toNatClampNeg)) hk_222 rfl wc_1100 g19 rfl rfl ?_
  refine kg_bin (z := ((4 * x1) + (h 1100 x1.toNatClampNeg))) hk_222 rfl rfl rfl ?_
  refine kg_istore (L2 := [.ref (1076 + 1), .int x1, .int ((4 * x1) + (h 1100 x1.toNatClampNeg)), u3]) hk_222 rfl (Nat.le_of_ble_eq_true rfl) rfl rfl ?_
  refine kg_aload hk_222 rfl rfl rfl ?_
  refine kg_get (v := .ref (1100 + 1)) hk_222 rfl wk_1076_33 rfl rfl ?_
  refine kg_iload hk_222 rfl rfl rfl ?_
  refine kg_dup2 hk_222 rfl ⟨rfl, rfl⟩ rfl ?_
  refine wf_gd hF (fun g20 hF => ?_)
  refine kg_ald (y := (h 1100 x1.toNatClampNeg)) hk_222 rfl wc_1100 g20 rfl rfl ?_
  refine kg_push (x := 1) hk_222 rfl (by decide) rfl ?_
  refine kg_bin (z := ((h 1100 x1.toNatClampNeg) + 1)) hk_222 rfl rfl rfl ?_
  refine wf_gd hF (fun g21 hF => ?_)
  refine wf_let hF (fun h22 hh22 hF => ?_)
  refine kg_ast hk_222 rfl wc_1100 g21 (by rw [j_nar50]; exact hh22) rfl ?_
  refine kg_aload hk_222 rfl rfl rfl ?_
  refine kg_iload hk_222 rfl rfl rfl ?_
  refine kg_aload hk_222 rfl rfl rfl ?_
  refine kg_get (v := .ref (1101 + 1)) hk_222 rfl wk_1076_34 rfl rfl ?_
  refine kg_push (x := 40) hk_222 rfl (by decide) rfl ?_
  refine kg_iload hk_222 rfl rfl rfl ?_
  refine kg_bin (z := (40 * ((4 * x1) + (h 1100 x1.toNatClampNeg)))) hk_222 rfl rfl rfl ?_
  refine wf_bind hF (fun v23 hv23 hF => ?_)
  refine kg_call (as := [.ref (1076 + 1), .int x1, .ref (1101 + 1), .int (40 * ((4 * x1) + (h 1100 x1.toNatClampNeg)))]) (rest := []) hk_222 rfl (Or.inr (Or.inr (Or.inr ⟨Or.inl rfl, _, _, rfl, wc_1076⟩))) rfl rfl rfl (Nat.not_lt.mpr (Nat.le_of_ble_eq_true rfl)) (p_215_ok wc_1101 hv23) (by decide) rfl ?_
  refine kg_aload hk_222 rfl rfl rfl ?_
  refine kg_get (v := .ref (1102 + 1)) hk_222 rfl wk_1076_35 rfl rfl ?_
  refine kg_iload hk_222 rfl rfl rfl ?_
  refine kg_aload hk_222 rfl rfl rfl ?_
  refine kg_get (v := .ref (1080 + 1)) hk_222 rfl wk_1076_4 rfl rfl ?_
  refine kg_iload hk_222 rfl rfl rfl ?_
  refine wf_gd hF (fun g24 hF => ?_)
  refine kg_ald (y := (v23 1080 x1.toNatClampNeg)) hk_222 rfl wc_1080 g24 rfl rfl ?_
  refine wf_gd hF (fun g25 hF => ?_)
  refine wf_let hF (fun h26 hh26 hF => ?_)
  refine kg_ast hk_222 rfl wc_1102 g25 (by rw [j_nar50]; exact hh26) rfl ?_
  refine kg_aload hk_222 rfl rfl rfl ?_
  refine kg_iload hk_222 rfl rfl rfl ?_
  refine kg_aload hk_222 rfl rfl rfl ?_
  refine kg_get (v := .ref (1103 + 1)) hk_222 rfl wk_1076_36 rfl rfl ?_
  refine kg_push (x := 234) hk_222 rfl (by decide) rfl ?_
  refine kg_iload hk_222 rfl rfl rfl ?_
  refine kg_bin (z := (234 * ((4 * x1) + (h 1100 x1.toNatClampNeg)))) hk_222 rfl rfl rfl ?_
  refine wf_bind hF (fun v27 hv27 hF => ?_)
  refine kg_call (as := [.ref (1076 + 1), .int x1, .ref (1103 + 1), .int (234 * ((4 * x1) + (h 1100 x1.toNatClampNeg)))]) (rest := []) hk_222 rfl (Or.inr (Or.inr (Or.inr ⟨Or.inl rfl, _, _, rfl, wc_1076⟩))) rfl rfl rfl (Nat.not_lt.mpr (Nat.le_of_ble_eq_true rfl)) (p_219_ok wc_1103 hv27) (by decide) rfl ?_
  refine kg_push (x := 0) hk_222 rfl (by decide) rfl ?_
  refine kg_istore (L2 := [.ref (1076 + 1), .int x1, .int ((4 * x1) + (h 1100 x1.toNatClampNeg)), .int 0]) hk_222 rfl (Nat.le_of_ble_eq_true rfl) rfl rfl ?_
  refine wf_bind hF (fun e32 he32 hF => ?_)
  refine l_222_141_ok he32 ?_
  intro u3
  refine kg_aload hk_222 rfl rfl rfl ?_
  refine kg_aload hk_222 rfl rfl rfl ?_
  refine kg_get (v := .ref (1094 + 1)) hk_222 rfl wk_1076_18 rfl rfl ?_
  refine kg_push (x := 9) hk_222 rfl (by decide) rfl ?_
  refine kg_iload hk_222 rfl rfl rfl ?_
  refine kg_bin (z := (9 * x1)) hk_222 rfl rfl rfl ?_
  refine kg_aload hk_222 rfl rfl rfl ?_
  refine kg_get (v := .ref (1105 + 1)) hk_222 rfl wk_1076_38 rfl rfl ?_
  refine kg_push (x := 9) hk_222 rfl (by decide) rfl ?_
  refine kg_iload hk_222 rfl rfl rfl ?_
  refine kg_bin (z := (9 * ((4 * x1) + (h 1100 x1.toNatClampNeg)))) hk_222 rfl rfl rfl ?_
  refine wf_bind hF (fun v33 hv33 hF => ?_)
  refine kg_call (as := [.ref (1076 + 1), .ref (1094 + 1), .int (9 * x1), .ref (1105 + 1), .int (9 * ((4 * x1) + (h 1100 x1.toNatClampNeg)))]) (rest := []) hk_222 rfl (Or.inr (Or.inr (Or.inr ⟨Or.inl rfl, _, _, rfl, wc_1076⟩))) rfl rfl rfl (Nat.not_lt.mpr (Nat.le_of_ble_eq_true rfl)) (p_193_ok wc_1094 wc_1105 hv33) (by decide) rfl ?_
  have hF := Option.some.inj hF
  subst hF
  exact kg_ret hk_222 rfl rfl
def p_222 (h : Hp) (x1 : Int32) : Option (Hp) :=
  w_gd (w_ix x1 16) <|
  if (h 1086 x1.toNatClampNeg) = 0 then
    ((p_220 h x1).bind fun v3 =>
    if v3.1 = (-1) then
      (w_gd (w_ix x1 16) <|
      if (v3.2 1100 x1.toNatClampNeg) = 4 then
        ((w_lp (fun (s : Int32 × Hp) => l_222_21 x1 s.1 s.2) w_N ((4 * x1), v3.2)).bind fun e15 =>
        w_gd (w_ix x1 16) <|
        w_gd (w_ix x1 16) <|
        w_let (w_up e15 1100 x1.toNatClampNeg ((e15 1100 x1.toNatClampNeg) - 1)) fun h18 =>
        q_222_98 h18 x1)
      else
        (q_222_98 v3.2 x1))
    else
      (some v3.2))
  else
    (some h)
theorem p_222_ok {X : List Int32}  {h : Hp} {x1 : Int32}  {r : Hp} (hF : p_222 h x1 = some r) : k_Ev X 7 222 [.ref (1076 + 1), .int x1] h (.inl none, r) := by
  refine k_of hk_222 ?_
  show k_Go X 7 222 (0, [.ref (1076 + 1), .int x1, (.retAddr 0), (.retAddr 0)], []) h _
  unfold p_222 at hF
  refine kg_aload hk_222 rfl rfl rfl ?_
  refine kg_get (v := .ref (1086 + 1)) hk_222 rfl wk_1076_10 rfl rfl ?_
  refine kg_iload hk_222 rfl rfl rfl ?_
  refine wf_gd hF (fun g1 hF => ?_)
  refine kg_ald (y := (h 1086 x1.toNatClampNeg)) hk_222 rfl wc_1086 g1 rfl rfl ?_
  refine wf_if hF (fun c2 hF => ?_) (fun c2 hF => ?_)
  · refine kg_ifF hk_222 rfl (jc_F1 c2) rfl ?_
    refine kg_aload hk_222 rfl rfl rfl ?_
    refine kg_iload hk_222 rfl rfl rfl ?_
    refine wf_bind hF (fun v3 hv3 hF => ?_)
    refine kg_call (as := [.ref (1076 + 1), .int x1]) (rest := []) hk_222 rfl (Or.inr (Or.inr (Or.inr ⟨Or.inl rfl, _, _, rfl, wc_1076⟩))) rfl rfl rfl (Nat.not_lt.mpr (Nat.le_of_ble_eq_true rfl)) (p_220_ok hv3) (by decide) rfl ?_
    refine kg_push (x := (-1)) hk_222 rfl (by decide) rfl ?_
    refine wf_if hF (fun c4 hF => ?_) (fun c4 hF => ?_)
    · refine kg_icT hk_222 rfl (jc_T0 c4) ?_
      refine kg_aload hk_222 rfl rfl rfl ?_
      refine kg_get (v := .ref (1100 + 1)) hk_222 rfl wk_1076_33 rfl rfl ?_
      refine kg_iload hk_222 rfl rfl rfl ?_
      refine wf_gd hF (fun g5 hF => ?_)
      refine kg_ald (y := (v3.2 1100 x1.toNatClampNeg)) hk_222 rfl wc_1100 g5 rfl rfl ?_
      refine kg_push (x := 4) hk_222 rfl (by decide) rfl ?_
      refine wf_if hF (fun c6 hF => ?_) (fun c6 hF => ?_)
      · refine kg_icF hk_222 rfl (jc_F1 c6) rfl ?_
        refine kg_push (x := 4) hk_222 rfl (by decide) rfl ?_
        refine kg_iload hk_222 rfl rfl rfl ?_
        refine kg_bin (z := (4 * x1)) hk_222 rfl rfl rfl ?_
        refine kg_istore (L2 := [.ref (1076 + 1), .int x1, .int (4 * x1), (.retAddr 0)]) hk_222 rfl (Nat.le_of_ble_eq_true rfl) rfl rfl ?_
        refine wf_bind hF (fun e15 he15 hF => ?_)
        refine l_222_21_ok he15 ?_ _
        intro u2 u3
        refine kg_aload hk_222 rfl rfl rfl ?_
        refine kg_get (v := .ref (1100 + 1)) hk_222 rfl wk_1076_33 rfl rfl ?_
        refine kg_iload hk_222 rfl rfl rfl ?_
        refine kg_dup2 hk_222 rfl ⟨rfl, rfl⟩ rfl ?_
        refine wf_gd hF (fun g16 hF => ?_)
        refine kg_ald (y := (e15 1100 x1.toNatClampNeg)) hk_222 rfl wc_1100 g16 rfl rfl ?_
        refine kg_push (x := 1) hk_222 rfl (by decide) rfl ?_
        refine kg_bin (z := ((e15 1100 x1.toNatClampNeg) - 1)) hk_222 rfl rfl rfl ?_
        refine wf_gd hF (fun g17 hF => ?_)
        refine wf_let hF (fun h18 hh18 hF => ?_)
        refine kg_ast hk_222 rfl wc_1100 g17 (by rw [j_nar50]; exact hh18) rfl ?_
        exact q_222_98_ok hF _ _
      · refine kg_icT hk_222 rfl (jc_T1 c6) ?_
        exact q_222_98_ok hF _ _
    · refine kg_icF hk_222 rfl (jc_F0 c4) rfl ?_
      have hF := Option.some.inj hF
      subst hF
      exact kg_ret hk_222 rfl rfl
  · refine kg_ifT hk_222 rfl (jc_T1 c2) ?_
    have hF := Option.some.inj hF
    subst hF
    exact kg_ret hk_222 rfl rfl
-- NotebookWeirModel.runsOne(II)V
theorem hk_223 : jP[223]? = some (jc_223, 4, [], []) := by rfl
def q_223_59 (h : Hp) (x1 : Int32) (x3 : Int32) (s0 : Int32) (s1 : Int32) : Option (Hp) :=
  (p_217 h s1 s0).bind fun v13 =>
  if x3 = 0 then
    (some v13)
  else
    ((p_222 v13 x1).bind fun v15 =>
    some v15)
theorem q_223_59_ok {X : List Int32}   {h : Hp} {s0 : Int32} {s1 : Int32} {x1 : Int32} {x3 : Int32}  {r : Hp} (hF : q_223_59 h x1 x3 s0 s1 = some r)  : ∀ (u2 : Value), k_Go X 10 223 (59, [.ref (1076 + 1), .int x1, u2, .int x3], [.int s0, .int s1, .ref (1076 + 1)]) h (.inl none, r) := by
  intro u2
  unfold q_223_59 at hF
  refine wf_bind hF (fun v13 hv13 hF => ?_)
  refine kg_call (as := [.ref (1076 + 1), .int s1, .int s0]) (rest := []) hk_223 rfl (Or.inr (Or.inr (Or.inr ⟨Or.inl rfl, _, _, rfl, wc_1076⟩))) rfl rfl rfl (Nat.not_lt.mpr (Nat.le_of_ble_eq_true rfl)) (p_217_ok hv13) (by decide) rfl ?_
  refine kg_iload hk_223 rfl rfl rfl ?_
  refine wf_if hF (fun c14 hF => ?_) (fun c14 hF => ?_)
  · refine kg_ifT hk_223 rfl (jc_T0 c14) ?_
    have hF := Option.some.inj hF
    subst hF
    exact kg_ret hk_223 rfl rfl
  · refine kg_ifF hk_223 rfl (jc_F0 c14) rfl ?_
    refine kg_aload hk_223 rfl rfl rfl ?_
    refine kg_iload hk_223 rfl rfl rfl ?_
    refine wf_bind hF (fun v15 hv15 hF => ?_)
    refine kg_call (as := [.ref (1076 + 1), .int x1]) (rest := []) hk_223 rfl (Or.inr (Or.inr (Or.inr ⟨Or.inl rfl, _, _, rfl, wc_1076⟩))) rfl rfl rfl (Nat.not_lt.mpr (Nat.le_of_ble_eq_true rfl)) (p_222_ok hv15) (by decide) rfl ?_
    have hF := Option.some.inj hF
    subst hF
    exact kg_ret hk_223 rfl rfl
def q_223_45 (h : Hp) (x1 : Int32) (x3 : Int32) (s0 : Int32) (s1 : Int32) : Option (Hp) :=
  w_gd (w_ix s1 16) <|
  w_let (w_up h 1092 s1.toNatClampNeg s0) fun h10 =>
  w_let (w_up h10 1076 20 ((h10 1076 20) + 1)) fun h11 =>
  q_223_59 h11 x1 x3 (if x3 = 0 then 2 else 1) x1
theorem q_223_45_ok {X : List Int32}   {h : Hp} {s0 : Int32} {s1 : Int32} {x1 : Int32} {x3 : Int32}  {r : Hp} (hF : q_223_45 h x1 x3 s0 s1 = some r)  : ∀ (u2 : Value), k_Go X 10 223 (45, [.ref (1076 + 1), .int x1, u2, .int x3], [.int s0, .int s1, .ref (1092 + 1)]) h (.inl none, r) := by
  intro u2
  unfold q_223_45 at hF
  refine wf_gd hF (fun g9 hF => ?_)
  refine wf_let hF (fun h10 hh10 hF => ?_)
  refine kg_ast hk_223 rfl wc_1092 g9 (by rw [j_nar50]; exact hh10) rfl ?_
  refine kg_aload hk_223 rfl rfl rfl ?_
  refine kg_dup hk_223 rfl rfl rfl ?_
  refine kg_get (v := .int (h10 1076 20)) hk_223 rfl wk_1076_20 rfl rfl ?_
  refine kg_push (x := 1) hk_223 rfl (by decide) rfl ?_
  refine kg_bin (z := ((h10 1076 20) + 1)) hk_223 rfl rfl rfl ?_
  refine wf_let hF (fun h11 hh11 hF => ?_)
  refine kg_put hk_223 rfl wk_1076_20 rfl rfl hh11 rfl ?_
  refine kg_aload hk_223 rfl rfl rfl ?_
  refine kg_iload hk_223 rfl rfl rfl ?_
  refine kg_iload hk_223 rfl rfl rfl ?_
  refine kv_mid (p := 59) (L := [.ref (1076 + 1), .int x1, u2, .int x3]) (S := [.int (if x3 = 0 then 2 else 1), .int x1, .ref (1076 + 1)]) ?_ (fun hK => ?_)
  · exact q_223_59_ok hF _
  · by_cases c12 : x3 = 0
    · have hK := kv_T c12 hK
      refine kg_ifT hk_223 rfl (jc_T0 c12) ?_
      refine kg_push (x := 2) hk_223 rfl (by decide) rfl ?_
      exact hK
    · have hK := kv_F c12 hK
      refine kg_ifF hk_223 rfl (jc_F0 c12) rfl ?_
      refine kg_push (x := 1) hk_223 rfl (by decide) rfl ?_
      refine kg_goto hk_223 rfl ?_
      exact hK
def p_223 (h : Hp) (x1 : Int32) (x2 : Int32) : Option (Hp) :=
  (p_216 h x1 x2 1093 1094).bind fun v1 =>
  w_gd (w_ix x1 16) <|
  w_let (w_up v1.2 1096 x1.toNatClampNeg (v1.2 1076 30)) fun h3 =>
  w_gd (w_ix x1 16) <|
  w_gd (w_ix x1 16) <|
  w_let (w_up h3 1098 x1.toNatClampNeg (h3 1080 x1.toNatClampNeg)) fun h6 =>
  (p_215 h6 x1 1097 (40 * x1)).bind fun v7 =>
  q_223_45 v7 x1 v1.1 (if v1.1 = 0 then ((100 * (v7 1076 75)) + (v7 1076 76)) else 0) x1
theorem p_223_ok {X : List Int32}  {h : Hp} {x1 : Int32} {x2 : Int32}  {r : Hp} (hF : p_223 h x1 x2 = some r) : k_Ev X 10 223 [.ref (1076 + 1), .int x1, .int x2] h (.inl none, r) := by
  refine k_of hk_223 ?_
  show k_Go X 10 223 (0, [.ref (1076 + 1), .int x1, .int x2, (.retAddr 0)], []) h _
  unfold p_223 at hF
  refine kg_aload hk_223 rfl rfl rfl ?_
  refine kg_iload hk_223 rfl rfl rfl ?_
  refine kg_iload hk_223 rfl rfl rfl ?_
  refine kg_aload hk_223 rfl rfl rfl ?_
  refine kg_get (v := .ref (1093 + 1)) hk_223 rfl wk_1076_17 rfl rfl ?_
  refine kg_aload hk_223 rfl rfl rfl ?_
  refine kg_get (v := .ref (1094 + 1)) hk_223 rfl wk_1076_18 rfl rfl ?_
  refine wf_bind hF (fun v1 hv1 hF => ?_)
  refine kg_call (as := [.ref (1076 + 1), .int x1, .int x2, .ref (1093 + 1), .ref (1094 + 1)]) (rest := []) hk_223 rfl (Or.inr (Or.inr (Or.inr ⟨Or.inl rfl, _, _, rfl, wc_1076⟩))) rfl rfl rfl (Nat.not_lt.mpr (Nat.le_of_ble_eq_true rfl)) (p_216_ok wc_1093 wc_1094 hv1) (by decide) rfl ?_
  refine kg_istore (L2 := [.ref (1076 + 1), .int x1, .int x2, .int v1.1]) hk_223 rfl (Nat.le_of_ble_eq_true rfl) rfl rfl ?_
  refine kg_aload hk_223 rfl rfl rfl ?_
  refine kg_get (v := .ref (1096 + 1)) hk_223 rfl wk_1076_24 rfl rfl ?_
  refine kg_iload hk_223 rfl rfl rfl ?_
  refine kg_aload hk_223 rfl rfl rfl ?_
  refine kg_get (v := .int (v1.2 1076 30)) hk_223 rfl wk_1076_30 rfl rfl ?_
  refine wf_gd hF (fun g2 hF => ?_)
  refine wf_let hF (fun h3 hh3 hF => ?_)
  refine kg_ast hk_223 rfl wc_1096 g2 (by rw [j_nar50]; exact hh3) rfl ?_
  refine kg_aload hk_223 rfl rfl rfl ?_
  refine kg_get (v := .ref (1098 + 1)) hk_223 rfl wk_1076_26 rfl rfl ?_
  refine kg_iload hk_223 rfl rfl rfl ?_
  refine kg_aload hk_223 rfl rfl rfl ?_
  refine kg_get (v := .ref (1080 + 1)) hk_223 rfl wk_1076_4 rfl rfl ?_
  refine kg_iload hk_223 rfl rfl rfl ?_
  refine wf_gd hF (fun g4 hF => ?_)
  refine kg_ald (y := (h3 1080 x1.toNatClampNeg)) hk_223 rfl wc_1080 g4 rfl rfl ?_
  refine wf_gd hF (fun g5 hF => ?_)
  refine wf_let hF (fun h6 hh6 hF => ?_)
  refine kg_ast hk_223 rfl wc_1098 g5 (by rw [j_nar50]; exact hh6) rfl ?_
  refine kg_aload hk_223 rfl rfl rfl ?_
  refine kg_iload hk_223 rfl rfl rfl ?_
  refine kg_aload hk_223 rfl rfl rfl ?_
  refine kg_get (v := .ref (1097 + 1)) hk_223 rfl wk_1076_25 rfl rfl ?_
  refine kg_push (x := 40) hk_223 rfl (by decide) rfl ?_
  refine kg_iload hk_223 rfl rfl rfl ?_
  refine kg_bin (z := (40 * x1)) hk_223 rfl rfl rfl ?_
  refine wf_bind hF (fun v7 hv7 hF => ?_)
  refine kg_call (as := [.ref (1076 + 1), .int x1, .ref (1097 + 1), .int (40 * x1)]) (rest := []) hk_223 rfl (Or.inr (Or.inr (Or.inr ⟨Or.inl rfl, _, _, rfl, wc_1076⟩))) rfl rfl rfl (Nat.not_lt.mpr (Nat.le_of_ble_eq_true rfl)) (p_215_ok wc_1097 hv7) (by decide) rfl ?_
  refine kg_aload hk_223 rfl rfl rfl ?_
  refine kg_get (v := .ref (1092 + 1)) hk_223 rfl wk_1076_16 rfl rfl ?_
  refine kg_iload hk_223 rfl rfl rfl ?_
  refine kg_iload hk_223 rfl rfl rfl ?_
  refine kv_mid (p := 45) (L := [.ref (1076 + 1), .int x1, .int x2, .int v1.1]) (S := [.int (if v1.1 = 0 then ((100 * (v7 1076 75)) + (v7 1076 76)) else 0), .int x1, .ref (1092 + 1)]) ?_ (fun hK => ?_)
  · exact q_223_45_ok hF _
  · by_cases c8 : v1.1 = 0
    · have hK := kv_T c8 hK
      refine kg_ifT hk_223 rfl (jc_T0 c8) ?_
      refine kg_push (x := 100) hk_223 rfl (by decide) rfl ?_
      refine kg_aload hk_223 rfl rfl rfl ?_
      refine kg_get (v := .int (v7 1076 75)) hk_223 rfl wk_1076_75 rfl rfl ?_
      refine kg_bin (z := (100 * (v7 1076 75))) hk_223 rfl rfl rfl ?_
      refine kg_aload hk_223 rfl rfl rfl ?_
      refine kg_get (v := .int (v7 1076 76)) hk_223 rfl wk_1076_76 rfl rfl ?_
      refine kg_bin (z := ((100 * (v7 1076 75)) + (v7 1076 76))) hk_223 rfl rfl rfl ?_
      exact hK
    · have hK := kv_F c8 hK
      refine kg_ifF hk_223 rfl (jc_F0 c8) rfl ?_
      refine kg_push (x := 0) hk_223 rfl (by decide) rfl ?_
      refine kg_goto hk_223 rfl ?_
      exact hK
-- NotebookWeirModel.does(I)I
theorem hk_224 : jP[224]? = some (jc_224, 4, [], []) := by rfl
def l_224_22 (x1 : Int32) (x2 : Int32) (x3 : Int32) (h : Hp) : Option ((Int32 × Hp) ⊕ Hp) :=
  if x3 < 234 then
    (w_gd (w_ix ((234 * x2) + x3) 14976) <|
    w_gd (w_ix ((234 * x1) + x3) 3744) <|
    w_let (w_up h 1093 (((234 * x1) + x3).toNatClampNeg) (h 1104 ((234 * x2) + x3).toNatClampNeg)) fun h9 =>
    some (.inl ((x3 + 1), h9)))
  else
    (some (.inr h))
theorem l_224_22_st {X : List Int32} {o : kO}  {h : Hp} {x1 : Int32} {x2 : Int32} {x3 : Int32}  {r : (Int32 × Hp) ⊕ Hp} (hF : l_224_22 x1 x2 x3 h = some r) (hK : ∀ s' : Int32 × Hp, r = .inl s' → k_Go X 11 224 (22, [.ref (1076 + 1), .int x1, .int x2, .int (s'.1)], []) s'.2 o) (hX0 : ∀ e : Hp, r = .inr e → ∀ (u3 : Value), k_Go X 11 224 (43, [.ref (1076 + 1), .int x1, .int x2, u3], []) e o) : k_Go X 11 224 (22, [.ref (1076 + 1), .int x1, .int x2, .int x3], []) h o := by
  refine kg_iload hk_224 rfl rfl rfl ?_
  refine kg_push (x := 234) hk_224 rfl (by decide) rfl ?_
  refine wf_if hF (fun c6 hF => ?_) (fun c6 hF => ?_)
  · refine kg_icF hk_224 rfl (jc_F3 c6) rfl ?_
    refine kg_aload hk_224 rfl rfl rfl ?_
    refine kg_get (v := .ref (1093 + 1)) hk_224 rfl wk_1076_17 rfl rfl ?_
    refine kg_push (x := 234) hk_224 rfl (by decide) rfl ?_
    refine kg_iload hk_224 rfl rfl rfl ?_
    refine kg_bin (z := (234 * x1)) hk_224 rfl rfl rfl ?_
    refine kg_iload hk_224 rfl rfl rfl ?_
    refine kg_bin (z := ((234 * x1) + x3)) hk_224 rfl rfl rfl ?_
    refine kg_aload hk_224 rfl rfl rfl ?_
    refine kg_get (v := .ref (1104 + 1)) hk_224 rfl wk_1076_37 rfl rfl ?_
    refine kg_push (x := 234) hk_224 rfl (by decide) rfl ?_
    refine kg_iload hk_224 rfl rfl rfl ?_
    refine kg_bin (z := (234 * x2)) hk_224 rfl rfl rfl ?_
    refine kg_iload hk_224 rfl rfl rfl ?_
    refine kg_bin (z := ((234 * x2) + x3)) hk_224 rfl rfl rfl ?_
    refine wf_gd hF (fun g7 hF => ?_)
    refine kg_ald (y := (h 1104 ((234 * x2) + x3).toNatClampNeg)) hk_224 rfl wc_1104 g7 rfl rfl ?_
    refine wf_gd hF (fun g8 hF => ?_)
    refine wf_let hF (fun h9 hh9 hF => ?_)
    refine kg_ast hk_224 rfl wc_1093 g8 (by rw [j_nar50]; exact hh9) rfl ?_
    refine kg_iinc (y := (x3 + 1)) (L2 := [.ref (1076 + 1), .int x1, .int x2, .int (x3 + 1)]) hk_224 rfl rfl rfl rfl rfl ?_
    refine kg_goto hk_224 rfl ?_
    have hF := Option.some.inj hF
    exact hK _ hF.symm
  · refine kg_icT hk_224 rfl (jc_T3 c6) ?_
    have hF := Option.some.inj hF
    exact hX0 _ hF.symm _
theorem l_224_22_ok {X : List Int32} {o : kO}  {x1 : Int32} {x2 : Int32}  {n : Nat} {s : Int32 × Hp} {e : Hp} (hF : w_lp (fun (s : Int32 × Hp) => l_224_22 x1 x2 s.1 s.2) n s = some e) (hX0 : ∀ (u3 : Value), k_Go X 11 224 (43, [.ref (1076 + 1), .int x1, .int x2, u3], []) e o) : k_Go X 11 224 (22, [.ref (1076 + 1), .int x1, .int x2, .int s.1], []) s.2 o := by
  exact w_lp_ok (P := (fun (s : Int32 × Hp) => k_Go X 11 224 (22, [.ref (1076 + 1), .int x1, .int x2, .int s.1], []) s.2 o)) (Q := (fun (e : Hp) => (∀ (u3 : Value), k_Go X 11 224 (43, [.ref (1076 + 1), .int x1, .int x2, u3], []) e o))) (fun s r hF hK hX => l_224_22_st hF hK (fun x hx => (hX _ hx))) n s e hF hX0
def q_224_10 (h : Hp) (x1 : Int32) (s0 : Int32) : Option (Int32 × Hp) :=
  if s0 = (-1) then
    ((p_223 h x1 0).bind fun v5 =>
    some (0, v5))
  else
    ((w_lp (fun (s : Int32 × Hp) => l_224_22 x1 s0 s.1 s.2) w_N (0, h)).bind fun e10 =>
    (p_193 e10 1105 (9 * s0) 1094 (9 * x1)).bind fun v11 =>
    w_gd (w_ix x1 16) <|
    w_let (w_up v11 1092 x1.toNatClampNeg 0) fun h13 =>
    w_let (w_up h13 1076 21 ((h13 1076 21) + 1)) fun h14 =>
    (p_217 h14 x1 1).bind fun v15 =>
    some (1, v15))
theorem q_224_10_ok {X : List Int32}   {h : Hp} {s0 : Int32} {x1 : Int32}  {r : Int32 × Hp} (hF : q_224_10 h x1 s0 = some r)  : ∀ (u2 : Value) (u3 : Value), k_Go X 11 224 (10, [.ref (1076 + 1), .int x1, u2, u3], [.int s0]) h (.inl (some (.int r.1)), r.2) := by
  intro u2 u3
  unfold q_224_10 at hF
  refine kg_istore (L2 := [.ref (1076 + 1), .int x1, .int s0, u3]) hk_224 rfl (Nat.le_of_ble_eq_true rfl) rfl rfl ?_
  refine kg_iload hk_224 rfl rfl rfl ?_
  refine kg_push (x := (-1)) hk_224 rfl (by decide) rfl ?_
  refine wf_if hF (fun c4 hF => ?_) (fun c4 hF => ?_)
  · refine kg_icF hk_224 rfl (jc_F1 c4) rfl ?_
    refine kg_aload hk_224 rfl rfl rfl ?_
    refine kg_iload hk_224 rfl rfl rfl ?_
    refine kg_push (x := 0) hk_224 rfl (by decide) rfl ?_
    refine wf_bind hF (fun v5 hv5 hF => ?_)
    refine kg_call (as := [.ref (1076 + 1), .int x1, .int 0]) (rest := []) hk_224 rfl (Or.inr (Or.inr (Or.inr ⟨Or.inl rfl, _, _, rfl, wc_1076⟩))) rfl rfl rfl (Nat.not_lt.mpr (Nat.le_of_ble_eq_true rfl)) (p_223_ok hv5) (by decide) rfl ?_
    refine kg_push (x := 0) hk_224 rfl (by decide) rfl ?_
    have hF := Option.some.inj hF
    subst hF
    exact kg_iret hk_224 rfl (Or.inl rfl) rfl
  · refine kg_icT hk_224 rfl (jc_T1 c4) ?_
    refine kg_push (x := 0) hk_224 rfl (by decide) rfl ?_
    refine kg_istore (L2 := [.ref (1076 + 1), .int x1, .int s0, .int 0]) hk_224 rfl (Nat.le_of_ble_eq_true rfl) rfl rfl ?_
    refine wf_bind hF (fun e10 he10 hF => ?_)
    refine l_224_22_ok he10 ?_
    intro u3
    refine kg_aload hk_224 rfl rfl rfl ?_
    refine kg_aload hk_224 rfl rfl rfl ?_
    refine kg_get (v := .ref (1105 + 1)) hk_224 rfl wk_1076_38 rfl rfl ?_
    refine kg_push (x := 9) hk_224 rfl (by decide) rfl ?_
    refine kg_iload hk_224 rfl rfl rfl ?_
    refine kg_bin (z := (9 * s0)) hk_224 rfl rfl rfl ?_
    refine kg_aload hk_224 rfl rfl rfl ?_
    refine kg_get (v := .ref (1094 + 1)) hk_224 rfl wk_1076_18 rfl rfl ?_
    refine kg_push (x := 9) hk_224 rfl (by decide) rfl ?_
    refine kg_iload hk_224 rfl rfl rfl ?_
    refine kg_bin (z := (9 * x1)) hk_224 rfl rfl rfl ?_
    refine wf_bind hF (fun v11 hv11 hF => ?_)
    refine kg_call (as := [.ref (1076 + 1), .ref (1105 + 1), .int (9 * s0), .ref (1094 + 1), .int (9 * x1)]) (rest := []) hk_224 rfl (Or.inr (Or.inr (Or.inr ⟨Or.inl rfl, _, _, rfl, wc_1076⟩))) rfl rfl rfl (Nat.not_lt.mpr (Nat.le_of_ble_eq_true rfl)) (p_193_ok wc_1105 wc_1094 hv11) (by decide) rfl ?_
    refine kg_aload hk_224 rfl rfl rfl ?_
    refine kg_get (v := .ref (1092 + 1)) hk_224 rfl wk_1076_16 rfl rfl ?_
    refine kg_iload hk_224 rfl rfl rfl ?_
    refine kg_push (x := 0) hk_224 rfl (by decide) rfl ?_
    refine wf_gd hF (fun g12 hF => ?_)
    refine wf_let hF (fun h13 hh13 hF => ?_)
    refine kg_ast hk_224 rfl wc_1092 g12 (by rw [j_nar50]; exact hh13) rfl ?_
    refine kg_aload hk_224 rfl rfl rfl ?_
    refine kg_dup hk_224 rfl rfl rfl ?_
    refine kg_get (v := .int (h13 1076 21)) hk_224 rfl wk_1076_21 rfl rfl ?_
    refine kg_push (x := 1) hk_224 rfl (by decide) rfl ?_
    refine kg_bin (z := ((h13 1076 21) + 1)) hk_224 rfl rfl rfl ?_
    refine wf_let hF (fun h14 hh14 hF => ?_)
    refine kg_put hk_224 rfl wk_1076_21 rfl rfl hh14 rfl ?_
    refine kg_aload hk_224 rfl rfl rfl ?_
    refine kg_iload hk_224 rfl rfl rfl ?_
    refine kg_push (x := 1) hk_224 rfl (by decide) rfl ?_
    refine wf_bind hF (fun v15 hv15 hF => ?_)
    refine kg_call (as := [.ref (1076 + 1), .int x1, .int 1]) (rest := []) hk_224 rfl (Or.inr (Or.inr (Or.inr ⟨Or.inl rfl, _, _, rfl, wc_1076⟩))) rfl rfl rfl (Nat.not_lt.mpr (Nat.le_of_ble_eq_true rfl)) (p_217_ok hv15) (by decide) rfl ?_
    refine kg_push (x := 1) hk_224 rfl (by decide) rfl ?_
    have hF := Option.some.inj hF
    subst hF
    exact kg_iret hk_224 rfl (Or.inl rfl) rfl
def p_224 (h : Hp) (x1 : Int32) : Option (Int32 × Hp) :=
  w_gd (w_ix x1 16) <|
  if (h 1086 x1.toNatClampNeg) = 0 then
    ((p_220 h x1).bind fun v3 =>
    q_224_10 v3.2 x1 v3.1)
  else
    (q_224_10 h x1 (-1))
theorem p_224_ok {X : List Int32}  {h : Hp} {x1 : Int32}  {r : Int32 × Hp} (hF : p_224 h x1 = some r) : k_Ev X 11 224 [.ref (1076 + 1), .int x1] h (.inl (some (.int r.1)), r.2) := by
  refine k_of hk_224 ?_
  show k_Go X 11 224 (0, [.ref (1076 + 1), .int x1, (.retAddr 0), (.retAddr 0)], []) h _
  unfold p_224 at hF
  refine kg_aload hk_224 rfl rfl rfl ?_
  refine kg_get (v := .ref (1086 + 1)) hk_224 rfl wk_1076_10 rfl rfl ?_
  refine kg_iload hk_224 rfl rfl rfl ?_
  refine wf_gd hF (fun g1 hF => ?_)
  refine kg_ald (y := (h 1086 x1.toNatClampNeg)) hk_224 rfl wc_1086 g1 rfl rfl ?_
  refine wf_if hF (fun c2 hF => ?_) (fun c2 hF => ?_)
  · refine kg_ifT hk_224 rfl (jc_T0 c2) ?_
    refine kg_aload hk_224 rfl rfl rfl ?_
    refine kg_iload hk_224 rfl rfl rfl ?_
    refine wf_bind hF (fun v3 hv3 hF => ?_)
    refine kg_call (as := [.ref (1076 + 1), .int x1]) (rest := []) hk_224 rfl (Or.inr (Or.inr (Or.inr ⟨Or.inl rfl, _, _, rfl, wc_1076⟩))) rfl rfl rfl (Nat.not_lt.mpr (Nat.le_of_ble_eq_true rfl)) (p_220_ok hv3) (by decide) rfl ?_
    exact q_224_10_ok hF _ _
  · refine kg_ifF hk_224 rfl (jc_F0 c2) rfl ?_
    refine kg_push (x := (-1)) hk_224 rfl (by decide) rfl ?_
    refine kg_goto hk_224 rfl ?_
    exact q_224_10_ok hF _ _
-- NotebookWeirModel.runsAll(I)V
theorem hk_191 : jP[191]? = some (jc_191, 3, [], []) := by rfl
def l_191_6 (x1 : Int32) (x2 : Int32) (h : Hp) : Option ((Int32 × Hp) ⊕ Hp) :=
  if x2 = (-1) then
    (some (.inr h))
  else
    ((p_224 h x2).bind fun v4 =>
    (p_188 v4.2).bind fun v5 =>
    (p_190 v5 x1).bind fun v6 =>
    some (.inl (v6, v5)))
theorem l_191_6_st {X : List Int32} {o : kO}  {h : Hp} {x1 : Int32} {x2 : Int32}  {r : (Int32 × Hp) ⊕ Hp} (hF : l_191_6 x1 x2 h = some r) (hK : ∀ s' : Int32 × Hp, r = .inl s' → k_Go X 12 191 (6, [.ref (1076 + 1), .int x1, .int (s'.1)], []) s'.2 o) (hX0 : ∀ e : Hp, r = .inr e → (.inl none, e) = o) : k_Go X 12 191 (6, [.ref (1076 + 1), .int x1, .int x2], []) h o := by
  refine kg_iload hk_191 rfl rfl rfl ?_
  refine kg_push (x := (-1)) hk_191 rfl (by decide) rfl ?_
  refine wf_if hF (fun c3 hF => ?_) (fun c3 hF => ?_)
  · refine kg_icT hk_191 rfl (jc_T0 c3) ?_
    have hF := Option.some.inj hF
    exact kg_ret hk_191 rfl (hX0 _ hF.symm)
  · refine kg_icF hk_191 rfl (jc_F0 c3) rfl ?_
    refine kg_aload hk_191 rfl rfl rfl ?_
    refine kg_iload hk_191 rfl rfl rfl ?_
    refine wf_bind hF (fun v4 hv4 hF => ?_)
    refine kg_call (as := [.ref (1076 + 1), .int x2]) (rest := []) hk_191 rfl (Or.inr (Or.inr (Or.inr ⟨Or.inl rfl, _, _, rfl, wc_1076⟩))) rfl rfl rfl (Nat.not_lt.mpr (Nat.le_of_ble_eq_true rfl)) (p_224_ok hv4) (by decide) rfl ?_
    refine kg_pop hk_191 rfl rfl rfl ?_
    refine kg_aload hk_191 rfl rfl rfl ?_
    refine wf_bind hF (fun v5 hv5 hF => ?_)
    refine kg_call (as := [.ref (1076 + 1)]) (rest := []) hk_191 rfl (Or.inr (Or.inr (Or.inr ⟨Or.inl rfl, _, _, rfl, wc_1076⟩))) rfl rfl rfl (Nat.not_lt.mpr (Nat.le_of_ble_eq_true rfl)) (p_188_ok hv5) (by decide) rfl ?_
    refine kg_aload hk_191 rfl rfl rfl ?_
    refine kg_iload hk_191 rfl rfl rfl ?_
    refine wf_bind hF (fun v6 hv6 hF => ?_)
    refine kg_call (as := [.ref (1076 + 1), .int x1]) (rest := []) hk_191 rfl (Or.inr (Or.inr (Or.inr ⟨Or.inl rfl, _, _, rfl, wc_1076⟩))) rfl rfl rfl (Nat.not_lt.mpr (Nat.le_of_ble_eq_true rfl)) (p_190_ok hv6) (by decide) rfl ?_
    refine kg_istore (L2 := [.ref (1076 + 1), .int x1, .int v6]) hk_191 rfl (Nat.le_of_ble_eq_true rfl) rfl rfl ?_
    refine kg_goto hk_191 rfl ?_
    have hF := Option.some.inj hF
    exact hK _ hF.symm
theorem l_191_6_ok {X : List Int32} {o : kO}  {x1 : Int32}  {n : Nat} {s : Int32 × Hp} {e : Hp} (hF : w_lp (fun (s : Int32 × Hp) => l_191_6 x1 s.1 s.2) n s = some e) (hX0 : (.inl none, e) = o) : k_Go X 12 191 (6, [.ref (1076 + 1), .int x1, .int s.1], []) s.2 o := by
  exact w_lp_ok (P := (fun (s : Int32 × Hp) => k_Go X 12 191 (6, [.ref (1076 + 1), .int x1, .int s.1], []) s.2 o)) (Q := (fun (e : Hp) => ((.inl none, e) = o))) (fun s r hF hK hX => l_191_6_st hF hK (fun x hx => (hX _ hx))) n s e hF hX0
def p_191 (h : Hp) (x1 : Int32) : Option (Hp) :=
  (p_188 h).bind fun v1 =>
  (p_190 v1 x1).bind fun v2 =>
  w_lp (fun (s : Int32 × Hp) => l_191_6 x1 s.1 s.2) w_N (v2, v1)
theorem p_191_ok {X : List Int32}  {h : Hp} {x1 : Int32}  {r : Hp} (hF : p_191 h x1 = some r) : k_Ev X 12 191 [.ref (1076 + 1), .int x1] h (.inl none, r) := by
  refine k_of hk_191 ?_
  show k_Go X 12 191 (0, [.ref (1076 + 1), .int x1, (.retAddr 0)], []) h _
  unfold p_191 at hF
  refine kg_aload hk_191 rfl rfl rfl ?_
  refine wf_bind hF (fun v1 hv1 hF => ?_)
  refine kg_call (as := [.ref (1076 + 1)]) (rest := []) hk_191 rfl (Or.inr (Or.inr (Or.inr ⟨Or.inl rfl, _, _, rfl, wc_1076⟩))) rfl rfl rfl (Nat.not_lt.mpr (Nat.le_of_ble_eq_true rfl)) (p_188_ok hv1) (by decide) rfl ?_
  refine kg_aload hk_191 rfl rfl rfl ?_
  refine kg_iload hk_191 rfl rfl rfl ?_
  refine wf_bind hF (fun v2 hv2 hF => ?_)
  refine kg_call (as := [.ref (1076 + 1), .int x1]) (rest := []) hk_191 rfl (Or.inr (Or.inr (Or.inr ⟨Or.inl rfl, _, _, rfl, wc_1076⟩))) rfl rfl rfl (Nat.not_lt.mpr (Nat.le_of_ble_eq_true rfl)) (p_190_ok hv2) (by decide) rfl ?_
  refine kg_istore (L2 := [.ref (1076 + 1), .int x1, .int v2]) hk_191 rfl (Nat.le_of_ble_eq_true rfl) rfl rfl ?_
  exact l_191_6_ok hF rfl
-- NotebookWeirModel.atOnce()V
theorem hk_192 : jP[192]? = some (jc_192, 1, [], []) := by rfl
def p_192 (h : Hp) : Option (Hp) :=
  if (h 1076 22) = 2 then
    ((p_191 h 65535).bind fun v2 =>
    some v2)
  else
    (some h)
theorem p_192_ok {X : List Int32}  {h : Hp}   {r : Hp} (hF : p_192 h = some r) : k_Ev X 13 192 [.ref (1076 + 1)] h (.inl none, r) := by
  refine k_of hk_192 ?_
  show k_Go X 13 192 (0, [.ref (1076 + 1)], []) h _
  unfold p_192 at hF
  refine kg_aload hk_192 rfl rfl rfl ?_
  refine kg_get (v := .int (h 1076 22)) hk_192 rfl wk_1076_22 rfl rfl ?_
  refine kg_push (x := 2) hk_192 rfl (by decide) rfl ?_
  refine wf_if hF (fun c1 hF => ?_) (fun c1 hF => ?_)
  · refine kg_icF hk_192 rfl (jc_F1 c1) rfl ?_
    refine kg_aload hk_192 rfl rfl rfl ?_
    refine kg_push (x := 65535) hk_192 rfl (by decide) rfl ?_
    refine wf_bind hF (fun v2 hv2 hF => ?_)
    refine kg_call (as := [.ref (1076 + 1), .int 65535]) (rest := []) hk_192 rfl (Or.inr (Or.inr (Or.inr ⟨Or.inl rfl, _, _, rfl, wc_1076⟩))) rfl rfl rfl (Nat.not_lt.mpr (Nat.le_of_ble_eq_true rfl)) (p_191_ok hv2) (by decide) rfl ?_
    have hF := Option.some.inj hF
    subst hF
    exact kg_ret hk_192 rfl rfl
  · refine kg_icT hk_192 rfl (jc_T1 c1) ?_
    have hF := Option.some.inj hF
    subst hF
    exact kg_ret hk_192 rfl rfl
-- NotebookWeirModel.cell(II)I
theorem hk_166 : jP[166]? = some (jc_166, 5, [], []) := by rfl
def q_166_57 (h : Hp) (x1 : Int32) (x4 : Int32) : Option (Int32 × Hp) :=
  w_gd (w_ix x1 2) <|
  w_let (w_up h 1078 x1.toNatClampNeg 0) fun h14 =>
  if x4 = (-1) then
    (some (x4, h14))
  else
    ((p_192 h14).bind fun v16 =>
    some (x4, v16))
theorem q_166_57_ok {X : List Int32}   {h : Hp} {x1 : Int32} {x4 : Int32}  {r : Int32 × Hp} (hF : q_166_57 h x1 x4 = some r)  : ∀ (u2 : Value) (u3 : Value), k_Go X 14 166 (57, [.ref (1076 + 1), .int x1, u2, u3, .int x4], []) h (.inl (some (.int r.1)), r.2) := by
  intro u2 u3
  unfold q_166_57 at hF
  refine kg_aload hk_166 rfl rfl rfl ?_
  refine kg_get (v := .ref (1078 + 1)) hk_166 rfl wk_1076_1 rfl rfl ?_
  refine kg_iload hk_166 rfl rfl rfl ?_
  refine kg_push (x := 0) hk_166 rfl (by decide) rfl ?_
  refine wf_gd hF (fun g13 hF => ?_)
  refine wf_let hF (fun h14 hh14 hF => ?_)
  refine kg_ast hk_166 rfl wc_1078 g13 (by rw [j_nar50]; exact hh14) rfl ?_
  refine kg_iload hk_166 rfl rfl rfl ?_
  refine kg_push (x := (-1)) hk_166 rfl (by decide) rfl ?_
  refine wf_if hF (fun c15 hF => ?_) (fun c15 hF => ?_)
  · refine kg_icT hk_166 rfl (jc_T0 c15) ?_
    refine kg_iload hk_166 rfl rfl rfl ?_
    have hF := Option.some.inj hF
    subst hF
    exact kg_iret hk_166 rfl (Or.inl rfl) rfl
  · refine kg_icF hk_166 rfl (jc_F0 c15) rfl ?_
    refine kg_aload hk_166 rfl rfl rfl ?_
    refine wf_bind hF (fun v16 hv16 hF => ?_)
    refine kg_call (as := [.ref (1076 + 1)]) (rest := []) hk_166 rfl (Or.inr (Or.inr (Or.inr ⟨Or.inl rfl, _, _, rfl, wc_1076⟩))) rfl rfl rfl (Nat.not_lt.mpr (Nat.le_of_ble_eq_true rfl)) (p_192_ok hv16) (by decide) rfl ?_
    refine kg_iload hk_166 rfl rfl rfl ?_
    have hF := Option.some.inj hF
    subst hF
    exact kg_iret hk_166 rfl (Or.inl rfl) rfl
def q_166_23 (h : Hp) (x1 : Int32) (x2 : Int32) (s0 : Int32) (s1 : Int32) : Option (Int32 × Hp) :=
  (p_146 h s1 s0 1).bind fun v4 =>
  if v4.1 = 0 then
    (some (0, v4.2))
  else
    ((p_158 v4.2 x1 x2).bind fun v6 =>
    if v6.1 = (-1) then
      (w_let (w_up v6.2 1076 2 ((v6.2 1076 2) + 1)) fun h8 =>
      w_gd (w_ix (v6.2 1076 2) 16) <|
      w_let (w_up h8 1081 ((v6.2 1076 2).toNatClampNeg) x2) fun h10 =>
      (p_165 h10 x1 (v6.2 1076 2)).bind fun v11 =>
      w_let (w_up v11 1076 45 0) fun h12 =>
      q_166_57 h12 x1 (v6.2 1076 2))
    else
      (q_166_57 v6.2 x1 (-1)))
theorem q_166_23_ok {X : List Int32}   {h : Hp} {s0 : Int32} {s1 : Int32} {x1 : Int32} {x2 : Int32}  {r : Int32 × Hp} (hF : q_166_23 h x1 x2 s0 s1 = some r)  : ∀ (u3 : Value) (u4 : Value), k_Go X 14 166 (23, [.ref (1076 + 1), .int x1, .int x2, u3, u4], [.int s0, .int s1, .ref (1076 + 1)]) h (.inl (some (.int r.1)), r.2) := by
  intro u3 u4
  unfold q_166_23 at hF
  refine kg_push (x := 1) hk_166 rfl (by decide) rfl ?_
  refine wf_bind hF (fun v4 hv4 hF => ?_)
  refine kg_call (as := [.ref (1076 + 1), .int s1, .int s0, .int 1]) (rest := []) hk_166 rfl (Or.inr (Or.inr (Or.inr ⟨Or.inl rfl, _, _, rfl, wc_1076⟩))) rfl rfl rfl (Nat.not_lt.mpr (Nat.le_of_ble_eq_true rfl)) (p_146_ok hv4) (by decide) rfl ?_
  refine wf_if hF (fun c5 hF => ?_) (fun c5 hF => ?_)
  · refine kg_ifF hk_166 rfl (jc_F1 c5) rfl ?_
    refine kg_push (x := 0) hk_166 rfl (by decide) rfl ?_
    have hF := Option.some.inj hF
    subst hF
    exact kg_iret hk_166 rfl (Or.inl rfl) rfl
  · refine kg_ifT hk_166 rfl (jc_T1 c5) ?_
    refine kg_push (x := (-1)) hk_166 rfl (by decide) rfl ?_
    refine kg_istore (L2 := [.ref (1076 + 1), .int x1, .int x2, u3, .int (-1)]) hk_166 rfl (Nat.le_of_ble_eq_true rfl) rfl rfl ?_
    refine kg_aload hk_166 rfl rfl rfl ?_
    refine kg_iload hk_166 rfl rfl rfl ?_
    refine kg_iload hk_166 rfl rfl rfl ?_
    refine wf_bind hF (fun v6 hv6 hF => ?_)
    refine kg_call (as := [.ref (1076 + 1), .int x1, .int x2]) (rest := []) hk_166 rfl (Or.inr (Or.inr (Or.inr ⟨Or.inl rfl, _, _, rfl, wc_1076⟩))) rfl rfl rfl (Nat.not_lt.mpr (Nat.le_of_ble_eq_true rfl)) (p_158_ok hv6) (by decide) rfl ?_
    refine kg_push (x := (-1)) hk_166 rfl (by decide) rfl ?_
    refine wf_if hF (fun c7 hF => ?_) (fun c7 hF => ?_)
    · refine kg_icF hk_166 rfl (jc_F1 c7) rfl ?_
      refine kg_aload hk_166 rfl rfl rfl ?_
      refine kg_get (v := .int (v6.2 1076 2)) hk_166 rfl wk_1076_2 rfl rfl ?_
      refine kg_istore (L2 := [.ref (1076 + 1), .int x1, .int x2, u3, .int (v6.2 1076 2)]) hk_166 rfl (Nat.le_of_ble_eq_true rfl) rfl rfl ?_
      refine kg_aload hk_166 rfl rfl rfl ?_
      refine kg_dup hk_166 rfl rfl rfl ?_
      refine kg_get (v := .int (v6.2 1076 2)) hk_166 rfl wk_1076_2 rfl rfl ?_
      refine kg_push (x := 1) hk_166 rfl (by decide) rfl ?_
      refine kg_bin (z := ((v6.2 1076 2) + 1)) hk_166 rfl rfl rfl ?_
      refine wf_let hF (fun h8 hh8 hF => ?_)
      refine kg_put hk_166 rfl wk_1076_2 rfl rfl hh8 rfl ?_
      refine kg_aload hk_166 rfl rfl rfl ?_
      refine kg_get (v := .ref (1081 + 1)) hk_166 rfl wk_1076_5 rfl rfl ?_
      refine kg_iload hk_166 rfl rfl rfl ?_
      refine kg_iload hk_166 rfl rfl rfl ?_
      refine wf_gd hF (fun g9 hF => ?_)
      refine wf_let hF (fun h10 hh10 hF => ?_)
      refine kg_ast hk_166 rfl wc_1081 g9 (by rw [j_nar50]; exact hh10) rfl ?_
      refine kg_aload hk_166 rfl rfl rfl ?_
      refine kg_iload hk_166 rfl rfl rfl ?_
      refine kg_iload hk_166 rfl rfl rfl ?_
      refine wf_bind hF (fun v11 hv11 hF => ?_)
      refine kg_call (as := [.ref (1076 + 1), .int x1, .int (v6.2 1076 2)]) (rest := []) hk_166 rfl (Or.inr (Or.inr (Or.inr ⟨Or.inl rfl, _, _, rfl, wc_1076⟩))) rfl rfl rfl (Nat.not_lt.mpr (Nat.le_of_ble_eq_true rfl)) (p_165_ok hv11) (by decide) rfl ?_
      refine kg_aload hk_166 rfl rfl rfl ?_
      refine kg_push (x := 0) hk_166 rfl (by decide) rfl ?_
      refine wf_let hF (fun h12 hh12 hF => ?_)
      refine kg_put hk_166 rfl wk_1076_45 rfl (w_fitB rfl) hh12 rfl ?_
      exact q_166_57_ok hF _ _
    · refine kg_icT hk_166 rfl (jc_T1 c7) ?_
      exact q_166_57_ok hF _ _
def q_166_13 (h : Hp) (x1 : Int32) (x2 : Int32) (s0 : Int32) : Option (Int32 × Hp) :=
  q_166_23 h x1 x2 (if (h 1076 2) < 16 then 1 else 0) s0
theorem q_166_13_ok {X : List Int32}   {h : Hp} {s0 : Int32} {x1 : Int32} {x2 : Int32}  {r : Int32 × Hp} (hF : q_166_13 h x1 x2 s0 = some r)  : ∀ (u3 : Value) (u4 : Value), k_Go X 14 166 (13, [.ref (1076 + 1), .int x1, .int x2, u3, u4], [.int s0]) h (.inl (some (.int r.1)), r.2) := by
  intro u3 u4
  unfold q_166_13 at hF
  refine kg_istore (L2 := [.ref (1076 + 1), .int x1, .int x2, .int s0, u4]) hk_166 rfl (Nat.le_of_ble_eq_true rfl) rfl rfl ?_
  refine kg_aload hk_166 rfl rfl rfl ?_
  refine kg_iload hk_166 rfl rfl rfl ?_
  refine kg_aload hk_166 rfl rfl rfl ?_
  refine kg_get (v := .int (h 1076 2)) hk_166 rfl wk_1076_2 rfl rfl ?_
  refine kg_push (x := 16) hk_166 rfl (by decide) rfl ?_
  refine kv_mid (p := 23) (L := [.ref (1076 + 1), .int x1, .int x2, .int s0, u4]) (S := [.int (if (h 1076 2) < 16 then 1 else 0), .int s0, .ref (1076 + 1)]) ?_ (fun hK => ?_)
  · exact q_166_23_ok hF _ _
  · by_cases c3 : (h 1076 2) < 16
    · have hK := kv_T c3 hK
      refine kg_icF hk_166 rfl (jc_F3 c3) rfl ?_
      refine kg_push (x := 1) hk_166 rfl (by decide) rfl ?_
      refine kg_goto hk_166 rfl ?_
      exact hK
    · have hK := kv_F c3 hK
      refine kg_icT hk_166 rfl (jc_T3 c3) ?_
      refine kg_push (x := 0) hk_166 rfl (by decide) rfl ?_
      exact hK
def p_166 (h : Hp) (x1 : Int32) (x2 : Int32) : Option (Int32 × Hp) :=
  q_166_13 h x1 x2 (if (v_147 x1 0 1) = 0 then 0 else (if (v_147 x2 0 2) = 0 then 0 else 1))
theorem p_166_ok {X : List Int32}  {h : Hp} {x1 : Int32} {x2 : Int32}  {r : Int32 × Hp} (hF : p_166 h x1 x2 = some r) : k_Ev X 14 166 [.ref (1076 + 1), .int x1, .int x2] h (.inl (some (.int r.1)), r.2) := by
  refine k_of hk_166 ?_
  show k_Go X 14 166 (0, [.ref (1076 + 1), .int x1, .int x2, (.retAddr 0), (.retAddr 0)], []) h _
  unfold p_166 at hF
  refine kg_iload hk_166 rfl rfl rfl ?_
  refine kg_push (x := 0) hk_166 rfl (by decide) rfl ?_
  refine kg_push (x := 1) hk_166 rfl (by decide) rfl ?_
  refine kg_call (as := [.int x1, .int 0, .int 1]) (rest := []) hk_166 rfl (Or.inl rfl) rfl rfl rfl (Nat.not_lt.mpr (Nat.le_of_ble_eq_true rfl)) (v_147_ok) (by decide) rfl ?_
  refine kv_mid (p := 13) (L := [.ref (1076 + 1), .int x1, .int x2, (.retAddr 0), (.retAddr 0)]) (S := [.int (if (v_147 x1 0 1) = 0 then 0 else (if (v_147 x2 0 2) = 0 then 0 else 1))]) ?_ (fun hK => ?_)
  · exact q_166_13_ok hF _ _
  · by_cases c1 : (v_147 x1 0 1) = 0
    · have hK := kv_T c1 hK
      refine kg_ifT hk_166 rfl (jc_T0 c1) ?_
      refine kg_push (x := 0) hk_166 rfl (by decide) rfl ?_
      exact hK
    · have hK := kv_F c1 hK
      refine kg_ifF hk_166 rfl (jc_F0 c1) rfl ?_
      refine kg_iload hk_166 rfl rfl rfl ?_
      refine kg_push (x := 0) hk_166 rfl (by decide) rfl ?_
      refine kg_push (x := 2) hk_166 rfl (by decide) rfl ?_
      refine kg_call (as := [.int x2, .int 0, .int 2]) (rest := []) hk_166 rfl (Or.inl rfl) rfl rfl rfl (Nat.not_lt.mpr (Nat.le_of_ble_eq_true rfl)) (v_147_ok) (by decide) rfl ?_
      by_cases c2 : (v_147 x2 0 2) = 0
      · have hK := kv_T c2 hK
        refine kg_ifT hk_166 rfl (jc_T0 c2) ?_
        refine kg_push (x := 0) hk_166 rfl (by decide) rfl ?_
        exact hK
      · have hK := kv_F c2 hK
        refine kg_ifF hk_166 rfl (jc_F0 c2) rfl ?_
        refine kg_push (x := 1) hk_166 rfl (by decide) rfl ?_
        refine kg_goto hk_166 rfl ?_
        exact hK
-- NotebookWeirModel.isCell(I)Z
theorem hk_167 : jP[167]? = some (jc_167, 2, [], []) := by rfl
def v_167 (h : Hp) (x1 : Int32) : Int32 := (v_147 x1 0 ((h 1076 2) - 1))
theorem v_167_bo (h : Hp) (x1 : Int32) : w_bo (v_167 h x1) = true := by
  unfold v_167
  exact (v_147_bo _ _ _)
theorem v_167_ok {X : List Int32} {h : Hp} {x1 : Int32}  : k_Ev X 1 167 [.ref (1076 + 1), .int x1] h (.inl (some (.int (v_167 h x1))), h) := by
  refine k_of hk_167 ?_
  show k_Go X 1 167 (0, [.ref (1076 + 1), .int x1], []) h _
  generalize hv : v_167 h x1 = z
  unfold v_167 at hv
  refine kg_iload hk_167 rfl rfl rfl ?_
  refine kg_push (x := 0) hk_167 rfl (by decide) rfl ?_
  refine kg_aload hk_167 rfl rfl rfl ?_
  refine kg_get (v := .int (h 1076 2)) hk_167 rfl wk_1076_2 rfl rfl ?_
  refine kg_push (x := 1) hk_167 rfl (by decide) rfl ?_
  refine kg_bin (z := ((h 1076 2) - 1)) hk_167 rfl rfl rfl ?_
  refine kg_call (as := [.int x1, .int 0, .int ((h 1076 2) - 1)]) (rest := []) hk_167 rfl (Or.inl rfl) rfl rfl rfl (Nat.not_lt.mpr (Nat.le_of_ble_eq_true rfl)) (v_147_ok) (by decide) rfl ?_
  exact kg_iret hk_167 rfl (Or.inr (v_147_bo _ _ _)) (by rw [hv])
-- NotebookWeirModel.edit(III)I
theorem hk_168 : jP[168]? = some (jc_168, 6, [], []) := by rfl
def q_168_64 (h : Hp) (x2 : Int32) (x5 : Int32) : Option (Int32 × Hp) :=
  w_gd ((if x5 = 0 then true else w_ix x2 16)) <|
  some ((if x5 = 0 then (-1) else (h 1082 x2.toNatClampNeg)), h)
theorem q_168_64_ok {X : List Int32}   {h : Hp} {x2 : Int32} {x5 : Int32}  {r : Int32 × Hp} (hF : q_168_64 h x2 x5 = some r)  : ∀ (u1 : Value) (u3 : Value) (u4 : Value), k_Go X 14 168 (64, [.ref (1076 + 1), u1, .int x2, u3, u4, .int x5], []) h (.inl (some (.int r.1)), r.2) := by
  intro u1 u3 u4
  unfold q_168_64 at hF
  refine kg_iload hk_168 rfl rfl rfl ?_
  refine wf_gd hF (fun g16 hF => ?_)
  refine kv_mid (p := 72) (L := [.ref (1076 + 1), u1, .int x2, u3, u4, .int x5]) (S := [.int (if x5 = 0 then (-1) else (h 1082 x2.toNatClampNeg))]) ?_ (fun hK => ?_)
  · have hF := Option.some.inj hF
    subst hF
    exact kg_iret hk_168 rfl (Or.inl rfl) rfl
  · have hg := g16
    by_cases c14 : x5 = 0
    · have hK := kv_T c14 hK
      refine kg_ifT hk_168 rfl (jc_T0 c14) ?_
      refine kg_push (x := (-1)) hk_168 rfl (by decide) rfl ?_
      exact hK
    · have hg := wv_F c14 hg
      have hK := kv_F c14 hK
      have g15 := hg
      refine kg_ifF hk_168 rfl (jc_F0 c14) rfl ?_
      refine kg_aload hk_168 rfl rfl rfl ?_
      refine kg_get (v := .ref (1082 + 1)) hk_168 rfl wk_1076_6 rfl rfl ?_
      refine kg_iload hk_168 rfl rfl rfl ?_
      refine kg_ald (y := (h 1082 x2.toNatClampNeg)) hk_168 rfl wc_1082 g15 rfl rfl ?_
      refine kg_goto hk_168 rfl ?_
      exact hK
def q_168_55 (h : Hp) (x1 : Int32) (x2 : Int32) (x5 : Int32) : Option (Int32 × Hp) :=
  w_gd (w_ix x1 2) <|
  w_let (w_up h 1078 x1.toNatClampNeg 0) fun h12 =>
  if x5 = 0 then
    (q_168_64 h12 x2 x5)
  else
    ((p_192 h12).bind fun v17 =>
    q_168_64 v17 x2 x5)
theorem q_168_55_ok {X : List Int32}   {h : Hp} {x1 : Int32} {x2 : Int32} {x5 : Int32}  {r : Int32 × Hp} (hF : q_168_55 h x1 x2 x5 = some r)  : ∀ (u3 : Value) (u4 : Value), k_Go X 14 168 (55, [.ref (1076 + 1), .int x1, .int x2, u3, u4, .int x5], []) h (.inl (some (.int r.1)), r.2) := by
  intro u3 u4
  unfold q_168_55 at hF
  refine kg_aload hk_168 rfl rfl rfl ?_
  refine kg_get (v := .ref (1078 + 1)) hk_168 rfl wk_1076_1 rfl rfl ?_
  refine kg_iload hk_168 rfl rfl rfl ?_
  refine kg_push (x := 0) hk_168 rfl (by decide) rfl ?_
  refine wf_gd hF (fun g11 hF => ?_)
  refine wf_let hF (fun h12 hh12 hF => ?_)
  refine kg_ast hk_168 rfl wc_1078 g11 (by rw [j_nar50]; exact hh12) rfl ?_
  refine kg_iload hk_168 rfl rfl rfl ?_
  refine wf_if hF (fun c13 hF => ?_) (fun c13 hF => ?_)
  · refine kg_ifT hk_168 rfl (jc_T0 c13) ?_
    exact q_168_64_ok hF _ _ _
  · refine kg_ifF hk_168 rfl (jc_F0 c13) rfl ?_
    refine kg_aload hk_168 rfl rfl rfl ?_
    refine wf_bind hF (fun v17 hv17 hF => ?_)
    refine kg_call (as := [.ref (1076 + 1)]) (rest := []) hk_168 rfl (Or.inr (Or.inr (Or.inr ⟨Or.inl rfl, _, _, rfl, wc_1076⟩))) rfl rfl rfl (Nat.not_lt.mpr (Nat.le_of_ble_eq_true rfl)) (p_192_ok hv17) (by decide) rfl ?_
    exact q_168_64_ok hF _ _ _
def q_168_37 (h : Hp) (x1 : Int32) (x2 : Int32) (s0 : Int32) : Option (Int32 × Hp) :=
  if s0 = 0 then
    (q_168_55 h x1 x2 s0)
  else
    ((p_165 h x1 x2).bind fun v18 =>
    w_gd (w_ix x2 16) <|
    w_gd (w_ix x2 16) <|
    w_let (w_up v18 1082 x2.toNatClampNeg ((v18 1082 x2.toNatClampNeg) + 1)) fun h21 =>
    w_let (w_up h21 1076 45 0) fun h22 =>
    q_168_55 h22 x1 x2 s0)
theorem q_168_37_ok {X : List Int32}   {h : Hp} {s0 : Int32} {x1 : Int32} {x2 : Int32}  {r : Int32 × Hp} (hF : q_168_37 h x1 x2 s0 = some r)  : ∀ (u3 : Value) (u4 : Value) (u5 : Value), k_Go X 14 168 (37, [.ref (1076 + 1), .int x1, .int x2, u3, u4, u5], [.int s0]) h (.inl (some (.int r.1)), r.2) := by
  intro u3 u4 u5
  unfold q_168_37 at hF
  refine kg_istore (L2 := [.ref (1076 + 1), .int x1, .int x2, u3, u4, .int s0]) hk_168 rfl (Nat.le_of_ble_eq_true rfl) rfl rfl ?_
  refine kg_iload hk_168 rfl rfl rfl ?_
  refine wf_if hF (fun c10 hF => ?_) (fun c10 hF => ?_)
  · refine kg_ifT hk_168 rfl (jc_T0 c10) ?_
    exact q_168_55_ok hF _ _
  · refine kg_ifF hk_168 rfl (jc_F0 c10) rfl ?_
    refine kg_aload hk_168 rfl rfl rfl ?_
    refine kg_iload hk_168 rfl rfl rfl ?_
    refine kg_iload hk_168 rfl rfl rfl ?_
    refine wf_bind hF (fun v18 hv18 hF => ?_)
    refine kg_call (as := [.ref (1076 + 1), .int x1, .int x2]) (rest := []) hk_168 rfl (Or.inr (Or.inr (Or.inr ⟨Or.inl rfl, _, _, rfl, wc_1076⟩))) rfl rfl rfl (Nat.not_lt.mpr (Nat.le_of_ble_eq_true rfl)) (p_165_ok hv18) (by decide) rfl ?_
    refine kg_aload hk_168 rfl rfl rfl ?_
    refine kg_get (v := .ref (1082 + 1)) hk_168 rfl wk_1076_6 rfl rfl ?_
    refine kg_iload hk_168 rfl rfl rfl ?_
    refine kg_dup2 hk_168 rfl ⟨rfl, rfl⟩ rfl ?_
    refine wf_gd hF (fun g19 hF => ?_)
    refine kg_ald (y := (v18 1082 x2.toNatClampNeg)) hk_168 rfl wc_1082 g19 rfl rfl ?_
    refine kg_push (x := 1) hk_168 rfl (by decide) rfl ?_
    refine kg_bin (z := ((v18 1082 x2.toNatClampNeg) + 1)) hk_168 rfl rfl rfl ?_
    refine wf_gd hF (fun g20 hF => ?_)
    refine wf_let hF (fun h21 hh21 hF => ?_)
    refine kg_ast hk_168 rfl wc_1082 g20 (by rw [j_nar50]; exact hh21) rfl ?_
    refine kg_aload hk_168 rfl rfl rfl ?_
    refine kg_push (x := 0) hk_168 rfl (by decide) rfl ?_
    refine wf_let hF (fun h22 hh22 hF => ?_)
    refine kg_put hk_168 rfl wk_1076_45 rfl (w_fitB rfl) hh22 rfl ?_
    exact q_168_55_ok hF _ _
def q_168_21 (h : Hp) (x1 : Int32) (x2 : Int32) (s0 : Int32) (s1 : Int32) (s2 : Int32) : Option (Int32 × Hp) :=
  (p_146 h s2 s1 s0).bind fun v5 =>
  if v5.1 = 0 then
    (some (0, v5.2))
  else
    (w_gd (w_ix x2 16) <|
    (p_158 v5.2 x1 (v5.2 1081 x2.toNatClampNeg)).bind fun v8 =>
    q_168_37 v8.2 x1 x2 (if v8.1 = (-1) then 1 else 0))
theorem q_168_21_ok {X : List Int32}   {h : Hp} {s0 : Int32} {s1 : Int32} {s2 : Int32} {x1 : Int32} {x2 : Int32}  {r : Int32 × Hp} (hF : q_168_21 h x1 x2 s0 s1 s2 = some r)  : ∀ (u3 : Value) (u4 : Value) (u5 : Value), k_Go X 14 168 (21, [.ref (1076 + 1), .int x1, .int x2, u3, u4, u5], [.int s0, .int s1, .int s2, .ref (1076 + 1)]) h (.inl (some (.int r.1)), r.2) := by
  intro u3 u4 u5
  unfold q_168_21 at hF
  refine wf_bind hF (fun v5 hv5 hF => ?_)
  refine kg_call (as := [.ref (1076 + 1), .int s2, .int s1, .int s0]) (rest := []) hk_168 rfl (Or.inr (Or.inr (Or.inr ⟨Or.inl rfl, _, _, rfl, wc_1076⟩))) rfl rfl rfl (Nat.not_lt.mpr (Nat.le_of_ble_eq_true rfl)) (p_146_ok hv5) (by decide) rfl ?_
  refine wf_if hF (fun c6 hF => ?_) (fun c6 hF => ?_)
  · refine kg_ifF hk_168 rfl (jc_F1 c6) rfl ?_
    refine kg_push (x := 0) hk_168 rfl (by decide) rfl ?_
    have hF := Option.some.inj hF
    subst hF
    exact kg_iret hk_168 rfl (Or.inl rfl) rfl
  · refine kg_ifT hk_168 rfl (jc_T1 c6) ?_
    refine kg_aload hk_168 rfl rfl rfl ?_
    refine kg_iload hk_168 rfl rfl rfl ?_
    refine kg_aload hk_168 rfl rfl rfl ?_
    refine kg_get (v := .ref (1081 + 1)) hk_168 rfl wk_1076_5 rfl rfl ?_
    refine kg_iload hk_168 rfl rfl rfl ?_
    refine wf_gd hF (fun g7 hF => ?_)
    refine kg_ald (y := (v5.2 1081 x2.toNatClampNeg)) hk_168 rfl wc_1081 g7 rfl rfl ?_
    refine wf_bind hF (fun v8 hv8 hF => ?_)
    refine kg_call (as := [.ref (1076 + 1), .int x1, .int (v5.2 1081 x2.toNatClampNeg)]) (rest := []) hk_168 rfl (Or.inr (Or.inr (Or.inr ⟨Or.inl rfl, _, _, rfl, wc_1076⟩))) rfl rfl rfl (Nat.not_lt.mpr (Nat.le_of_ble_eq_true rfl)) (p_158_ok hv8) (by decide) rfl ?_
    refine kg_push (x := (-1)) hk_168 rfl (by decide) rfl ?_
    refine kv_mid (p := 37) (L := [.ref (1076 + 1), .int x1, .int x2, u3, u4, u5]) (S := [.int (if v8.1 = (-1) then 1 else 0)]) ?_ (fun hK => ?_)
    · exact q_168_37_ok hF _ _ _
    · by_cases c9 : v8.1 = (-1)
      · have hK := kv_T c9 hK
        refine kg_icF hk_168 rfl (jc_F1 c9) rfl ?_
        refine kg_push (x := 1) hk_168 rfl (by decide) rfl ?_
        refine kg_goto hk_168 rfl ?_
        exact hK
      · have hK := kv_F c9 hK
        refine kg_icT hk_168 rfl (jc_T1 c9) ?_
        refine kg_push (x := 0) hk_168 rfl (by decide) rfl ?_
        exact hK
def p_168 (h : Hp) (x1 : Int32) (x2 : Int32) (x3 : Int32) : Option (Int32 × Hp) :=
  w_gd ((if (v_167 h x2) = 0 then true else w_ix x2 16)) <|
  q_168_21 h x1 x2 (if (v_167 h x2) = 0 then 0 else (if (h 1082 x2.toNatClampNeg) = x3 then 1 else 0)) (v_147 x1 0 1) (v_167 h x2)
theorem p_168_ok {X : List Int32}  {h : Hp} {x1 : Int32} {x2 : Int32} {x3 : Int32}  {r : Int32 × Hp} (hF : p_168 h x1 x2 x3 = some r) : k_Ev X 14 168 [.ref (1076 + 1), .int x1, .int x2, .int x3] h (.inl (some (.int r.1)), r.2) := by
  refine k_of hk_168 ?_
  show k_Go X 14 168 (0, [.ref (1076 + 1), .int x1, .int x2, .int x3, (.retAddr 0), (.retAddr 0)], []) h _
  unfold p_168 at hF
  refine kg_aload hk_168 rfl rfl rfl ?_
  refine kg_iload hk_168 rfl rfl rfl ?_
  refine kg_call (as := [.ref (1076 + 1), .int x2]) (rest := []) hk_168 rfl (Or.inr (Or.inr (Or.inr ⟨Or.inl rfl, _, _, rfl, wc_1076⟩))) rfl rfl rfl (Nat.not_lt.mpr (Nat.le_of_ble_eq_true rfl)) (v_167_ok) (by decide) rfl ?_
  refine kg_istore (L2 := [.ref (1076 + 1), .int x1, .int x2, .int x3, .int (v_167 h x2), (.retAddr 0)]) hk_168 rfl (Nat.le_of_ble_eq_true rfl) rfl rfl ?_
  refine kg_aload hk_168 rfl rfl rfl ?_
  refine kg_iload hk_168 rfl rfl rfl ?_
  refine kg_iload hk_168 rfl rfl rfl ?_
  refine kg_push (x := 0) hk_168 rfl (by decide) rfl ?_
  refine kg_push (x := 1) hk_168 rfl (by decide) rfl ?_
  refine kg_call (as := [.int x1, .int 0, .int 1]) (rest := [.int (v_167 h x2), .ref (1076 + 1)]) hk_168 rfl (Or.inl rfl) rfl rfl rfl (Nat.not_lt.mpr (Nat.le_of_ble_eq_true rfl)) (v_147_ok) (by decide) rfl ?_
  refine kg_iload hk_168 rfl rfl rfl ?_
  refine wf_gd hF (fun g4 hF => ?_)
  refine kv_mid (p := 21) (L := [.ref (1076 + 1), .int x1, .int x2, .int x3, .int (v_167 h x2), (.retAddr 0)]) (S := [.int (if (v_167 h x2) = 0 then 0 else (if (h 1082 x2.toNatClampNeg) = x3 then 1 else 0)), .int (v_147 x1 0 1), .int (v_167 h x2), .ref (1076 + 1)]) ?_ (fun hK => ?_)
  · exact q_168_21_ok hF _ _ _
  · have hg := g4
    by_cases c1 : (v_167 h x2) = 0
    · have hK := kv_T c1 hK
      refine kg_ifT hk_168 rfl (jc_T0 c1) ?_
      refine kg_push (x := 0) hk_168 rfl (by decide) rfl ?_
      exact hK
    · have hg := wv_F c1 hg
      have hK := kv_F c1 hK
      have g2 := hg
      refine kg_ifF hk_168 rfl (jc_F0 c1) rfl ?_
      refine kg_aload hk_168 rfl rfl rfl ?_
      refine kg_get (v := .ref (1082 + 1)) hk_168 rfl wk_1076_6 rfl rfl ?_
      refine kg_iload hk_168 rfl rfl rfl ?_
      refine kg_ald (y := (h 1082 x2.toNatClampNeg)) hk_168 rfl wc_1082 g2 rfl rfl ?_
      refine kg_iload hk_168 rfl rfl rfl ?_
      by_cases c3 : (h 1082 x2.toNatClampNeg) = x3
      · have hK := kv_T c3 hK
        refine kg_icF hk_168 rfl (jc_F1 c3) rfl ?_
        refine kg_push (x := 1) hk_168 rfl (by decide) rfl ?_
        refine kg_goto hk_168 rfl ?_
        exact hK
      · have hK := kv_F c3 hK
        refine kg_icT hk_168 rfl (jc_T1 c3) ?_
        refine kg_push (x := 0) hk_168 rfl (by decide) rfl ?_
        exact hK
-- NotebookWeirModel.mode(I)I
theorem hk_169 : jP[169]? = some (jc_169, 3, [], []) := by rfl
def p_169 (h : Hp) (x1 : Int32) : Option (Int32 × Hp) :=
  (p_146 h (v_147 x1 0 2) 1 1).bind fun v1 =>
  if v1.1 = 0 then
    (some (0, v1.2))
  else
    (w_let (w_up v1.2 1076 22 x1) fun h3 =>
    (p_192 h3).bind fun v4 =>
    some ((v1.2 1076 22), v4))
theorem p_169_ok {X : List Int32}  {h : Hp} {x1 : Int32}  {r : Int32 × Hp} (hF : p_169 h x1 = some r) : k_Ev X 14 169 [.ref (1076 + 1), .int x1] h (.inl (some (.int r.1)), r.2) := by
  refine k_of hk_169 ?_
  show k_Go X 14 169 (0, [.ref (1076 + 1), .int x1, (.retAddr 0)], []) h _
  unfold p_169 at hF
  refine kg_aload hk_169 rfl rfl rfl ?_
  refine kg_iload hk_169 rfl rfl rfl ?_
  refine kg_push (x := 0) hk_169 rfl (by decide) rfl ?_
  refine kg_push (x := 2) hk_169 rfl (by decide) rfl ?_
  refine kg_call (as := [.int x1, .int 0, .int 2]) (rest := [.ref (1076 + 1)]) hk_169 rfl (Or.inl rfl) rfl rfl rfl (Nat.not_lt.mpr (Nat.le_of_ble_eq_true rfl)) (v_147_ok) (by decide) rfl ?_
  refine kg_push (x := 1) hk_169 rfl (by decide) rfl ?_
  refine kg_push (x := 1) hk_169 rfl (by decide) rfl ?_
  refine wf_bind hF (fun v1 hv1 hF => ?_)
  refine kg_call (as := [.ref (1076 + 1), .int (v_147 x1 0 2), .int 1, .int 1]) (rest := []) hk_169 rfl (Or.inr (Or.inr (Or.inr ⟨Or.inl rfl, _, _, rfl, wc_1076⟩))) rfl rfl rfl (Nat.not_lt.mpr (Nat.le_of_ble_eq_true rfl)) (p_146_ok hv1) (by decide) rfl ?_
  refine wf_if hF (fun c2 hF => ?_) (fun c2 hF => ?_)
  · refine kg_ifF hk_169 rfl (jc_F1 c2) rfl ?_
    refine kg_push (x := 0) hk_169 rfl (by decide) rfl ?_
    have hF := Option.some.inj hF
    subst hF
    exact kg_iret hk_169 rfl (Or.inl rfl) rfl
  · refine kg_ifT hk_169 rfl (jc_T1 c2) ?_
    refine kg_aload hk_169 rfl rfl rfl ?_
    refine kg_get (v := .int (v1.2 1076 22)) hk_169 rfl wk_1076_22 rfl rfl ?_
    refine kg_istore (L2 := [.ref (1076 + 1), .int x1, .int (v1.2 1076 22)]) hk_169 rfl (Nat.le_of_ble_eq_true rfl) rfl rfl ?_
    refine kg_aload hk_169 rfl rfl rfl ?_
    refine kg_iload hk_169 rfl rfl rfl ?_
    refine wf_let hF (fun h3 hh3 hF => ?_)
    refine kg_put hk_169 rfl wk_1076_22 rfl rfl hh3 rfl ?_
    refine kg_aload hk_169 rfl rfl rfl ?_
    refine wf_bind hF (fun v4 hv4 hF => ?_)
    refine kg_call (as := [.ref (1076 + 1)]) (rest := []) hk_169 rfl (Or.inr (Or.inr (Or.inr ⟨Or.inl rfl, _, _, rfl, wc_1076⟩))) rfl rfl rfl (Nat.not_lt.mpr (Nat.le_of_ble_eq_true rfl)) (p_192_ok hv4) (by decide) rfl ?_
    refine kg_iload hk_169 rfl rfl rfl ?_
    have hF := Option.some.inj hF
    subst hF
    exact kg_iret hk_169 rfl (Or.inl rfl) rfl
-- NotebookWeirModel.widget(CII)I
theorem hk_171 : jP[171]? = some (jc_171, 6, [], []) := by rfl
def q_171_30 (h : Hp) (x1 : Int32) (x2 : Int32) (x3 : Int32) (s0 : Int32) (s1 : Int32) : Option (Int32 × Hp) :=
  (p_146 h s1 s0 1).bind fun v8 =>
  if v8.1 = 0 then
    (some (0, v8.2))
  else
    (w_let (w_up v8.2 1076 48 ((v8.2 1076 48) + 1)) fun h10 =>
    w_gd (w_ix (v8.2 1076 48) 4) <|
    w_let (w_up h10 1112 ((v8.2 1076 48).toNatClampNeg) x1) fun h12 =>
    w_gd (w_ix (v8.2 1076 48) 4) <|
    w_let (w_up h12 1113 ((v8.2 1076 48).toNatClampNeg) x2) fun h14 =>
    w_gd (w_ix (v8.2 1076 48) 4) <|
    w_let (w_up h14 1114 ((v8.2 1076 48).toNatClampNeg) x3) fun h16 =>
    w_gd (w_ix (v8.2 1076 48) 4) <|
    w_let (w_up h16 1115 ((v8.2 1076 48).toNatClampNeg) x2) fun h18 =>
    w_let (w_up h18 1076 45 0) fun h19 =>
    (p_192 h19).bind fun v20 =>
    some ((v8.2 1076 48), v20))
theorem q_171_30_ok {X : List Int32}   {h : Hp} {s0 : Int32} {s1 : Int32} {x1 : Int32} {x2 : Int32} {x3 : Int32}  {r : Int32 × Hp} (hF : q_171_30 h x1 x2 x3 s0 s1 = some r)  : ∀ (u4 : Value) (u5 : Value), k_Go X 14 171 (30, [.ref (1076 + 1), .int x1, .int x2, .int x3, u4, u5], [.int s0, .int s1, .ref (1076 + 1)]) h (.inl (some (.int r.1)), r.2) := by
  intro u4 u5
  unfold q_171_30 at hF
  refine kg_push (x := 1) hk_171 rfl (by decide) rfl ?_
  refine wf_bind hF (fun v8 hv8 hF => ?_)
  refine kg_call (as := [.ref (1076 + 1), .int s1, .int s0, .int 1]) (rest := []) hk_171 rfl (Or.inr (Or.inr (Or.inr ⟨Or.inl rfl, _, _, rfl, wc_1076⟩))) rfl rfl rfl (Nat.not_lt.mpr (Nat.le_of_ble_eq_true rfl)) (p_146_ok hv8) (by decide) rfl ?_
  refine wf_if hF (fun c9 hF => ?_) (fun c9 hF => ?_)
  · refine kg_ifF hk_171 rfl (jc_F1 c9) rfl ?_
    refine kg_push (x := 0) hk_171 rfl (by decide) rfl ?_
    have hF := Option.some.inj hF
    subst hF
    exact kg_iret hk_171 rfl (Or.inl rfl) rfl
  · refine kg_ifT hk_171 rfl (jc_T1 c9) ?_
    refine kg_aload hk_171 rfl rfl rfl ?_
    refine kg_get (v := .int (v8.2 1076 48)) hk_171 rfl wk_1076_48 rfl rfl ?_
    refine kg_istore (L2 := [.ref (1076 + 1), .int x1, .int x2, .int x3, u4, .int (v8.2 1076 48)]) hk_171 rfl (Nat.le_of_ble_eq_true rfl) rfl rfl ?_
    refine kg_aload hk_171 rfl rfl rfl ?_
    refine kg_dup hk_171 rfl rfl rfl ?_
    refine kg_get (v := .int (v8.2 1076 48)) hk_171 rfl wk_1076_48 rfl rfl ?_
    refine kg_push (x := 1) hk_171 rfl (by decide) rfl ?_
    refine kg_bin (z := ((v8.2 1076 48) + 1)) hk_171 rfl rfl rfl ?_
    refine wf_let hF (fun h10 hh10 hF => ?_)
    refine kg_put hk_171 rfl wk_1076_48 rfl rfl hh10 rfl ?_
    refine kg_aload hk_171 rfl rfl rfl ?_
    refine kg_get (v := .ref (1112 + 1)) hk_171 rfl wk_1076_49 rfl rfl ?_
    refine kg_iload hk_171 rfl rfl rfl ?_
    refine kg_iload hk_171 rfl rfl rfl ?_
    refine wf_gd hF (fun g11 hF => ?_)
    refine wf_let hF (fun h12 hh12 hF => ?_)
    refine kg_ast hk_171 rfl wc_1112 g11 (by rw [j_nar50]; exact hh12) rfl ?_
    refine kg_aload hk_171 rfl rfl rfl ?_
    refine kg_get (v := .ref (1113 + 1)) hk_171 rfl wk_1076_50 rfl rfl ?_
    refine kg_iload hk_171 rfl rfl rfl ?_
    refine kg_iload hk_171 rfl rfl rfl ?_
    refine wf_gd hF (fun g13 hF => ?_)
    refine wf_let hF (fun h14 hh14 hF => ?_)
    refine kg_ast hk_171 rfl wc_1113 g13 (by rw [j_nar50]; exact hh14) rfl ?_
    refine kg_aload hk_171 rfl rfl rfl ?_
    refine kg_get (v := .ref (1114 + 1)) hk_171 rfl wk_1076_51 rfl rfl ?_
    refine kg_iload hk_171 rfl rfl rfl ?_
    refine kg_iload hk_171 rfl rfl rfl ?_
    refine wf_gd hF (fun g15 hF => ?_)
    refine wf_let hF (fun h16 hh16 hF => ?_)
    refine kg_ast hk_171 rfl wc_1114 g15 (by rw [j_nar50]; exact hh16) rfl ?_
    refine kg_aload hk_171 rfl rfl rfl ?_
    refine kg_get (v := .ref (1115 + 1)) hk_171 rfl wk_1076_52 rfl rfl ?_
    refine kg_iload hk_171 rfl rfl rfl ?_
    refine kg_iload hk_171 rfl rfl rfl ?_
    refine wf_gd hF (fun g17 hF => ?_)
    refine wf_let hF (fun h18 hh18 hF => ?_)
    refine kg_ast hk_171 rfl wc_1115 g17 (by rw [j_nar50]; exact hh18) rfl ?_
    refine kg_aload hk_171 rfl rfl rfl ?_
    refine kg_push (x := 0) hk_171 rfl (by decide) rfl ?_
    refine wf_let hF (fun h19 hh19 hF => ?_)
    refine kg_put hk_171 rfl wk_1076_45 rfl (w_fitB rfl) hh19 rfl ?_
    refine kg_aload hk_171 rfl rfl rfl ?_
    refine wf_bind hF (fun v20 hv20 hF => ?_)
    refine kg_call (as := [.ref (1076 + 1)]) (rest := []) hk_171 rfl (Or.inr (Or.inr (Or.inr ⟨Or.inl rfl, _, _, rfl, wc_1076⟩))) rfl rfl rfl (Nat.not_lt.mpr (Nat.le_of_ble_eq_true rfl)) (p_192_ok hv20) (by decide) rfl ?_
    refine kg_iload hk_171 rfl rfl rfl ?_
    have hF := Option.some.inj hF
    subst hF
    exact kg_iret hk_171 rfl (Or.inl rfl) rfl
def q_171_29 (h : Hp) (x1 : Int32) (x2 : Int32) (x3 : Int32) (s0 : Int32) : Option (Int32 × Hp) :=
  q_171_30 h x1 x2 x3 0 s0
theorem q_171_29_ok {X : List Int32}   {h : Hp} {s0 : Int32} {x1 : Int32} {x2 : Int32} {x3 : Int32}  {r : Int32 × Hp} (hF : q_171_29 h x1 x2 x3 s0 = some r)  : ∀ (u4 : Value) (u5 : Value), k_Go X 14 171 (29, [.ref (1076 + 1), .int x1, .int x2, .int x3, u4, u5], [.int s0, .ref (1076 + 1)]) h (.inl (some (.int r.1)), r.2) := by
  intro u4 u5
  unfold q_171_29 at hF
  refine kg_push (x := 0) hk_171 rfl (by decide) rfl ?_
  exact q_171_30_ok hF _ _
def q_171_15 (h : Hp) (x1 : Int32) (x2 : Int32) (x3 : Int32) (s0 : Int32) : Option (Int32 × Hp) :=
  if (h 1076 48) < 4 then
    ((p_170 h x1).bind fun v6 =>
    q_171_30 h x1 x2 x3 (if v6 = (-1) then 1 else 0) s0)
  else
    (q_171_29 h x1 x2 x3 s0)
theorem q_171_15_ok {X : List Int32}   {h : Hp} {s0 : Int32} {x1 : Int32} {x2 : Int32} {x3 : Int32}  {r : Int32 × Hp} (hF : q_171_15 h x1 x2 x3 s0 = some r)  : ∀ (u4 : Value) (u5 : Value), k_Go X 14 171 (15, [.ref (1076 + 1), .int x1, .int x2, .int x3, u4, u5], [.int s0]) h (.inl (some (.int r.1)), r.2) := by
  intro u4 u5
  unfold q_171_15 at hF
  refine kg_istore (L2 := [.ref (1076 + 1), .int x1, .int x2, .int x3, .int s0, u5]) hk_171 rfl (Nat.le_of_ble_eq_true rfl) rfl rfl ?_
  refine kg_aload hk_171 rfl rfl rfl ?_
  refine kg_iload hk_171 rfl rfl rfl ?_
  refine kg_aload hk_171 rfl rfl rfl ?_
  refine kg_get (v := .int (h 1076 48)) hk_171 rfl wk_1076_48 rfl rfl ?_
  refine kg_push (x := 4) hk_171 rfl (by decide) rfl ?_
  refine wf_if hF (fun c5 hF => ?_) (fun c5 hF => ?_)
  · refine kg_icF hk_171 rfl (jc_F3 c5) rfl ?_
    refine kg_aload hk_171 rfl rfl rfl ?_
    refine kg_iload hk_171 rfl rfl rfl ?_
    refine wf_bind hF (fun v6 hv6 hF => ?_)
    refine kg_call (as := [.ref (1076 + 1), .int x1]) (rest := [.int s0, .ref (1076 + 1)]) hk_171 rfl (Or.inr (Or.inr (Or.inr ⟨Or.inl rfl, _, _, rfl, wc_1076⟩))) rfl rfl rfl (Nat.not_lt.mpr (Nat.le_of_ble_eq_true rfl)) (p_170_ok hv6) (by decide) rfl ?_
    refine kg_push (x := (-1)) hk_171 rfl (by decide) rfl ?_
    refine kv_mid (p := 30) (L := [.ref (1076 + 1), .int x1, .int x2, .int x3, .int s0, u5]) (S := [.int (if v6 = (-1) then 1 else 0), .int s0, .ref (1076 + 1)]) ?_ (fun hK => ?_)
    · exact q_171_30_ok hF _ _
    · by_cases c7 : v6 = (-1)
      · have hK := kv_T c7 hK
        refine kg_icF hk_171 rfl (jc_F1 c7) rfl ?_
        refine kg_push (x := 1) hk_171 rfl (by decide) rfl ?_
        refine kg_goto hk_171 rfl ?_
        exact hK
      · have hK := kv_F c7 hK
        refine kg_icT hk_171 rfl (jc_T1 c7) ?_
        refine kg_push (x := 0) hk_171 rfl (by decide) rfl ?_
        exact hK
  · refine kg_icT hk_171 rfl (jc_T3 c5) ?_
    exact q_171_29_ok hF _ _
def p_171 (h : Hp) (x1 : Int32) (x2 : Int32) (x3 : Int32) : Option (Int32 × Hp) :=
  q_171_15 h x1 x2 x3 (if (v_148 x1) = 0 then 0 else (if x2 < (-1000) then 0 else (if x2 ≤ x3 then (if x3 ≤ 1000 then 1 else 0) else 0)))
theorem p_171_ok {X : List Int32}  {h : Hp} {x1 : Int32} {x2 : Int32} {x3 : Int32}  {r : Int32 × Hp} (hF : p_171 h x1 x2 x3 = some r) : k_Ev X 14 171 [.ref (1076 + 1), .int x1, .int x2, .int x3] h (.inl (some (.int r.1)), r.2) := by
  refine k_of hk_171 ?_
  show k_Go X 14 171 (0, [.ref (1076 + 1), .int x1, .int x2, .int x3, (.retAddr 0), (.retAddr 0)], []) h _
  unfold p_171 at hF
  refine kg_iload hk_171 rfl rfl rfl ?_
  refine kg_call (as := [.int x1]) (rest := []) hk_171 rfl (Or.inl rfl) rfl rfl rfl (Nat.not_lt.mpr (Nat.le_of_ble_eq_true rfl)) (v_148_ok) (by decide) rfl ?_
  refine kv_mid (p := 15) (L := [.ref (1076 + 1), .int x1, .int x2, .int x3, (.retAddr 0), (.retAddr 0)]) (S := [.int (if (v_148 x1) = 0 then 0 else (if x2 < (-1000) then 0 else (if x2 ≤ x3 then (if x3 ≤ 1000 then 1 else 0) else 0)))]) ?_ (fun hK => ?_)
  · exact q_171_15_ok hF _ _
  · by_cases c1 : (v_148 x1) = 0
    · have hK := kv_T c1 hK
      refine kg_ifT hk_171 rfl (jc_T0 c1) ?_
      refine kg_push (x := 0) hk_171 rfl (by decide) rfl ?_
      exact hK
    · have hK := kv_F c1 hK
      refine kg_ifF hk_171 rfl (jc_F0 c1) rfl ?_
      refine kg_iload hk_171 rfl rfl rfl ?_
      refine kg_push (x := (-1000)) hk_171 rfl (by decide) rfl ?_
      by_cases c2 : x2 < (-1000)
      · have hK := kv_T c2 hK
        refine kg_icT hk_171 rfl (jc_T2 c2) ?_
        refine kg_push (x := 0) hk_171 rfl (by decide) rfl ?_
        exact hK
      · have hK := kv_F c2 hK
        refine kg_icF hk_171 rfl (jc_F2 c2) rfl ?_
        refine kg_iload hk_171 rfl rfl rfl ?_
        refine kg_iload hk_171 rfl rfl rfl ?_
        by_cases c3 : x2 ≤ x3
        · have hK := kv_T c3 hK
          refine kg_icF hk_171 rfl (jc_F4 c3) rfl ?_
          refine kg_iload hk_171 rfl rfl rfl ?_
          refine kg_push (x := 1000) hk_171 rfl (by decide) rfl ?_
          by_cases c4 : x3 ≤ 1000
          · have hK := kv_T c4 hK
            refine kg_icF hk_171 rfl (jc_F4 c4) rfl ?_
            refine kg_push (x := 1) hk_171 rfl (by decide) rfl ?_
            refine kg_goto hk_171 rfl ?_
            exact hK
          · have hK := kv_F c4 hK
            refine kg_icT hk_171 rfl (jc_T4 c4) ?_
            refine kg_push (x := 0) hk_171 rfl (by decide) rfl ?_
            exact hK
        · have hK := kv_F c3 hK
          refine kg_icT hk_171 rfl (jc_T4 c3) ?_
          refine kg_push (x := 0) hk_171 rfl (by decide) rfl ?_
          exact hK
-- NotebookWeirModel.isWidget(I)Z
theorem hk_172 : jP[172]? = some (jc_172, 2, [], []) := by rfl
def v_172 (h : Hp) (x1 : Int32) : Int32 := (v_147 x1 0 ((h 1076 48) - 1))
theorem v_172_bo (h : Hp) (x1 : Int32) : w_bo (v_172 h x1) = true := by
  unfold v_172
  exact (v_147_bo _ _ _)
theorem v_172_ok {X : List Int32} {h : Hp} {x1 : Int32}  : k_Ev X 1 172 [.ref (1076 + 1), .int x1] h (.inl (some (.int (v_172 h x1))), h) := by
  refine k_of hk_172 ?_
  show k_Go X 1 172 (0, [.ref (1076 + 1), .int x1], []) h _
  generalize hv : v_172 h x1 = z
  unfold v_172 at hv
  refine kg_iload hk_172 rfl rfl rfl ?_
  refine kg_push (x := 0) hk_172 rfl (by decide) rfl ?_
  refine kg_aload hk_172 rfl rfl rfl ?_
  refine kg_get (v := .int (h 1076 48)) hk_172 rfl wk_1076_48 rfl rfl ?_
  refine kg_push (x := 1) hk_172 rfl (by decide) rfl ?_
  refine kg_bin (z := ((h 1076 48) - 1)) hk_172 rfl rfl rfl ?_
  refine kg_call (as := [.int x1, .int 0, .int ((h 1076 48) - 1)]) (rest := []) hk_172 rfl (Or.inl rfl) rfl rfl rfl (Nat.not_lt.mpr (Nat.le_of_ble_eq_true rfl)) (v_147_ok) (by decide) rfl ?_
  exact kg_iret hk_172 rfl (Or.inr (v_147_bo _ _ _)) (by rw [hv])
-- NotebookWeirModel.bind(II)Z
theorem hk_173 : jP[173]? = some (jc_173, 4, [], []) := by rfl
def q_173_35 (h : Hp) (x1 : Int32) (x2 : Int32) (s0 : Int32) : Option (Int32 × Hp) :=
  w_gd (w_ix ((4 * x1) + x2) 16) <|
  w_let (w_up h 1118 (((4 * x1) + x2).toNatClampNeg) (j_nar 52 s0)) fun h9 =>
  w_gd (w_ix ((4 * x2) + x1) 16) <|
  w_let (w_up h9 1118 (((4 * x2) + x1).toNatClampNeg) (j_nar 52 s0)) fun h11 =>
  w_gd (w_bo s0) <|
  some (s0, h11)
theorem q_173_35_ok {X : List Int32}   {h : Hp} {s0 : Int32} {x1 : Int32} {x2 : Int32}  {r : Int32 × Hp} (hF : q_173_35 h x1 x2 s0 = some r)  : ∀ (u3 : Value), k_Go X 2 173 (35, [.ref (1076 + 1), .int x1, .int x2, u3], [.int s0]) h (.inl (some (.int r.1)), r.2) := by
  intro u3
  unfold q_173_35 at hF
  refine kg_istore (L2 := [.ref (1076 + 1), .int x1, .int x2, .int s0]) hk_173 rfl (Nat.le_of_ble_eq_true rfl) rfl rfl ?_
  refine kg_aload hk_173 rfl rfl rfl ?_
  refine kg_get (v := .ref (1118 + 1)) hk_173 rfl wk_1076_55 rfl rfl ?_
  refine kg_push (x := 4) hk_173 rfl (by decide) rfl ?_
  refine kg_iload hk_173 rfl rfl rfl ?_
  refine kg_bin (z := (4 * x1)) hk_173 rfl rfl rfl ?_
  refine kg_iload hk_173 rfl rfl rfl ?_
  refine kg_bin (z := ((4 * x1) + x2)) hk_173 rfl rfl rfl ?_
  refine kg_iload hk_173 rfl rfl rfl ?_
  refine wf_gd hF (fun g8 hF => ?_)
  refine wf_let hF (fun h9 hh9 hF => ?_)
  refine kg_ast hk_173 rfl wc_1118 g8 hh9 rfl ?_
  refine kg_aload hk_173 rfl rfl rfl ?_
  refine kg_get (v := .ref (1118 + 1)) hk_173 rfl wk_1076_55 rfl rfl ?_
  refine kg_push (x := 4) hk_173 rfl (by decide) rfl ?_
  refine kg_iload hk_173 rfl rfl rfl ?_
  refine kg_bin (z := (4 * x2)) hk_173 rfl rfl rfl ?_
  refine kg_iload hk_173 rfl rfl rfl ?_
  refine kg_bin (z := ((4 * x2) + x1)) hk_173 rfl rfl rfl ?_
  refine kg_iload hk_173 rfl rfl rfl ?_
  refine wf_gd hF (fun g10 hF => ?_)
  refine wf_let hF (fun h11 hh11 hF => ?_)
  refine kg_ast hk_173 rfl wc_1118 g10 hh11 rfl ?_
  refine kg_iload hk_173 rfl rfl rfl ?_
  refine wf_gd hF (fun g12 hF => ?_)
  have hF := Option.some.inj hF
  subst hF
  exact kg_iret hk_173 rfl (Or.inr g12) rfl
def q_173_18 (h : Hp) (x1 : Int32) (x2 : Int32) (s0 : Int32) (s1 : Int32) : Option (Int32 × Hp) :=
  (p_146 h s1 s0 1).bind fun v4 =>
  if v4.1 = 0 then
    (some (0, v4.2))
  else
    (w_gd (w_ix ((4 * x1) + x2) 16) <|
    q_173_35 v4.2 x1 x2 (if (v4.2 1118 ((4 * x1) + x2).toNatClampNeg) = 0 then 1 else 0))
theorem q_173_18_ok {X : List Int32}   {h : Hp} {s0 : Int32} {s1 : Int32} {x1 : Int32} {x2 : Int32}  {r : Int32 × Hp} (hF : q_173_18 h x1 x2 s0 s1 = some r)  : ∀ (u3 : Value), k_Go X 2 173 (18, [.ref (1076 + 1), .int x1, .int x2, u3], [.int s0, .int s1, .ref (1076 + 1)]) h (.inl (some (.int r.1)), r.2) := by
  intro u3
  unfold q_173_18 at hF
  refine kg_push (x := 1) hk_173 rfl (by decide) rfl ?_
  refine wf_bind hF (fun v4 hv4 hF => ?_)
  refine kg_call (as := [.ref (1076 + 1), .int s1, .int s0, .int 1]) (rest := []) hk_173 rfl (Or.inr (Or.inr (Or.inr ⟨Or.inl rfl, _, _, rfl, wc_1076⟩))) rfl rfl rfl (Nat.not_lt.mpr (Nat.le_of_ble_eq_true rfl)) (p_146_ok hv4) (by decide) rfl ?_
  refine wf_if hF (fun c5 hF => ?_) (fun c5 hF => ?_)
  · refine kg_ifF hk_173 rfl (jc_F1 c5) rfl ?_
    refine kg_push (x := 0) hk_173 rfl (by decide) rfl ?_
    have hF := Option.some.inj hF
    subst hF
    exact kg_iret hk_173 rfl (Or.inr rfl) rfl
  · refine kg_ifT hk_173 rfl (jc_T1 c5) ?_
    refine kg_aload hk_173 rfl rfl rfl ?_
    refine kg_get (v := .ref (1118 + 1)) hk_173 rfl wk_1076_55 rfl rfl ?_
    refine kg_push (x := 4) hk_173 rfl (by decide) rfl ?_
    refine kg_iload hk_173 rfl rfl rfl ?_
    refine kg_bin (z := (4 * x1)) hk_173 rfl rfl rfl ?_
    refine kg_iload hk_173 rfl rfl rfl ?_
    refine kg_bin (z := ((4 * x1) + x2)) hk_173 rfl rfl rfl ?_
    refine wf_gd hF (fun g6 hF => ?_)
    refine kg_ald (y := (v4.2 1118 ((4 * x1) + x2).toNatClampNeg)) hk_173 rfl wc_1118 g6 rfl rfl ?_
    refine kv_mid (p := 35) (L := [.ref (1076 + 1), .int x1, .int x2, u3]) (S := [.int (if (v4.2 1118 ((4 * x1) + x2).toNatClampNeg) = 0 then 1 else 0)]) ?_ (fun hK => ?_)
    · exact q_173_35_ok hF _
    · by_cases c7 : (v4.2 1118 ((4 * x1) + x2).toNatClampNeg) = 0
      · have hK := kv_T c7 hK
        refine kg_ifF hk_173 rfl (jc_F1 c7) rfl ?_
        refine kg_push (x := 1) hk_173 rfl (by decide) rfl ?_
        refine kg_goto hk_173 rfl ?_
        exact hK
      · have hK := kv_F c7 hK
        refine kg_ifT hk_173 rfl (jc_T1 c7) ?_
        refine kg_push (x := 0) hk_173 rfl (by decide) rfl ?_
        exact hK
def q_173_12 (h : Hp) (x1 : Int32) (x2 : Int32) (s0 : Int32) : Option (Int32 × Hp) :=
  q_173_18 h x1 x2 (if x1 = x2 then 0 else 1) s0
theorem q_173_12_ok {X : List Int32}   {h : Hp} {s0 : Int32} {x1 : Int32} {x2 : Int32}  {r : Int32 × Hp} (hF : q_173_12 h x1 x2 s0 = some r)  : ∀ (u3 : Value), k_Go X 2 173 (12, [.ref (1076 + 1), .int x1, .int x2, u3], [.int s0, .ref (1076 + 1)]) h (.inl (some (.int r.1)), r.2) := by
  intro u3
  unfold q_173_12 at hF
  refine kg_iload hk_173 rfl rfl rfl ?_
  refine kg_iload hk_173 rfl rfl rfl ?_
  refine kv_mid (p := 18) (L := [.ref (1076 + 1), .int x1, .int x2, u3]) (S := [.int (if x1 = x2 then 0 else 1), .int s0, .ref (1076 + 1)]) ?_ (fun hK => ?_)
  · exact q_173_18_ok hF _
  · by_cases c3 : x1 = x2
    · have hK := kv_T c3 hK
      refine kg_icT hk_173 rfl (jc_T0 c3) ?_
      refine kg_push (x := 0) hk_173 rfl (by decide) rfl ?_
      exact hK
    · have hK := kv_F c3 hK
      refine kg_icF hk_173 rfl (jc_F0 c3) rfl ?_
      refine kg_push (x := 1) hk_173 rfl (by decide) rfl ?_
      refine kg_goto hk_173 rfl ?_
      exact hK
def p_173 (h : Hp) (x1 : Int32) (x2 : Int32) : Option (Int32 × Hp) :=
  q_173_12 h x1 x2 (if (v_172 h x1) = 0 then 0 else (if (v_172 h x2) = 0 then 0 else 1))
theorem p_173_ok {X : List Int32}  {h : Hp} {x1 : Int32} {x2 : Int32}  {r : Int32 × Hp} (hF : p_173 h x1 x2 = some r) : k_Ev X 2 173 [.ref (1076 + 1), .int x1, .int x2] h (.inl (some (.int r.1)), r.2) := by
  refine k_of hk_173 ?_
  show k_Go X 2 173 (0, [.ref (1076 + 1), .int x1, .int x2, (.retAddr 0)], []) h _
  unfold p_173 at hF
  refine kg_aload hk_173 rfl rfl rfl ?_
  refine kg_aload hk_173 rfl rfl rfl ?_
  refine kg_iload hk_173 rfl rfl rfl ?_
  refine kg_call (as := [.ref (1076 + 1), .int x1]) (rest := [.ref (1076 + 1)]) hk_173 rfl (Or.inr (Or.inr (Or.inr ⟨Or.inl rfl, _, _, rfl, wc_1076⟩))) rfl rfl rfl (Nat.not_lt.mpr (Nat.le_of_ble_eq_true rfl)) (v_172_ok) (by decide) rfl ?_
  refine kv_mid (p := 12) (L := [.ref (1076 + 1), .int x1, .int x2, (.retAddr 0)]) (S := [.int (if (v_172 h x1) = 0 then 0 else (if (v_172 h x2) = 0 then 0 else 1)), .ref (1076 + 1)]) ?_ (fun hK => ?_)
  · exact q_173_12_ok hF _
  · by_cases c1 : (v_172 h x1) = 0
    · have hK := kv_T c1 hK
      refine kg_ifT hk_173 rfl (jc_T0 c1) ?_
      refine kg_push (x := 0) hk_173 rfl (by decide) rfl ?_
      exact hK
    · have hK := kv_F c1 hK
      refine kg_ifF hk_173 rfl (jc_F0 c1) rfl ?_
      refine kg_aload hk_173 rfl rfl rfl ?_
      refine kg_iload hk_173 rfl rfl rfl ?_
      refine kg_call (as := [.ref (1076 + 1), .int x2]) (rest := [.ref (1076 + 1)]) hk_173 rfl (Or.inr (Or.inr (Or.inr ⟨Or.inl rfl, _, _, rfl, wc_1076⟩))) rfl rfl rfl (Nat.not_lt.mpr (Nat.le_of_ble_eq_true rfl)) (v_172_ok) (by decide) rfl ?_
      by_cases c2 : (v_172 h x2) = 0
      · have hK := kv_T c2 hK
        refine kg_ifT hk_173 rfl (jc_T0 c2) ?_
        refine kg_push (x := 0) hk_173 rfl (by decide) rfl ?_
        exact hK
      · have hK := kv_F c2 hK
        refine kg_ifF hk_173 rfl (jc_F0 c2) rfl ?_
        refine kg_push (x := 1) hk_173 rfl (by decide) rfl ?_
        refine kg_goto hk_173 rfl ?_
        exact hK
-- NotebookWeirModel.turn(II)I
theorem hk_174 : jP[174]? = some (jc_174, 4, [], []) := by rfl
def q_174_22 (h : Hp) (x1 : Int32) (x2 : Int32) (s0 : Int32) (s1 : Int32) : Option (Int32 × Hp) :=
  (p_146 h s1 s0 1).bind fun v6 =>
  if v6.1 = 0 then
    (some (0, v6.2))
  else
    (w_gd (w_ix x1 4) <|
    w_let (w_up v6.2 1116 x1.toNatClampNeg x2) fun h9 =>
    w_gd (w_ix x1 4) <|
    w_let (w_up h9 1117 x1.toNatClampNeg (j_nar 52 1)) fun h11 =>
    w_let (w_up h11 1076 45 0) fun h12 =>
    w_gd (w_ix x1 4) <|
    some ((h12 1115 x1.toNatClampNeg), h12))
theorem q_174_22_ok {X : List Int32}   {h : Hp} {s0 : Int32} {s1 : Int32} {x1 : Int32} {x2 : Int32}  {r : Int32 × Hp} (hF : q_174_22 h x1 x2 s0 s1 = some r)  : ∀ (u3 : Value), k_Go X 2 174 (22, [.ref (1076 + 1), .int x1, .int x2, u3], [.int s0, .int s1, .ref (1076 + 1)]) h (.inl (some (.int r.1)), r.2) := by
  intro u3
  unfold q_174_22 at hF
  refine kg_push (x := 1) hk_174 rfl (by decide) rfl ?_
  refine wf_bind hF (fun v6 hv6 hF => ?_)
  refine kg_call (as := [.ref (1076 + 1), .int s1, .int s0, .int 1]) (rest := []) hk_174 rfl (Or.inr (Or.inr (Or.inr ⟨Or.inl rfl, _, _, rfl, wc_1076⟩))) rfl rfl rfl (Nat.not_lt.mpr (Nat.le_of_ble_eq_true rfl)) (p_146_ok hv6) (by decide) rfl ?_
  refine wf_if hF (fun c7 hF => ?_) (fun c7 hF => ?_)
  · refine kg_ifF hk_174 rfl (jc_F1 c7) rfl ?_
    refine kg_push (x := 0) hk_174 rfl (by decide) rfl ?_
    have hF := Option.some.inj hF
    subst hF
    exact kg_iret hk_174 rfl (Or.inl rfl) rfl
  · refine kg_ifT hk_174 rfl (jc_T1 c7) ?_
    refine kg_aload hk_174 rfl rfl rfl ?_
    refine kg_get (v := .ref (1116 + 1)) hk_174 rfl wk_1076_53 rfl rfl ?_
    refine kg_iload hk_174 rfl rfl rfl ?_
    refine kg_iload hk_174 rfl rfl rfl ?_
    refine wf_gd hF (fun g8 hF => ?_)
    refine wf_let hF (fun h9 hh9 hF => ?_)
    refine kg_ast hk_174 rfl wc_1116 g8 (by rw [j_nar50]; exact hh9) rfl ?_
    refine kg_aload hk_174 rfl rfl rfl ?_
    refine kg_get (v := .ref (1117 + 1)) hk_174 rfl wk_1076_54 rfl rfl ?_
    refine kg_iload hk_174 rfl rfl rfl ?_
    refine kg_push (x := 1) hk_174 rfl (by decide) rfl ?_
    refine wf_gd hF (fun g10 hF => ?_)
    refine wf_let hF (fun h11 hh11 hF => ?_)
    refine kg_ast hk_174 rfl wc_1117 g10 hh11 rfl ?_
    refine kg_aload hk_174 rfl rfl rfl ?_
    refine kg_push (x := 0) hk_174 rfl (by decide) rfl ?_
    refine wf_let hF (fun h12 hh12 hF => ?_)
    refine kg_put hk_174 rfl wk_1076_45 rfl (w_fitB rfl) hh12 rfl ?_
    refine kg_aload hk_174 rfl rfl rfl ?_
    refine kg_get (v := .ref (1115 + 1)) hk_174 rfl wk_1076_52 rfl rfl ?_
    refine kg_iload hk_174 rfl rfl rfl ?_
    refine wf_gd hF (fun g13 hF => ?_)
    refine kg_ald (y := (h12 1115 x1.toNatClampNeg)) hk_174 rfl wc_1115 g13 rfl rfl ?_
    have hF := Option.some.inj hF
    subst hF
    exact kg_iret hk_174 rfl (Or.inl rfl) rfl
def p_174 (h : Hp) (x1 : Int32) (x2 : Int32) : Option (Int32 × Hp) :=
  w_gd ((if (v_172 h x1) = 0 then true else (w_ix x1 4) && (w_ix x1 4))) <|
  q_174_22 h x1 x2 (if (v_172 h x1) = 0 then 0 else (if (v_147 x2 (h 1113 x1.toNatClampNeg) (h 1114 x1.toNatClampNeg)) = 0 then 0 else 1)) (v_172 h x1)
theorem p_174_ok {X : List Int32}  {h : Hp} {x1 : Int32} {x2 : Int32}  {r : Int32 × Hp} (hF : p_174 h x1 x2 = some r) : k_Ev X 2 174 [.ref (1076 + 1), .int x1, .int x2] h (.inl (some (.int r.1)), r.2) := by
  refine k_of hk_174 ?_
  show k_Go X 2 174 (0, [.ref (1076 + 1), .int x1, .int x2, (.retAddr 0)], []) h _
  unfold p_174 at hF
  refine kg_aload hk_174 rfl rfl rfl ?_
  refine kg_iload hk_174 rfl rfl rfl ?_
  refine kg_call (as := [.ref (1076 + 1), .int x1]) (rest := []) hk_174 rfl (Or.inr (Or.inr (Or.inr ⟨Or.inl rfl, _, _, rfl, wc_1076⟩))) rfl rfl rfl (Nat.not_lt.mpr (Nat.le_of_ble_eq_true rfl)) (v_172_ok) (by decide) rfl ?_
  refine kg_istore (L2 := [.ref (1076 + 1), .int x1, .int x2, .int (v_172 h x1)]) hk_174 rfl (Nat.le_of_ble_eq_true rfl) rfl rfl ?_
  refine kg_aload hk_174 rfl rfl rfl ?_
  refine kg_iload hk_174 rfl rfl rfl ?_
  refine kg_iload hk_174 rfl rfl rfl ?_
  refine wf_gd hF (fun g5 hF => ?_)
  refine kv_mid (p := 22) (L := [.ref (1076 + 1), .int x1, .int x2, .int (v_172 h x1)]) (S := [.int (if (v_172 h x1) = 0 then 0 else (if (v_147 x2 (h 1113 x1.toNatClampNeg) (h 1114 x1.toNatClampNeg)) = 0 then 0 else 1)), .int (v_172 h x1), .ref (1076 + 1)]) ?_ (fun hK => ?_)
  · exact q_174_22_ok hF _
  · have hg := g5
    by_cases c1 : (v_172 h x1) = 0
    · have hK := kv_T c1 hK
      refine kg_ifT hk_174 rfl (jc_T0 c1) ?_
      refine kg_push (x := 0) hk_174 rfl (by decide) rfl ?_
      exact hK
    · have hg := wv_F c1 hg
      have hK := kv_F c1 hK
      have g2 := wb_1 hg
      have hg := wb_2 hg
      have g3 := hg
      refine kg_ifF hk_174 rfl (jc_F0 c1) rfl ?_
      refine kg_iload hk_174 rfl rfl rfl ?_
      refine kg_aload hk_174 rfl rfl rfl ?_
      refine kg_get (v := .ref (1113 + 1)) hk_174 rfl wk_1076_50 rfl rfl ?_
      refine kg_iload hk_174 rfl rfl rfl ?_
      refine kg_ald (y := (h 1113 x1.toNatClampNeg)) hk_174 rfl wc_1113 g2 rfl rfl ?_
      refine kg_aload hk_174 rfl rfl rfl ?_
      refine kg_get (v := .ref (1114 + 1)) hk_174 rfl wk_1076_51 rfl rfl ?_
      refine kg_iload hk_174 rfl rfl rfl ?_
      refine kg_ald (y := (h 1114 x1.toNatClampNeg)) hk_174 rfl wc_1114 g3 rfl rfl ?_
      refine kg_call (as := [.int x2, .int (h 1113 x1.toNatClampNeg), .int (h 1114 x1.toNatClampNeg)]) (rest := [.int (v_172 h x1), .ref (1076 + 1)]) hk_174 rfl (Or.inl rfl) rfl rfl rfl (Nat.not_lt.mpr (Nat.le_of_ble_eq_true rfl)) (v_147_ok) (by decide) rfl ?_
      by_cases c4 : (v_147 x2 (h 1113 x1.toNatClampNeg) (h 1114 x1.toNatClampNeg)) = 0
      · have hK := kv_T c4 hK
        refine kg_ifT hk_174 rfl (jc_T0 c4) ?_
        refine kg_push (x := 0) hk_174 rfl (by decide) rfl ?_
        exact hK
      · have hK := kv_F c4 hK
        refine kg_ifF hk_174 rfl (jc_F0 c4) rfl ?_
        refine kg_push (x := 1) hk_174 rfl (by decide) rfl ?_
        refine kg_goto hk_174 rfl ?_
        exact hK
-- NotebookWeirModel.held(II)I
theorem hk_175 : jP[175]? = some (jc_175, 3, [], []) := by rfl
def v_175 (h : Hp) (x1 : Int32) (x2 : Int32) : Int32 := (if x2 < (h 1113 x1.toNatClampNeg) then (h 1113 x1.toNatClampNeg) else (if x2 ≤ (h 1114 x1.toNatClampNeg) then x2 else (h 1114 x1.toNatClampNeg)))
def g_175 (h : Hp) (x1 : Int32) (x2 : Int32) : Bool := (w_ix x1 4) && ((if x2 < (h 1113 x1.toNatClampNeg) then w_ix x1 4 else (w_ix x1 4) && ((if x2 ≤ (h 1114 x1.toNatClampNeg) then true else w_ix x1 4))))
theorem v_175_ok {X : List Int32} {h : Hp} {x1 : Int32} {x2 : Int32}  (hg : g_175 h x1 x2 = true) : k_Ev X 0 175 [.ref (1076 + 1), .int x1, .int x2] h (.inl (some (.int (v_175 h x1 x2))), h) := by
  refine k_of hk_175 ?_
  show k_Go X 0 175 (0, [.ref (1076 + 1), .int x1, .int x2], []) h _
  generalize hv : v_175 h x1 x2 = z
  unfold v_175 at hv
  unfold g_175 at hg
  have g1 := wb_1 hg
  have hg := wb_2 hg
  have g7 := hg
  refine kg_iload hk_175 rfl rfl rfl ?_
  refine kg_aload hk_175 rfl rfl rfl ?_
  refine kg_get (v := .ref (1113 + 1)) hk_175 rfl wk_1076_50 rfl rfl ?_
  refine kg_iload hk_175 rfl rfl rfl ?_
  refine kg_ald (y := (h 1113 x1.toNatClampNeg)) hk_175 rfl wc_1113 g1 rfl rfl ?_
  refine kv_mid (p := 23) (L := [.ref (1076 + 1), .int x1, .int x2]) (S := [.int (if x2 < (h 1113 x1.toNatClampNeg) then (h 1113 x1.toNatClampNeg) else (if x2 ≤ (h 1114 x1.toNatClampNeg) then x2 else (h 1114 x1.toNatClampNeg)))]) ?_ (fun hK => ?_)
  · exact kg_iret hk_175 rfl (Or.inl rfl) (by rw [hv])
  · have hg := g7
    by_cases c2 : x2 < (h 1113 x1.toNatClampNeg)
    · have hg := wv_T c2 hg
      have hK := kv_T c2 hK
      have g3 := hg
      refine kg_icF hk_175 rfl (jc_F3 c2) rfl ?_
      refine kg_aload hk_175 rfl rfl rfl ?_
      refine kg_get (v := .ref (1113 + 1)) hk_175 rfl wk_1076_50 rfl rfl ?_
      refine kg_iload hk_175 rfl rfl rfl ?_
      refine kg_ald (y := (h 1113 x1.toNatClampNeg)) hk_175 rfl wc_1113 g3 rfl rfl ?_
      refine kg_goto hk_175 rfl ?_
      exact hK
    · have hg := wv_F c2 hg
      have hK := kv_F c2 hK
      have g4 := wb_1 hg
      have hg := wb_2 hg
      refine kg_icT hk_175 rfl (jc_T3 c2) ?_
      refine kg_iload hk_175 rfl rfl rfl ?_
      refine kg_aload hk_175 rfl rfl rfl ?_
      refine kg_get (v := .ref (1114 + 1)) hk_175 rfl wk_1076_51 rfl rfl ?_
      refine kg_iload hk_175 rfl rfl rfl ?_
      refine kg_ald (y := (h 1114 x1.toNatClampNeg)) hk_175 rfl wc_1114 g4 rfl rfl ?_
      by_cases c5 : x2 ≤ (h 1114 x1.toNatClampNeg)
      · have hK := kv_T c5 hK
        refine kg_icT hk_175 rfl (jc_T5 c5) ?_
        refine kg_iload hk_175 rfl rfl rfl ?_
        exact hK
      · have hg := wv_F c5 hg
        have hK := kv_F c5 hK
        have g6 := hg
        refine kg_icF hk_175 rfl (jc_F5 c5) rfl ?_
        refine kg_aload hk_175 rfl rfl rfl ?_
        refine kg_get (v := .ref (1114 + 1)) hk_175 rfl wk_1076_51 rfl rfl ?_
        refine kg_iload hk_175 rfl rfl rfl ?_
        refine kg_ald (y := (h 1114 x1.toNatClampNeg)) hk_175 rfl wc_1114 g6 rfl rfl ?_
        refine kg_goto hk_175 rfl ?_
        exact hK
-- NotebookWeirModel.spreads(I)V
theorem hk_176 : jP[176]? = some (jc_176, 7, [], []) := by rfl
def l_176_12 (x1 : Int32) (x2 : Int32) (x3 : Int32) (x4 : Int32) (h : Hp) : Option ((Int32 × Int32 × Int32 × Hp) ⊕ Int32 × Int32 × Hp) :=
  if x4 < 16 then
    (if ((x2 >>> ((x4 / 4) &&& 31)) &&& 1) = 1 then
      (w_gd (w_ix x4 16) <|
      if (h 1118 x4.toNatClampNeg) = 0 then
        (some (.inl (x2, x3, (x4 + 1), h)))
      else
        (w_gd (w_ix (x4 - x4 / 4 * 4) 4) <|
        if (h 1119 (x4 - x4 / 4 * 4).toNatClampNeg) = 0 then
          (w_gd (w_ix x1 4) <|
          w_gd (g_175 h (x4 - x4 / 4 * 4) (h 1116 x1.toNatClampNeg)) <|
          w_gd (w_ix (x4 - x4 / 4 * 4) 4) <|
          w_let (w_up h 1115 ((x4 - x4 / 4 * 4).toNatClampNeg) (v_175 h (x4 - x4 / 4 * 4) (h 1116 x1.toNatClampNeg))) fun h11 =>
          w_gd (w_ix (x4 - x4 / 4 * 4) 4) <|
          w_let (w_up h11 1119 ((x4 - x4 / 4 * 4).toNatClampNeg) (j_nar 52 1)) fun h13 =>
          some (.inl ((x2 ||| (1 <<< ((x4 - x4 / 4 * 4) &&& 31))), 1, (x4 + 1), h13)))
        else
          (some (.inl (x2, x3, (x4 + 1), h)))))
    else
      (some (.inl (x2, x3, (x4 + 1), h))))
  else
    (some (.inr (x2, x3, h)))
theorem l_176_12_st {X : List Int32} {o : kO}  {h : Hp} {x1 : Int32} {x2 : Int32} {x3 : Int32} {x4 : Int32}  {r : (Int32 × Int32 × Int32 × Hp) ⊕ Int32 × Int32 × Hp} (hF : l_176_12 x1 x2 x3 x4 h = some r) (hK : ∀ s' : Int32 × Int32 × Int32 × Hp, r = .inl s' → ∀ (u5 : Value) (u6 : Value), k_Go X 1 176 (12, [.ref (1076 + 1), .int x1, .int (s'.1), .int (s'.2.1), .int (s'.2.2.1), u5, u6], []) s'.2.2.2 o) (hX0 : ∀ e : Int32 × Int32 × Hp, r = .inr e → ∀ (u4 : Value) (u5 : Value) (u6 : Value), k_Go X 1 176 (66, [.ref (1076 + 1), .int x1, .int e.1, .int e.2.1, u4, u5, u6], []) e.2.2 o) : ∀ (u5 : Value) (u6 : Value), k_Go X 1 176 (12, [.ref (1076 + 1), .int x1, .int x2, .int x3, .int x4, u5, u6], []) h o := by
  intro u5 u6
  refine kg_iload hk_176 rfl rfl rfl ?_
  refine kg_push (x := 16) hk_176 rfl (by decide) rfl ?_
  refine wf_if hF (fun c2 hF => ?_) (fun c2 hF => ?_)
  · refine kg_icF hk_176 rfl (jc_F3 c2) rfl ?_
    refine kg_iload hk_176 rfl rfl rfl ?_
    refine kg_push (x := 4) hk_176 rfl (by decide) rfl ?_
    refine kg_bin (z := (x4 / 4)) hk_176 rfl (j_div (by decide)) rfl ?_
    refine kg_istore (L2 := [.ref (1076 + 1), .int x1, .int x2, .int x3, .int x4, .int (x4 / 4), u6]) hk_176 rfl (Nat.le_of_ble_eq_true rfl) rfl rfl ?_
    refine kg_iload hk_176 rfl rfl rfl ?_
    refine kg_push (x := 4) hk_176 rfl (by decide) rfl ?_
    refine kg_bin (z := (x4 - x4 / 4 * 4)) hk_176 rfl (j_rem (by decide)) rfl ?_
    refine kg_istore (L2 := [.ref (1076 + 1), .int x1, .int x2, .int x3, .int x4, .int (x4 / 4), .int (x4 - x4 / 4 * 4)]) hk_176 rfl (Nat.le_of_ble_eq_true rfl) rfl rfl ?_
    refine kg_iload hk_176 rfl rfl rfl ?_
    refine kg_iload hk_176 rfl rfl rfl ?_
    refine kg_bin (z := (x2 >>> ((x4 / 4) &&& 31))) hk_176 rfl rfl rfl ?_
    refine kg_push (x := 1) hk_176 rfl (by decide) rfl ?_
    refine kg_bin (z := ((x2 >>> ((x4 / 4) &&& 31)) &&& 1)) hk_176 rfl rfl rfl ?_
    refine kg_push (x := 1) hk_176 rfl (by decide) rfl ?_
    refine wf_if hF (fun c3 hF => ?_) (fun c3 hF => ?_)
    · refine kg_icF hk_176 rfl (jc_F1 c3) rfl ?_
      refine kg_aload hk_176 rfl rfl rfl ?_
      refine kg_get (v := .ref (1118 + 1)) hk_176 rfl wk_1076_55 rfl rfl ?_
      refine kg_iload hk_176 rfl rfl rfl ?_
      refine wf_gd hF (fun g4 hF => ?_)
      refine kg_ald (y := (h 1118 x4.toNatClampNeg)) hk_176 rfl wc_1118 g4 rfl rfl ?_
      refine wf_if hF (fun c5 hF => ?_) (fun c5 hF => ?_)
      · refine kg_ifT hk_176 rfl (jc_T0 c5) ?_
        refine kg_iinc (y := (x4 + 1)) (L2 := [.ref (1076 + 1), .int x1, .int x2, .int x3, .int (x4 + 1), .int (x4 / 4), .int (x4 - x4 / 4 * 4)]) hk_176 rfl rfl rfl rfl rfl ?_
        refine kg_goto hk_176 rfl ?_
        have hF := Option.some.inj hF
        exact hK _ hF.symm _ _
      · refine kg_ifF hk_176 rfl (jc_F0 c5) rfl ?_
        refine kg_aload hk_176 rfl rfl rfl ?_
        refine kg_get (v := .ref (1119 + 1)) hk_176 rfl wk_1076_56 rfl rfl ?_
        refine kg_iload hk_176 rfl rfl rfl ?_
        refine wf_gd hF (fun g6 hF => ?_)
        refine kg_ald (y := (h 1119 (x4 - x4 / 4 * 4).toNatClampNeg)) hk_176 rfl wc_1119 g6 rfl rfl ?_
        refine wf_if hF (fun c7 hF => ?_) (fun c7 hF => ?_)
        · refine kg_ifF hk_176 rfl (jc_F1 c7) rfl ?_
          refine kg_aload hk_176 rfl rfl rfl ?_
          refine kg_get (v := .ref (1115 + 1)) hk_176 rfl wk_1076_52 rfl rfl ?_
          refine kg_iload hk_176 rfl rfl rfl ?_
          refine kg_aload hk_176 rfl rfl rfl ?_
          refine kg_iload hk_176 rfl rfl rfl ?_
          refine kg_aload hk_176 rfl rfl rfl ?_
          refine kg_get (v := .ref (1116 + 1)) hk_176 rfl wk_1076_53 rfl rfl ?_
          refine kg_iload hk_176 rfl rfl rfl ?_
          refine wf_gd hF (fun g8 hF => ?_)
          refine kg_ald (y := (h 1116 x1.toNatClampNeg)) hk_176 rfl wc_1116 g8 rfl rfl ?_
          refine wf_gd hF (fun g9 hF => ?_)
          refine kg_call (as := [.ref (1076 + 1), .int (x4 - x4 / 4 * 4), .int (h 1116 x1.toNatClampNeg)]) (rest := [.int (x4 - x4 / 4 * 4), .ref (1115 + 1)]) hk_176 rfl (Or.inr (Or.inr (Or.inr ⟨Or.inl rfl, _, _, rfl, wc_1076⟩))) rfl rfl rfl (Nat.not_lt.mpr (Nat.le_of_ble_eq_true rfl)) (v_175_ok g9) (by decide) rfl ?_
          refine wf_gd hF (fun g10 hF => ?_)
          refine wf_let hF (fun h11 hh11 hF => ?_)
          refine kg_ast hk_176 rfl wc_1115 g10 (by rw [j_nar50]; exact hh11) rfl ?_
          refine kg_aload hk_176 rfl rfl rfl ?_
          refine kg_get (v := .ref (1119 + 1)) hk_176 rfl wk_1076_56 rfl rfl ?_
          refine kg_iload hk_176 rfl rfl rfl ?_
          refine kg_push (x := 1) hk_176 rfl (by decide) rfl ?_
          refine wf_gd hF (fun g12 hF => ?_)
          refine wf_let hF (fun h13 hh13 hF => ?_)
          refine kg_ast hk_176 rfl wc_1119 g12 hh13 rfl ?_
          refine kg_iload hk_176 rfl rfl rfl ?_
          refine kg_push (x := 1) hk_176 rfl (by decide) rfl ?_
          refine kg_iload hk_176 rfl rfl rfl ?_
          refine kg_bin (z := (1 <<< ((x4 - x4 / 4 * 4) &&& 31))) hk_176 rfl rfl rfl ?_
          refine kg_bin (z := (x2 ||| (1 <<< ((x4 - x4 / 4 * 4) &&& 31)))) hk_176 rfl rfl rfl ?_
          refine kg_istore (L2 := [.ref (1076 + 1), .int x1, .int (x2 ||| (1 <<< ((x4 - x4 / 4 * 4) &&& 31))), .int x3, .int x4, .int (x4 / 4), .int (x4 - x4 / 4 * 4)]) hk_176 rfl (Nat.le_of_ble_eq_true rfl) rfl rfl ?_
          refine kg_push (x := 1) hk_176 rfl (by decide) rfl ?_
          refine kg_istore (L2 := [.ref (1076 + 1), .int x1, .int (x2 ||| (1 <<< ((x4 - x4 / 4 * 4) &&& 31))), .int 1, .int x4, .int (x4 / 4), .int (x4 - x4 / 4 * 4)]) hk_176 rfl (Nat.le_of_ble_eq_true rfl) rfl rfl ?_
          refine kg_iinc (y := (x4 + 1)) (L2 := [.ref (1076 + 1), .int x1, .int (x2 ||| (1 <<< ((x4 - x4 / 4 * 4) &&& 31))), .int 1, .int (x4 + 1), .int (x4 / 4), .int (x4 - x4 / 4 * 4)]) hk_176 rfl rfl rfl rfl rfl ?_
          refine kg_goto hk_176 rfl ?_
          have hF := Option.some.inj hF
          exact hK _ hF.symm _ _
        · refine kg_ifT hk_176 rfl (jc_T1 c7) ?_
          refine kg_iinc (y := (x4 + 1)) (L2 := [.ref (1076 + 1), .int x1, .int x2, .int x3, .int (x4 + 1), .int (x4 / 4), .int (x4 - x4 / 4 * 4)]) hk_176 rfl rfl rfl rfl rfl ?_
          refine kg_goto hk_176 rfl ?_
          have hF := Option.some.inj hF
          exact hK _ hF.symm _ _
    · refine kg_icT hk_176 rfl (jc_T1 c3) ?_
      refine kg_iinc (y := (x4 + 1)) (L2 := [.ref (1076 + 1), .int x1, .int x2, .int x3, .int (x4 + 1), .int (x4 / 4), .int (x4 - x4 / 4 * 4)]) hk_176 rfl rfl rfl rfl rfl ?_
      refine kg_goto hk_176 rfl ?_
      have hF := Option.some.inj hF
      exact hK _ hF.symm _ _
  · refine kg_icT hk_176 rfl (jc_T3 c2) ?_
    have hF := Option.some.inj hF
    exact hX0 _ hF.symm _ _ _
theorem l_176_12_ok {X : List Int32} {o : kO}  {x1 : Int32}  {n : Nat} {s : Int32 × Int32 × Int32 × Hp} {e : Int32 × Int32 × Hp} (hF : w_lp (fun (s : Int32 × Int32 × Int32 × Hp) => l_176_12 x1 s.1 s.2.1 s.2.2.1 s.2.2.2) n s = some e) (hX0 : ∀ (u4 : Value) (u5 : Value) (u6 : Value), k_Go X 1 176 (66, [.ref (1076 + 1), .int x1, .int e.1, .int e.2.1, u4, u5, u6], []) e.2.2 o) : ∀ (u5 : Value) (u6 : Value), k_Go X 1 176 (12, [.ref (1076 + 1), .int x1, .int s.1, .int s.2.1, .int s.2.2.1, u5, u6], []) s.2.2.2 o := by
  exact w_lp_ok (P := (fun (s : Int32 × Int32 × Int32 × Hp) => ∀ (u5 : Value) (u6 : Value), k_Go X 1 176 (12, [.ref (1076 + 1), .int x1, .int s.1, .int s.2.1, .int s.2.2.1, u5, u6], []) s.2.2.2 o)) (Q := (fun (e : Int32 × Int32 × Hp) => (∀ (u4 : Value) (u5 : Value) (u6 : Value), k_Go X 1 176 (66, [.ref (1076 + 1), .int x1, .int e.1, .int e.2.1, u4, u5, u6], []) e.2.2 o))) (fun s r hF hK hX => l_176_12_st hF hK (fun x hx => (hX _ hx))) n s e hF hX0
def l_176_6 (x1 : Int32) (x2 : Int32) (x3 : Int32) (h : Hp) : Option ((Int32 × Int32 × Hp) ⊕ Hp) :=
  if x3 = 0 then
    (some (.inr h))
  else
    ((w_lp (fun (s : Int32 × Int32 × Int32 × Hp) => l_176_12 x1 s.1 s.2.1 s.2.2.1 s.2.2.2) w_N (x2, 0, 0, h)).bind fun e14 =>
    some (.inl (e14.1, e14.2.1, e14.2.2)))
theorem l_176_6_st {X : List Int32} {o : kO}  {h : Hp} {x1 : Int32} {x2 : Int32} {x3 : Int32}  {r : (Int32 × Int32 × Hp) ⊕ Hp} (hF : l_176_6 x1 x2 x3 h = some r) (hK : ∀ s' : Int32 × Int32 × Hp, r = .inl s' → ∀ (u4 : Value) (u5 : Value) (u6 : Value), k_Go X 1 176 (6, [.ref (1076 + 1), .int x1, .int (s'.1), .int (s'.2.1), u4, u5, u6], []) s'.2.2 o) (hX0 : ∀ e : Hp, r = .inr e → (.inl none, e) = o) : ∀ (u4 : Value) (u5 : Value) (u6 : Value), k_Go X 1 176 (6, [.ref (1076 + 1), .int x1, .int x2, .int x3, u4, u5, u6], []) h o := by
  intro u4 u5 u6
  refine kg_iload hk_176 rfl rfl rfl ?_
  refine wf_if hF (fun c1 hF => ?_) (fun c1 hF => ?_)
  · refine kg_ifT hk_176 rfl (jc_T0 c1) ?_
    have hF := Option.some.inj hF
    exact kg_ret hk_176 rfl (hX0 _ hF.symm)
  · refine kg_ifF hk_176 rfl (jc_F0 c1) rfl ?_
    refine kg_push (x := 0) hk_176 rfl (by decide) rfl ?_
    refine kg_istore (L2 := [.ref (1076 + 1), .int x1, .int x2, .int 0, u4, u5, u6]) hk_176 rfl (Nat.le_of_ble_eq_true rfl) rfl rfl ?_
    refine kg_push (x := 0) hk_176 rfl (by decide) rfl ?_
    refine kg_istore (L2 := [.ref (1076 + 1), .int x1, .int x2, .int 0, .int 0, u5, u6]) hk_176 rfl (Nat.le_of_ble_eq_true rfl) rfl rfl ?_
    refine wf_bind hF (fun e14 he14 hF => ?_)
    refine l_176_12_ok he14 ?_ _ _
    intro u4 u5 u6
    refine kg_goto hk_176 rfl ?_
    have hF := Option.some.inj hF
    exact hK _ hF.symm _ _ _
theorem l_176_6_ok {X : List Int32} {o : kO}  {x1 : Int32}  {n : Nat} {s : Int32 × Int32 × Hp} {e : Hp} (hF : w_lp (fun (s : Int32 × Int32 × Hp) => l_176_6 x1 s.1 s.2.1 s.2.2) n s = some e) (hX0 : (.inl none, e) = o) : ∀ (u4 : Value) (u5 : Value) (u6 : Value), k_Go X 1 176 (6, [.ref (1076 + 1), .int x1, .int s.1, .int s.2.1, u4, u5, u6], []) s.2.2 o := by
  exact w_lp_ok (P := (fun (s : Int32 × Int32 × Hp) => ∀ (u4 : Value) (u5 : Value) (u6 : Value), k_Go X 1 176 (6, [.ref (1076 + 1), .int x1, .int s.1, .int s.2.1, u4, u5, u6], []) s.2.2 o)) (Q := (fun (e : Hp) => ((.inl none, e) = o))) (fun s r hF hK hX => l_176_6_st hF hK (fun x hx => (hX _ hx))) n s e hF hX0
def p_176 (h : Hp) (x1 : Int32) : Option (Hp) :=
  w_lp (fun (s : Int32 × Int32 × Hp) => l_176_6 x1 s.1 s.2.1 s.2.2) w_N ((1 <<< (x1 &&& 31)), 1, h)
theorem p_176_ok {X : List Int32}  {h : Hp} {x1 : Int32}  {r : Hp} (hF : p_176 h x1 = some r) : k_Ev X 1 176 [.ref (1076 + 1), .int x1] h (.inl none, r) := by
  refine k_of hk_176 ?_
  show k_Go X 1 176 (0, [.ref (1076 + 1), .int x1, (.retAddr 0), (.retAddr 0), (.retAddr 0), (.retAddr 0), (.retAddr 0)], []) h _
  unfold p_176 at hF
  refine kg_push (x := 1) hk_176 rfl (by decide) rfl ?_
  refine kg_iload hk_176 rfl rfl rfl ?_
  refine kg_bin (z := (1 <<< (x1 &&& 31))) hk_176 rfl rfl rfl ?_
  refine kg_istore (L2 := [.ref (1076 + 1), .int x1, .int (1 <<< (x1 &&& 31)), (.retAddr 0), (.retAddr 0), (.retAddr 0), (.retAddr 0)]) hk_176 rfl (Nat.le_of_ble_eq_true rfl) rfl rfl ?_
  refine kg_push (x := 1) hk_176 rfl (by decide) rfl ?_
  refine kg_istore (L2 := [.ref (1076 + 1), .int x1, .int (1 <<< (x1 &&& 31)), .int 1, (.retAddr 0), (.retAddr 0), (.retAddr 0)]) hk_176 rfl (Nat.le_of_ble_eq_true rfl) rfl rfl ?_
  exact l_176_6_ok hF rfl _ _ _
-- NotebookWeirModel.tick()I
theorem hk_177 : jP[177]? = some (jc_177, 2, [], []) := by rfl
def l_177_11 (x1 : Int32) (h : Hp) : Option ((Int32 × Hp) ⊕ Hp) :=
  if x1 < (h 1076 48) then
    (w_gd (w_ix x1 4) <|
    w_gd (w_ix x1 4) <|
    w_let (w_up h 1119 x1.toNatClampNeg (j_nar 52 (h 1117 x1.toNatClampNeg))) fun h6 =>
    w_gd (w_ix x1 4) <|
    w_gd ((if (h6 1117 x1.toNatClampNeg) = 0 then w_ix x1 4 else w_ix x1 4)) <|
    w_gd (w_ix x1 4) <|
    w_let (w_up h6 1115 x1.toNatClampNeg (if (h6 1117 x1.toNatClampNeg) = 0 then (h6 1115 x1.toNatClampNeg) else (h6 1116 x1.toNatClampNeg))) fun h13 =>
    some (.inl ((x1 + 1), h13)))
  else
    (some (.inr h))
theorem l_177_11_st {X : List Int32} {o : kO}  {h : Hp} {x1 : Int32}  {r : (Int32 × Hp) ⊕ Hp} (hF : l_177_11 x1 h = some r) (hK : ∀ s' : Int32 × Hp, r = .inl s' → k_Go X 14 177 (11, [.ref (1076 + 1), .int (s'.1)], []) s'.2 o) (hX0 : ∀ e : Hp, r = .inr e → ∀ (u1 : Value), k_Go X 14 177 (43, [.ref (1076 + 1), u1], []) e o) : k_Go X 14 177 (11, [.ref (1076 + 1), .int x1], []) h o := by
  refine kg_iload hk_177 rfl rfl rfl ?_
  refine kg_aload hk_177 rfl rfl rfl ?_
  refine kg_get (v := .int (h 1076 48)) hk_177 rfl wk_1076_48 rfl rfl ?_
  refine wf_if hF (fun c3 hF => ?_) (fun c3 hF => ?_)
  · refine kg_icF hk_177 rfl (jc_F3 c3) rfl ?_
    refine kg_aload hk_177 rfl rfl rfl ?_
    refine kg_get (v := .ref (1119 + 1)) hk_177 rfl wk_1076_56 rfl rfl ?_
    refine kg_iload hk_177 rfl rfl rfl ?_
    refine kg_aload hk_177 rfl rfl rfl ?_
    refine kg_get (v := .ref (1117 + 1)) hk_177 rfl wk_1076_54 rfl rfl ?_
    refine kg_iload hk_177 rfl rfl rfl ?_
    refine wf_gd hF (fun g4 hF => ?_)
    refine kg_ald (y := (h 1117 x1.toNatClampNeg)) hk_177 rfl wc_1117 g4 rfl rfl ?_
    refine wf_gd hF (fun g5 hF => ?_)
    refine wf_let hF (fun h6 hh6 hF => ?_)
    refine kg_ast hk_177 rfl wc_1119 g5 hh6 rfl ?_
    refine kg_aload hk_177 rfl rfl rfl ?_
    refine kg_get (v := .ref (1115 + 1)) hk_177 rfl wk_1076_52 rfl rfl ?_
    refine kg_iload hk_177 rfl rfl rfl ?_
    refine kg_aload hk_177 rfl rfl rfl ?_
    refine kg_get (v := .ref (1117 + 1)) hk_177 rfl wk_1076_54 rfl rfl ?_
    refine kg_iload hk_177 rfl rfl rfl ?_
    refine wf_gd hF (fun g7 hF => ?_)
    refine kg_ald (y := (h6 1117 x1.toNatClampNeg)) hk_177 rfl wc_1117 g7 rfl rfl ?_
    refine wf_gd hF (fun g11 hF => ?_)
    refine kv_mid (p := 40) (L := [.ref (1076 + 1), .int x1]) (S := [.int (if (h6 1117 x1.toNatClampNeg) = 0 then (h6 1115 x1.toNatClampNeg) else (h6 1116 x1.toNatClampNeg)), .int x1, .ref (1115 + 1)]) ?_ (fun hK => ?_)
    · refine wf_gd hF (fun g12 hF => ?_)
      refine wf_let hF (fun h13 hh13 hF => ?_)
      refine kg_ast hk_177 rfl wc_1115 g12 (by rw [j_nar50]; exact hh13) rfl ?_
      refine kg_iinc (y := (x1 + 1)) (L2 := [.ref (1076 + 1), .int (x1 + 1)]) hk_177 rfl rfl rfl rfl rfl ?_
      refine kg_goto hk_177 rfl ?_
      have hF := Option.some.inj hF
      exact hK _ hF.symm
    · have hg := g11
      by_cases c8 : (h6 1117 x1.toNatClampNeg) = 0
      · have hg := wv_T c8 hg
        have hK := kv_T c8 hK
        have g9 := hg
        refine kg_ifT hk_177 rfl (jc_T0 c8) ?_
        refine kg_aload hk_177 rfl rfl rfl ?_
        refine kg_get (v := .ref (1115 + 1)) hk_177 rfl wk_1076_52 rfl rfl ?_
        refine kg_iload hk_177 rfl rfl rfl ?_
        refine kg_ald (y := (h6 1115 x1.toNatClampNeg)) hk_177 rfl wc_1115 g9 rfl rfl ?_
        exact hK
      · have hg := wv_F c8 hg
        have hK := kv_F c8 hK
        have g10 := hg
        refine kg_ifF hk_177 rfl (jc_F0 c8) rfl ?_
        refine kg_aload hk_177 rfl rfl rfl ?_
        refine kg_get (v := .ref (1116 + 1)) hk_177 rfl wk_1076_53 rfl rfl ?_
        refine kg_iload hk_177 rfl rfl rfl ?_
        refine kg_ald (y := (h6 1116 x1.toNatClampNeg)) hk_177 rfl wc_1116 g10 rfl rfl ?_
        refine kg_goto hk_177 rfl ?_
        exact hK
  · refine kg_icT hk_177 rfl (jc_T3 c3) ?_
    have hF := Option.some.inj hF
    exact hX0 _ hF.symm _
theorem l_177_11_ok {X : List Int32} {o : kO}    {n : Nat} {s : Int32 × Hp} {e : Hp} (hF : w_lp (fun (s : Int32 × Hp) => l_177_11 s.1 s.2) n s = some e) (hX0 : ∀ (u1 : Value), k_Go X 14 177 (43, [.ref (1076 + 1), u1], []) e o) : k_Go X 14 177 (11, [.ref (1076 + 1), .int s.1], []) s.2 o := by
  exact w_lp_ok (P := (fun (s : Int32 × Hp) => k_Go X 14 177 (11, [.ref (1076 + 1), .int s.1], []) s.2 o)) (Q := (fun (e : Hp) => (∀ (u1 : Value), k_Go X 14 177 (43, [.ref (1076 + 1), u1], []) e o))) (fun s r hF hK hX => l_177_11_st hF hK (fun x hx => (hX _ hx))) n s e hF hX0
def q_177_57 (h : Hp) (x1 : Int32) : Option ((Int32 × Hp) ⊕ Hp) :=
  w_gd (w_ix x1 4) <|
  w_let (w_up h 1117 x1.toNatClampNeg (j_nar 52 0)) fun h19 =>
  some (.inl ((x1 + 1), h19))
theorem q_177_57_ok {X : List Int32} {o : kO}  {h : Hp} {x1 : Int32}  {r : (Int32 × Hp) ⊕ Hp} (hF : q_177_57 h x1 = some r) (hK : ∀ s' : Int32 × Hp, r = .inl s' → k_Go X 14 177 (45, [.ref (1076 + 1), .int (s'.1)], []) s'.2 o) (hX0 : ∀ e : Hp, r = .inr e → ∀ (u1 : Value), k_Go X 14 177 (64, [.ref (1076 + 1), u1], []) e o) : k_Go X 14 177 (57, [.ref (1076 + 1), .int x1], []) h o := by
  unfold q_177_57 at hF
  refine kg_aload hk_177 rfl rfl rfl ?_
  refine kg_get (v := .ref (1117 + 1)) hk_177 rfl wk_1076_54 rfl rfl ?_
  refine kg_iload hk_177 rfl rfl rfl ?_
  refine kg_push (x := 0) hk_177 rfl (by decide) rfl ?_
  refine wf_gd hF (fun g18 hF => ?_)
  refine wf_let hF (fun h19 hh19 hF => ?_)
  refine kg_ast hk_177 rfl wc_1117 g18 hh19 rfl ?_
  refine kg_iinc (y := (x1 + 1)) (L2 := [.ref (1076 + 1), .int (x1 + 1)]) hk_177 rfl rfl rfl rfl rfl ?_
  refine kg_goto hk_177 rfl ?_
  have hF := Option.some.inj hF
  exact hK _ hF.symm
def l_177_45 (x1 : Int32) (h : Hp) : Option ((Int32 × Hp) ⊕ Hp) :=
  if x1 < (h 1076 48) then
    (w_gd (w_ix x1 4) <|
    if (h 1117 x1.toNatClampNeg) = 0 then
      (q_177_57 h x1)
    else
      ((p_176 h x1).bind fun v20 =>
      q_177_57 v20 x1))
  else
    (some (.inr h))
theorem l_177_45_st {X : List Int32} {o : kO}  {h : Hp} {x1 : Int32}  {r : (Int32 × Hp) ⊕ Hp} (hF : l_177_45 x1 h = some r) (hK : ∀ s' : Int32 × Hp, r = .inl s' → k_Go X 14 177 (45, [.ref (1076 + 1), .int (s'.1)], []) s'.2 o) (hX0 : ∀ e : Hp, r = .inr e → ∀ (u1 : Value), k_Go X 14 177 (64, [.ref (1076 + 1), u1], []) e o) : k_Go X 14 177 (45, [.ref (1076 + 1), .int x1], []) h o := by
  refine kg_iload hk_177 rfl rfl rfl ?_
  refine kg_aload hk_177 rfl rfl rfl ?_
  refine kg_get (v := .int (h 1076 48)) hk_177 rfl wk_1076_48 rfl rfl ?_
  refine wf_if hF (fun c15 hF => ?_) (fun c15 hF => ?_)
  · refine kg_icF hk_177 rfl (jc_F3 c15) rfl ?_
    refine kg_aload hk_177 rfl rfl rfl ?_
    refine kg_get (v := .ref (1117 + 1)) hk_177 rfl wk_1076_54 rfl rfl ?_
    refine kg_iload hk_177 rfl rfl rfl ?_
    refine wf_gd hF (fun g16 hF => ?_)
    refine kg_ald (y := (h 1117 x1.toNatClampNeg)) hk_177 rfl wc_1117 g16 rfl rfl ?_
    refine wf_if hF (fun c17 hF => ?_) (fun c17 hF => ?_)
    · refine kg_ifT hk_177 rfl (jc_T0 c17) ?_
      exact q_177_57_ok hF hK hX0
    · refine kg_ifF hk_177 rfl (jc_F0 c17) rfl ?_
      refine kg_aload hk_177 rfl rfl rfl ?_
      refine kg_iload hk_177 rfl rfl rfl ?_
      refine wf_bind hF (fun v20 hv20 hF => ?_)
      refine kg_call (as := [.ref (1076 + 1), .int x1]) (rest := []) hk_177 rfl (Or.inr (Or.inr (Or.inr ⟨Or.inl rfl, _, _, rfl, wc_1076⟩))) rfl rfl rfl (Nat.not_lt.mpr (Nat.le_of_ble_eq_true rfl)) (p_176_ok hv20) (by decide) rfl ?_
      exact q_177_57_ok hF hK hX0
  · refine kg_icT hk_177 rfl (jc_T3 c15) ?_
    have hF := Option.some.inj hF
    exact hX0 _ hF.symm _
theorem l_177_45_ok {X : List Int32} {o : kO}    {n : Nat} {s : Int32 × Hp} {e : Hp} (hF : w_lp (fun (s : Int32 × Hp) => l_177_45 s.1 s.2) n s = some e) (hX0 : ∀ (u1 : Value), k_Go X 14 177 (64, [.ref (1076 + 1), u1], []) e o) : k_Go X 14 177 (45, [.ref (1076 + 1), .int s.1], []) s.2 o := by
  exact w_lp_ok (P := (fun (s : Int32 × Hp) => k_Go X 14 177 (45, [.ref (1076 + 1), .int s.1], []) s.2 o)) (Q := (fun (e : Hp) => (∀ (u1 : Value), k_Go X 14 177 (64, [.ref (1076 + 1), u1], []) e o))) (fun s r hF hK hX => l_177_45_st hF hK (fun x hx => (hX _ hx))) n s e hF hX0
def p_177 (h : Hp) : Option (Int32 × Hp) :=
  w_let (w_up h 1076 79 0) fun h1 =>
  w_let (w_up h1 1076 32 ((h1 1076 32) + 1)) fun h2 =>
  (w_lp (fun (s : Int32 × Hp) => l_177_11 s.1 s.2) w_N (0, h2)).bind fun e14 =>
  (w_lp (fun (s : Int32 × Hp) => l_177_45 s.1 s.2) w_N (0, e14)).bind fun e21 =>
  w_let (w_up e21 1076 45 0) fun h22 =>
  (p_192 h22).bind fun v23 =>
  some ((v23 1076 32), v23)
theorem p_177_ok {X : List Int32}  {h : Hp}   {r : Int32 × Hp} (hF : p_177 h = some r) : k_Ev X 14 177 [.ref (1076 + 1)] h (.inl (some (.int r.1)), r.2) := by
  refine k_of hk_177 ?_
  show k_Go X 14 177 (0, [.ref (1076 + 1), (.retAddr 0)], []) h _
  unfold p_177 at hF
  refine kg_aload hk_177 rfl rfl rfl ?_
  refine kg_push (x := 0) hk_177 rfl (by decide) rfl ?_
  refine wf_let hF (fun h1 hh1 hF => ?_)
  refine kg_put hk_177 rfl wk_1076_79 rfl rfl hh1 rfl ?_
  refine kg_aload hk_177 rfl rfl rfl ?_
  refine kg_dup hk_177 rfl rfl rfl ?_
  refine kg_get (v := .int (h1 1076 32)) hk_177 rfl wk_1076_32 rfl rfl ?_
  refine kg_push (x := 1) hk_177 rfl (by decide) rfl ?_
  refine kg_bin (z := ((h1 1076 32) + 1)) hk_177 rfl rfl rfl ?_
  refine wf_let hF (fun h2 hh2 hF => ?_)
  refine kg_put hk_177 rfl wk_1076_32 rfl rfl hh2 rfl ?_
  refine kg_push (x := 0) hk_177 rfl (by decide) rfl ?_
  refine kg_istore (L2 := [.ref (1076 + 1), .int 0]) hk_177 rfl (Nat.le_of_ble_eq_true rfl) rfl rfl ?_
  refine wf_bind hF (fun e14 he14 hF => ?_)
  refine l_177_11_ok he14 ?_
  intro u1
  refine kg_push (x := 0) hk_177 rfl (by decide) rfl ?_
  refine kg_istore (L2 := [.ref (1076 + 1), .int 0]) hk_177 rfl (Nat.le_of_ble_eq_true rfl) rfl rfl ?_
  refine wf_bind hF (fun e21 he21 hF => ?_)
  refine l_177_45_ok he21 ?_
  intro u1
  refine kg_aload hk_177 rfl rfl rfl ?_
  refine kg_push (x := 0) hk_177 rfl (by decide) rfl ?_
  refine wf_let hF (fun h22 hh22 hF => ?_)
  refine kg_put hk_177 rfl wk_1076_45 rfl (w_fitB rfl) hh22 rfl ?_
  refine kg_aload hk_177 rfl rfl rfl ?_
  refine wf_bind hF (fun v23 hv23 hF => ?_)
  refine kg_call (as := [.ref (1076 + 1)]) (rest := []) hk_177 rfl (Or.inr (Or.inr (Or.inr ⟨Or.inl rfl, _, _, rfl, wc_1076⟩))) rfl rfl rfl (Nat.not_lt.mpr (Nat.le_of_ble_eq_true rfl)) (p_192_ok hv23) (by decide) rfl ?_
  refine kg_aload hk_177 rfl rfl rfl ?_
  refine kg_get (v := .int (v23 1076 32)) hk_177 rfl wk_1076_32 rfl rfl ?_
  have hF := Option.some.inj hF
  subst hF
  exact kg_iret hk_177 rfl (Or.inl rfl) rfl
-- NotebookWeirModel.shows(I)I
theorem hk_178 : jP[178]? = some (jc_178, 2, [], []) := by rfl
def p_178 (h : Hp) (x1 : Int32) : Option (Int32 × Hp) :=
  (p_146 h (v_172 h x1) 1 1).bind fun v1 =>
  w_gd ((if v1.1 = 0 then true else w_ix x1 4)) <|
  some ((if v1.1 = 0 then 0 else (v1.2 1115 x1.toNatClampNeg)), v1.2)
theorem p_178_ok {X : List Int32}  {h : Hp} {x1 : Int32}  {r : Int32 × Hp} (hF : p_178 h x1 = some r) : k_Ev X 2 178 [.ref (1076 + 1), .int x1] h (.inl (some (.int r.1)), r.2) := by
  refine k_of hk_178 ?_
  show k_Go X 2 178 (0, [.ref (1076 + 1), .int x1], []) h _
  unfold p_178 at hF
  refine kg_aload hk_178 rfl rfl rfl ?_
  refine kg_aload hk_178 rfl rfl rfl ?_
  refine kg_iload hk_178 rfl rfl rfl ?_
  refine kg_call (as := [.ref (1076 + 1), .int x1]) (rest := [.ref (1076 + 1)]) hk_178 rfl (Or.inr (Or.inr (Or.inr ⟨Or.inl rfl, _, _, rfl, wc_1076⟩))) rfl rfl rfl (Nat.not_lt.mpr (Nat.le_of_ble_eq_true rfl)) (v_172_ok) (by decide) rfl ?_
  refine kg_push (x := 1) hk_178 rfl (by decide) rfl ?_
  refine kg_push (x := 1) hk_178 rfl (by decide) rfl ?_
  refine wf_bind hF (fun v1 hv1 hF => ?_)
  refine kg_call (as := [.ref (1076 + 1), .int (v_172 h x1), .int 1, .int 1]) (rest := []) hk_178 rfl (Or.inr (Or.inr (Or.inr ⟨Or.inl rfl, _, _, rfl, wc_1076⟩))) rfl rfl rfl (Nat.not_lt.mpr (Nat.le_of_ble_eq_true rfl)) (p_146_ok hv1) (by decide) rfl ?_
  refine wf_gd hF (fun g4 hF => ?_)
  refine kv_mid (p := 14) (L := [.ref (1076 + 1), .int x1]) (S := [.int (if v1.1 = 0 then 0 else (v1.2 1115 x1.toNatClampNeg))]) ?_ (fun hK => ?_)
  · have hF := Option.some.inj hF
    subst hF
    exact kg_iret hk_178 rfl (Or.inl rfl) rfl
  · have hg := g4
    by_cases c2 : v1.1 = 0
    · have hK := kv_T c2 hK
      refine kg_ifT hk_178 rfl (jc_T0 c2) ?_
      refine kg_push (x := 0) hk_178 rfl (by decide) rfl ?_
      exact hK
    · have hg := wv_F c2 hg
      have hK := kv_F c2 hK
      have g3 := hg
      refine kg_ifF hk_178 rfl (jc_F0 c2) rfl ?_
      refine kg_aload hk_178 rfl rfl rfl ?_
      refine kg_get (v := .ref (1115 + 1)) hk_178 rfl wk_1076_52 rfl rfl ?_
      refine kg_iload hk_178 rfl rfl rfl ?_
      refine kg_ald (y := (v1.2 1115 x1.toNatClampNeg)) hk_178 rfl wc_1115 g3 rfl rfl ?_
      refine kg_goto hk_178 rfl ?_
      exact hK
