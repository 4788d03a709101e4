/-! ===== the methods as functions over the flat heap, and that the interpreter does what they say (printed by wip/whole/dec.py) ===== -/
-- NotebookWeir$Machine.handOver(LNotebookWeir$Code;LNotebookWeir$Values;)V
theorem hk_17 : jP[17]? = some (jc_17, 4, [], []) := by rfl
def l_17_4 (q1 : Nat) (q2 : Nat) (x3 : Int32) (h : Hp) : Option ((Int32 × Hp) ⊕ Hp) :=
  if x3 < 26 then
    (if (v_126 ((h q1 5) ||| (h q1 6)) x3) = 0 then
      (some (.inl ((x3 + 1), h)))
    else
      ((p_71 h q2 x3 29 x3).bind fun v4 =>
      some (.inl ((x3 + 1), v4))))
  else
    (some (.inr h))
theorem l_17_4_st {X : List Int32} {o : kO}  {h : Hp} {q1 : Nat} {q2 : Nat} {x3 : Int32} (t1 : w_ob q1 1) (t2 : w_ob q2 8) {r : (Int32 × Hp) ⊕ Hp} (hF : l_17_4 q1 q2 x3 h = some r) (hK : ∀ s' : Int32 × Hp, r = .inl s' → k_Go X 1 17 (4, [.ref (28 + 1), .ref (q1 + 1), .ref (q2 + 1), .int (s'.1)], []) s'.2 o) (hX0 : ∀ e : Hp, r = .inr e → ∀ (u1 : Value) (u3 : Value), k_Go X 1 17 (23, [.ref (28 + 1), u1, .ref (q2 + 1), u3], []) e o) : k_Go X 1 17 (4, [.ref (28 + 1), .ref (q1 + 1), .ref (q2 + 1), .int x3], []) h o := by
  refine kg_iload hk_17 rfl rfl rfl ?_
  refine kg_push (x := 26) hk_17 rfl (by decide) rfl ?_
  refine wf_if hF (fun c2 hF => ?_) (fun c2 hF => ?_)
  · refine kg_icF hk_17 rfl (jc_F3 c2) rfl ?_
    refine kg_aload hk_17 rfl rfl rfl ?_
    refine kg_get (v := .int (h q1 5)) hk_17 rfl (wf_1_5 t1) rfl rfl ?_
    refine kg_aload hk_17 rfl rfl rfl ?_
    refine kg_get (v := .int (h q1 6)) hk_17 rfl (wf_1_6 t1) rfl rfl ?_
    refine kg_bin (z := ((h q1 5) ||| (h q1 6))) hk_17 rfl rfl rfl ?_
    refine kg_iload hk_17 rfl rfl rfl ?_
    refine kg_call (as := [.int ((h q1 5) ||| (h q1 6)), .int x3]) (rest := []) hk_17 rfl (Or.inr (Or.inl rfl)) rfl rfl rfl (Nat.not_lt.mpr (Nat.le_of_ble_eq_true rfl)) (v_126_ok) (by decide) rfl ?_
    refine wf_if hF (fun c3 hF => ?_) (fun c3 hF => ?_)
    · refine kg_ifT hk_17 rfl (jc_T0 c3) ?_
      refine kg_iinc (y := (x3 + 1)) (L2 := [.ref (28 + 1), .ref (q1 + 1), .ref (q2 + 1), .int (x3 + 1)]) hk_17 rfl rfl rfl rfl rfl ?_
      refine kg_goto hk_17 rfl ?_
      have hF := Option.some.inj hF
      exact hK _ hF.symm
    · refine kg_ifF hk_17 rfl (jc_F0 c3) rfl ?_
      refine kg_aload hk_17 rfl rfl rfl ?_
      refine kg_iload hk_17 rfl rfl rfl ?_
      refine kg_aload hk_17 rfl rfl rfl ?_
      refine kg_get (v := .ref (29 + 1)) hk_17 rfl wk_28_0 rfl rfl ?_
      refine kg_iload hk_17 rfl rfl rfl ?_
      refine wf_bind hF (fun v4 hv4 hF => ?_)
      refine kg_call (as := [.ref (q2 + 1), .int x3, .ref (29 + 1), .int x3]) (rest := []) hk_17 rfl (Or.inr (Or.inr (Or.inr ⟨Or.inl rfl, _, _, rfl, t2⟩))) rfl rfl rfl (Nat.not_lt.mpr (Nat.le_of_ble_eq_true rfl)) (p_71_ok t2 wc_29 hv4) (by decide) rfl ?_
      refine kg_iinc (y := (x3 + 1)) (L2 := [.ref (28 + 1), .ref (q1 + 1), .ref (q2 + 1), .int (x3 + 1)]) hk_17 rfl rfl rfl rfl rfl ?_
      refine kg_goto hk_17 rfl ?_
      have hF := Option.some.inj hF
      exact hK _ hF.symm
  · refine kg_icT hk_17 rfl (jc_T3 c2) ?_
    have hF := Option.some.inj hF
    exact hX0 _ hF.symm _ _
theorem l_17_4_ok {X : List Int32} {o : kO}  {q1 : Nat} {q2 : Nat} (t1 : w_ob q1 1) (t2 : w_ob q2 8) {n : Nat} {s : Int32 × Hp} {e : Hp} (hF : w_lp (fun (s : Int32 × Hp) => l_17_4 q1 q2 s.1 s.2) n s = some e) (hX0 : ∀ (u1 : Value) (u3 : Value), k_Go X 1 17 (23, [.ref (28 + 1), u1, .ref (q2 + 1), u3], []) e o) : k_Go X 1 17 (4, [.ref (28 + 1), .ref (q1 + 1), .ref (q2 + 1), .int s.1], []) s.2 o := by
  exact w_lp_ok (P := (fun (s : Int32 × Hp) => k_Go X 1 17 (4, [.ref (28 + 1), .ref (q1 + 1), .ref (q2 + 1), .int s.1], []) s.2 o)) (Q := (fun (e : Hp) => (∀ (u1 : Value) (u3 : Value), k_Go X 1 17 (23, [.ref (28 + 1), u1, .ref (q2 + 1), u3], []) e o))) (fun s r hF hK hX => l_17_4_st t1 t2 hF hK (fun x hx => (hX _ hx))) n s e hF hX0
def p_17 (h : Hp) (q1 : Nat) (q2 : Nat) : Option (Hp) :=
  (p_67 h q2).bind fun v1 =>
  (w_lp (fun (s : Int32 × Hp) => l_17_4 q1 q2 s.1 s.2) w_N (0, v1)).bind fun e5 =>
  (p_71 e5 q2 26 29 26).bind fun v6 =>
  some v6
theorem p_17_ok {X : List Int32}  {h : Hp} {q1 : Nat} {q2 : Nat} (t1 : w_ob q1 1) (t2 : w_ob q2 8) {r : Hp} (hF : p_17 h q1 q2 = some r) : k_Ev X 1 17 [.ref (28 + 1), .ref (q1 + 1), .ref (q2 + 1)] h (.inl none, r) := by
  refine k_of hk_17 ?_
  show k_Go X 1 17 (0, [.ref (28 + 1), .ref (q1 + 1), .ref (q2 + 1), (.retAddr 0)], []) h _
  unfold p_17 at hF
  refine kg_aload hk_17 rfl rfl rfl ?_
  refine wf_bind hF (fun v1 hv1 hF => ?_)
  refine kg_call (as := [.ref (q2 + 1)]) (rest := []) hk_17 rfl (Or.inr (Or.inr (Or.inr ⟨Or.inl rfl, _, _, rfl, t2⟩))) rfl rfl rfl (Nat.not_lt.mpr (Nat.le_of_ble_eq_true rfl)) (p_67_ok t2 hv1) (by decide) rfl ?_
  refine kg_push (x := 0) hk_17 rfl (by decide) rfl ?_
  refine kg_istore (L2 := [.ref (28 + 1), .ref (q1 + 1), .ref (q2 + 1), .int 0]) hk_17 rfl (Nat.le_of_ble_eq_true rfl) rfl rfl ?_
  refine wf_bind hF (fun e5 he5 hF => ?_)
  refine l_17_4_ok t1 t2 he5 ?_
  intro u1 u3
  refine kg_aload hk_17 rfl rfl rfl ?_
  refine kg_push (x := 26) hk_17 rfl (by decide) rfl ?_
  refine kg_aload hk_17 rfl rfl rfl ?_
  refine kg_get (v := .ref (29 + 1)) hk_17 rfl wk_28_0 rfl rfl ?_
  refine kg_push (x := 26) hk_17 rfl (by decide) rfl ?_
  refine wf_bind hF (fun v6 hv6 hF => ?_)
  refine kg_call (as := [.ref (q2 + 1), .int 26, .ref (29 + 1), .int 26]) (rest := []) hk_17 rfl (Or.inr (Or.inr (Or.inr ⟨Or.inl rfl, _, _, rfl, t2⟩))) rfl rfl rfl (Nat.not_lt.mpr (Nat.le_of_ble_eq_true rfl)) (p_71_ok t2 wc_29 hv6) (by decide) rfl ?_
  have hF := Option.some.inj hF
  subst hF
  exact kg_ret hk_17 rfl rfl
-- NotebookWeir$Text.at(I)I
theorem hk_58 : jP[58]? = some (jc_58, 2, [], []) := by rfl
def v_58 (h : Hp) (q0 : Nat) (x1 : Int32) : Int32 := (if x1 < 0 then (-1) else (if x1 < (h q0 1) then (h (q0 + 1) x1.toNatClampNeg) else (-1)))
def g_58 (h : Hp) (q0 : Nat) (x1 : Int32) : Bool := (if x1 < 0 then true else (if x1 < (h q0 1) then w_ix x1 40 else true))
theorem v_58_ok {X : List Int32} {h : Hp} {q0 : Nat} {x1 : Int32} (t0 : w_ob q0 7) (hg : g_58 h q0 x1 = true) : k_Ev X 0 58 [.ref (q0 + 1), .int x1] h (.inl (some (.int (v_58 h q0 x1))), h) := by
  refine k_of hk_58 ?_
  show k_Go X 0 58 (0, [.ref (q0 + 1), .int x1], []) h _
  generalize hv : v_58 h q0 x1 = z
  unfold v_58 at hv
  unfold g_58 at hg
  have g4 := hg
  refine kg_iload hk_58 rfl rfl rfl ?_
  refine kv_mid (p := 12) (L := [.ref (q0 + 1), .int x1]) (S := [.int (if x1 < 0 then (-1) else (if x1 < (h q0 1) then (h (q0 + 1) x1.toNatClampNeg) else (-1)))]) ?_ (fun hK => ?_)
  · exact kg_iret hk_58 rfl (Or.inl rfl) (by rw [hv])
  · have hg := g4
    by_cases c1 : x1 < 0
    · have hK := kv_T c1 hK
      refine kg_ifT hk_58 rfl (jc_T2 c1) ?_
      refine kg_push (x := (-1)) hk_58 rfl (by decide) rfl ?_
      exact hK
    · have hg := wv_F c1 hg
      have hK := kv_F c1 hK
      refine kg_ifF hk_58 rfl (jc_F2 c1) rfl ?_
      refine kg_iload hk_58 rfl rfl rfl ?_
      refine kg_aload hk_58 rfl rfl rfl ?_
      refine kg_get (v := .int (h q0 1)) hk_58 rfl (wf_7_1 t0) rfl rfl ?_
      by_cases c2 : x1 < (h q0 1)
      · have hg := wv_T c2 hg
        have hK := kv_T c2 hK
        have g3 := hg
        refine kg_icF hk_58 rfl (jc_F3 c2) rfl ?_
        refine kg_aload hk_58 rfl rfl rfl ?_
        refine kg_get (v := .ref ((q0 + 1) + 1)) hk_58 rfl (wf_7_0 t0) rfl rfl ?_
        refine kg_iload hk_58 rfl rfl rfl ?_
        refine kg_ald (y := (h (q0 + 1) x1.toNatClampNeg)) hk_58 rfl (wo_7_0 t0) g3 rfl rfl ?_
        refine kg_goto hk_58 rfl ?_
        exact hK
      · have hK := kv_F c2 hK
        refine kg_icT hk_58 rfl (jc_T3 c2) ?_
        refine kg_push (x := (-1)) hk_58 rfl (by decide) rfl ?_
        exact hK
-- NotebookWeir$Reader.skip(C)Z
theorem hk_36 : jP[36]? = some (jc_36, 2, [], []) := by rfl
def p_36 (h : Hp) (x1 : Int32) : Option (Int32 × Hp) :=
  w_gd (w_tag (h 17 0).toNatClampNeg == 7 && 7 != 999) <|
  w_gd (g_58 h ((h 17 0).toNatClampNeg) (h 17 2)) <|
  if (v_58 h ((h 17 0).toNatClampNeg) (h 17 2)) = x1 then
    (w_let (w_up h 17 2 ((h 17 2) + 1)) fun h4 =>
    some (1, h4))
  else
    (some (0, h))
theorem p_36_ok {X : List Int32}  {h : Hp} {x1 : Int32}  {r : Int32 × Hp} (hF : p_36 h x1 = some r) : k_Ev X 1 36 [.ref (17 + 1), .int x1] h (.inl (some (.int r.1)), r.2) := by
  refine k_of hk_36 ?_
  show k_Go X 1 36 (0, [.ref (17 + 1), .int x1], []) h _
  unfold p_36 at hF
  refine kg_aload hk_36 rfl rfl rfl ?_
  refine wf_gd hF (fun g1 hF => ?_)
  refine kg_get (v := .ref (((h 17 0).toNatClampNeg) + 1)) hk_36 rfl wk_17_0 rfl rfl ?_
  refine kg_aload hk_36 rfl rfl rfl ?_
  refine kg_get (v := .int (h 17 2)) hk_36 rfl wk_17_2 rfl rfl ?_
  refine wf_gd hF (fun g2 hF => ?_)
  refine kg_call (as := [.ref (((h 17 0).toNatClampNeg) + 1), .int (h 17 2)]) (rest := []) hk_36 rfl (Or.inr (Or.inr (Or.inr ⟨Or.inl rfl, _, _, rfl, (w_tagE g1)⟩))) rfl rfl rfl (Nat.not_lt.mpr (Nat.le_of_ble_eq_true rfl)) (v_58_ok (w_tagE g1) g2) (by decide) rfl ?_
  refine kg_iload hk_36 rfl rfl rfl ?_
  refine wf_if hF (fun c3 hF => ?_) (fun c3 hF => ?_)
  · refine kg_icT hk_36 rfl (jc_T0 c3) ?_
    refine kg_aload hk_36 rfl rfl rfl ?_
    refine kg_dup hk_36 rfl rfl rfl ?_
    refine kg_get (v := .int (h 17 2)) hk_36 rfl wk_17_2 rfl rfl ?_
    refine kg_push (x := 1) hk_36 rfl (by decide) rfl ?_
    refine kg_bin (z := ((h 17 2) + 1)) hk_36 rfl rfl rfl ?_
    refine wf_let hF (fun h4 hh4 hF => ?_)
    refine kg_put hk_36 rfl wk_17_2 rfl rfl hh4 rfl ?_
    refine kg_push (x := 1) hk_36 rfl (by decide) rfl ?_
    have hF := Option.some.inj hF
    subst hF
    exact kg_iret hk_36 rfl (Or.inr rfl) rfl
  · refine kg_icF hk_36 rfl (jc_F0 c3) rfl ?_
    refine kg_push (x := 0) hk_36 rfl (by decide) rfl ?_
    have hF := Option.some.inj hF
    subst hF
    exact kg_iret hk_36 rfl (Or.inr rfl) rfl
-- NotebookWeir.isName(I)Z
theorem hk_123 : jP[123]? = some (jc_123, 1, [], []) := by rfl
def v_123 (x0 : Int32) : Int32 := (if x0 < 97 then 0 else (if x0 ≤ 122 then 1 else 0))
theorem v_123_bo (x0 : Int32) : w_bo (v_123 x0) = true := by
  unfold v_123
  exact (w_boi rfl (w_boi rfl rfl))
theorem v_123_ok {X : List Int32} {h : Hp} {x0 : Int32}  : k_Ev X 0 123 [.int x0] h (.inl (some (.int (v_123 x0))), h) := by
  refine k_of hk_123 ?_
  show k_Go X 0 123 (0, [.int x0], []) h _
  generalize hv : v_123 x0 = z
  unfold v_123 at hv
  refine kg_iload hk_123 rfl rfl rfl ?_
  refine kg_push (x := 97) hk_123 rfl (by decide) rfl ?_
  refine kv_mid (p := 9) (L := [.int x0]) (S := [.int (if x0 < 97 then 0 else (if x0 ≤ 122 then 1 else 0))]) ?_ (fun hK => ?_)
  · exact kg_iret hk_123 rfl (Or.inr (w_boi rfl (w_boi rfl rfl))) (by rw [hv])
  · by_cases c1 : x0 < 97
    · have hK := kv_T c1 hK
      refine kg_icT hk_123 rfl (jc_T2 c1) ?_
      refine kg_push (x := 0) hk_123 rfl (by decide) rfl ?_
      exact hK
    · have hK := kv_F c1 hK
      refine kg_icF hk_123 rfl (jc_F2 c1) rfl ?_
      refine kg_iload hk_123 rfl rfl rfl ?_
      refine kg_push (x := 122) hk_123 rfl (by decide) rfl ?_
      by_cases c2 : x0 ≤ 122
      · have hK := kv_T c2 hK
        refine kg_icF hk_123 rfl (jc_F4 c2) rfl ?_
        refine kg_push (x := 1) hk_123 rfl (by decide) rfl ?_
        refine kg_goto hk_123 rfl ?_
        exact hK
      · have hK := kv_F c2 hK
        refine kg_icT hk_123 rfl (jc_T4 c2) ?_
        refine kg_push (x := 0) hk_123 rfl (by decide) rfl ?_
        exact hK
-- NotebookWeir$Reader.readName()I
theorem hk_37 : jP[37]? = some (jc_37, 2, [], []) := by rfl
def p_37 (h : Hp) : Option (Int32 × Hp) :=
  w_gd (w_tag (h 17 0).toNatClampNeg == 7 && 7 != 999) <|
  w_gd (g_58 h ((h 17 0).toNatClampNeg) (h 17 2)) <|
  if (v_123 (v_58 h ((h 17 0).toNatClampNeg) (h 17 2))) = 0 then
    (some ((-1), h))
  else
    (w_let (w_up h 17 2 ((h 17 2) + 1)) fun h4 =>
    some (((v_58 h ((h 17 0).toNatClampNeg) (h 17 2)) - 97), h4))
theorem p_37_ok {X : List Int32}  {h : Hp}   {r : Int32 × Hp} (hF : p_37 h = some r) : k_Ev X 1 37 [.ref (17 + 1)] h (.inl (some (.int r.1)), r.2) := by
  refine k_of hk_37 ?_
  show k_Go X 1 37 (0, [.ref (17 + 1), (.retAddr 0)], []) h _
  unfold p_37 at hF
  refine kg_aload hk_37 rfl rfl rfl ?_
  refine wf_gd hF (fun g1 hF => ?_)
  refine kg_get (v := .ref (((h 17 0).toNatClampNeg) + 1)) hk_37 rfl wk_17_0 rfl rfl ?_
  refine kg_aload hk_37 rfl rfl rfl ?_
  refine kg_get (v := .int (h 17 2)) hk_37 rfl wk_17_2 rfl rfl ?_
  refine wf_gd hF (fun g2 hF => ?_)
  refine kg_call (as := [.ref (((h 17 0).toNatClampNeg) + 1), .int (h 17 2)]) (rest := []) hk_37 rfl (Or.inr (Or.inr (Or.inr ⟨Or.inl rfl, _, _, rfl, (w_tagE g1)⟩))) rfl rfl rfl (Nat.not_lt.mpr (Nat.le_of_ble_eq_true rfl)) (v_58_ok (w_tagE g1) g2) (by decide) rfl ?_
  refine kg_istore (L2 := [.ref (17 + 1), .int (v_58 h ((h 17 0).toNatClampNeg) (h 17 2))]) hk_37 rfl (Nat.le_of_ble_eq_true rfl) rfl rfl ?_
  refine kg_iload hk_37 rfl rfl rfl ?_
  refine kg_call (as := [.int (v_58 h ((h 17 0).toNatClampNeg) (h 17 2))]) (rest := []) hk_37 rfl (Or.inr (Or.inl rfl)) rfl rfl rfl (Nat.not_lt.mpr (Nat.le_of_ble_eq_true rfl)) (v_123_ok) (by decide) rfl ?_
  refine wf_if hF (fun c3 hF => ?_) (fun c3 hF => ?_)
  · refine kg_ifF hk_37 rfl (jc_F1 c3) rfl ?_
    refine kg_push (x := (-1)) hk_37 rfl (by decide) rfl ?_
    have hF := Option.some.inj hF
    subst hF
    exact kg_iret hk_37 rfl (Or.inl rfl) rfl
  · refine kg_ifT hk_37 rfl (jc_T1 c3) ?_
    refine kg_aload hk_37 rfl rfl rfl ?_
    refine kg_dup hk_37 rfl rfl rfl ?_
    refine kg_get (v := .int (h 17 2)) hk_37 rfl wk_17_2 rfl rfl ?_
    refine kg_push (x := 1) hk_37 rfl (by decide) rfl ?_
    refine kg_bin (z := ((h 17 2) + 1)) hk_37 rfl rfl rfl ?_
    refine wf_let hF (fun h4 hh4 hF => ?_)
    refine kg_put hk_37 rfl wk_17_2 rfl rfl hh4 rfl ?_
    refine kg_iload hk_37 rfl rfl rfl ?_
    refine kg_push (x := 97) hk_37 rfl (by decide) rfl ?_
    refine kg_bin (z := ((v_58 h ((h 17 0).toNatClampNeg) (h 17 2)) - 97)) hk_37 rfl rfl rfl ?_
    have hF := Option.some.inj hF
    subst hF
    exact kg_iret hk_37 rfl (Or.inl rfl) rfl
-- NotebookWeir$Reader.noteChange(I)V
theorem hk_41 : jP[41]? = some (jc_41, 2, [], []) := by rfl
def p_41 (h : Hp) (x1 : Int32) : Option (Hp) :=
  w_gd ((h 17 1) == 24) <|
  if (v_126 (h 24 5) x1) = 0 then
    (w_gd ((h 17 1) == 24) <|
    w_let (w_up h 24 6 ((h 24 6) ||| (1 <<< (x1 &&& 31)))) fun h4 =>
    w_gd ((h4 17 1) == 24) <|
    w_let (w_up h4 24 7 ((h4 24 7) ||| (1 <<< (x1 &&& 31)))) fun h6 =>
    some h6)
  else
    (some h)
theorem p_41_ok {X : List Int32}  {h : Hp} {x1 : Int32}  {r : Hp} (hF : p_41 h x1 = some r) : k_Ev X 1 41 [.ref (17 + 1), .int x1] h (.inl none, r) := by
  refine k_of hk_41 ?_
  show k_Go X 1 41 (0, [.ref (17 + 1), .int x1], []) h _
  unfold p_41 at hF
  refine kg_aload hk_41 rfl rfl rfl ?_
  refine wf_gd hF (fun g1 hF => ?_)
  refine kg_get (v := .ref (24 + 1)) hk_41 rfl wk_17_1 (by rw [beq_iff_eq.mp g1]; rfl) rfl ?_
  refine kg_get (v := .int (h 24 5)) hk_41 rfl wk_24_5 rfl rfl ?_
  refine kg_iload hk_41 rfl rfl rfl ?_
  refine kg_call (as := [.int (h 24 5), .int x1]) (rest := []) hk_41 rfl (Or.inr (Or.inl rfl)) rfl rfl rfl (Nat.not_lt.mpr (Nat.le_of_ble_eq_true rfl)) (v_126_ok) (by decide) rfl ?_
  refine wf_if hF (fun c2 hF => ?_) (fun c2 hF => ?_)
  · refine kg_ifF hk_41 rfl (jc_F1 c2) rfl ?_
    refine kg_aload hk_41 rfl rfl rfl ?_
    refine wf_gd hF (fun g3 hF => ?_)
    refine kg_get (v := .ref (24 + 1)) hk_41 rfl wk_17_1 (by rw [beq_iff_eq.mp g3]; rfl) rfl ?_
    refine kg_dup hk_41 rfl rfl rfl ?_
    refine kg_get (v := .int (h 24 6)) hk_41 rfl wk_24_6 rfl rfl ?_
    refine kg_push (x := 1) hk_41 rfl (by decide) rfl ?_
    refine kg_iload hk_41 rfl rfl rfl ?_
    refine kg_bin (z := (1 <<< (x1 &&& 31))) hk_41 rfl rfl rfl ?_
    refine kg_bin (z := ((h 24 6) ||| (1 <<< (x1 &&& 31)))) hk_41 rfl rfl rfl ?_
    refine wf_let hF (fun h4 hh4 hF => ?_)
    refine kg_put hk_41 rfl wk_24_6 rfl rfl hh4 rfl ?_
    refine kg_aload hk_41 rfl rfl rfl ?_
    refine wf_gd hF (fun g5 hF => ?_)
    refine kg_get (v := .ref (24 + 1)) hk_41 rfl wk_17_1 (by rw [beq_iff_eq.mp g5]; rfl) rfl ?_
    refine kg_dup hk_41 rfl rfl rfl ?_
    refine kg_get (v := .int (h4 24 7)) hk_41 rfl wk_24_7 rfl rfl ?_
    refine kg_push (x := 1) hk_41 rfl (by decide) rfl ?_
    refine kg_iload hk_41 rfl rfl rfl ?_
    refine kg_bin (z := (1 <<< (x1 &&& 31))) hk_41 rfl rfl rfl ?_
    refine kg_bin (z := ((h4 24 7) ||| (1 <<< (x1 &&& 31)))) hk_41 rfl rfl rfl ?_
    refine wf_let hF (fun h6 hh6 hF => ?_)
    refine kg_put hk_41 rfl wk_24_7 rfl rfl hh6 rfl ?_
    have hF := Option.some.inj hF
    subst hF
    exact kg_ret hk_41 rfl rfl
  · refine kg_ifT hk_41 rfl (jc_T1 c2) ?_
    have hF := Option.some.inj hF
    subst hF
    exact kg_ret hk_41 rfl rfl
-- NotebookWeir.isDigit(I)Z
theorem hk_124 : jP[124]? = some (jc_124, 1, [], []) := by rfl
def v_124 (x0 : Int32) : Int32 := (if x0 < 48 then 0 else (if x0 ≤ 57 then 1 else 0))
theorem v_124_bo (x0 : Int32) : w_bo (v_124 x0) = true := by
  unfold v_124
  exact (w_boi rfl (w_boi rfl rfl))
theorem v_124_ok {X : List Int32} {h : Hp} {x0 : Int32}  : k_Ev X 0 124 [.int x0] h (.inl (some (.int (v_124 x0))), h) := by
  refine k_of hk_124 ?_
  show k_Go X 0 124 (0, [.int x0], []) h _
  generalize hv : v_124 x0 = z
  unfold v_124 at hv
  refine kg_iload hk_124 rfl rfl rfl ?_
  refine kg_push (x := 48) hk_124 rfl (by decide) rfl ?_
  refine kv_mid (p := 9) (L := [.int x0]) (S := [.int (if x0 < 48 then 0 else (if x0 ≤ 57 then 1 else 0))]) ?_ (fun hK => ?_)
  · exact kg_iret hk_124 rfl (Or.inr (w_boi rfl (w_boi rfl rfl))) (by rw [hv])
  · by_cases c1 : x0 < 48
    · have hK := kv_T c1 hK
      refine kg_icT hk_124 rfl (jc_T2 c1) ?_
      refine kg_push (x := 0) hk_124 rfl (by decide) rfl ?_
      exact hK
    · have hK := kv_F c1 hK
      refine kg_icF hk_124 rfl (jc_F2 c1) rfl ?_
      refine kg_iload hk_124 rfl rfl rfl ?_
      refine kg_push (x := 57) hk_124 rfl (by decide) rfl ?_
      by_cases c2 : x0 ≤ 57
      · have hK := kv_T c2 hK
        refine kg_icF hk_124 rfl (jc_F4 c2) rfl ?_
        refine kg_push (x := 1) hk_124 rfl (by decide) rfl ?_
        refine kg_goto hk_124 rfl ?_
        exact hK
      · have hK := kv_F c2 hK
        refine kg_icT hk_124 rfl (jc_T4 c2) ?_
        refine kg_push (x := 0) hk_124 rfl (by decide) rfl ?_
        exact hK
-- NotebookWeir$Reader.readDigits()I
theorem hk_38 : jP[38]? = some (jc_38, 3, [], []) := by rfl
def l_38_4 (x1 : Int32) (x2 : Int32) (h : Hp) : Option ((Int32 × Int32 × Hp) ⊕ Int32 × Hp) :=
  if x2 < 6 then
    (w_gd (w_tag (h 17 0).toNatClampNeg == 7 && 7 != 999) <|
    w_gd (g_58 h ((h 17 0).toNatClampNeg) (h 17 2)) <|
    if (v_124 (v_58 h ((h 17 0).toNatClampNeg) (h 17 2))) = 0 then
      (some (.inr (x1, h)))
    else
      (w_gd (w_tag (h 17 0).toNatClampNeg == 7 && 7 != 999) <|
      w_gd (g_58 h ((h 17 0).toNatClampNeg) (h 17 2)) <|
      w_let (w_up h 17 2 ((h 17 2) + 1)) fun h7 =>
      some (.inl (((((if x1 < 0 then 0 else x1) * 10) + (v_58 h ((h 17 0).toNatClampNeg) (h 17 2))) - 48), (x2 + 1), h7))))
  else
    (some (.inr (x1, h)))
theorem l_38_4_st {X : List Int32} {o : kO}  {h : Hp} {x1 : Int32} {x2 : Int32}  {r : (Int32 × Int32 × Hp) ⊕ Int32 × Hp} (hF : l_38_4 x1 x2 h = some r) (hK : ∀ s' : Int32 × Int32 × Hp, r = .inl s' → k_Go X 1 38 (4, [.ref (17 + 1), .int (s'.1), .int (s'.2.1)], []) s'.2.2 o) (hX0 : ∀ e : Int32 × Hp, r = .inr e → (.inl (some (.int e.1)), e.2) = o) : k_Go X 1 38 (4, [.ref (17 + 1), .int x1, .int x2], []) h o := by
  refine kg_iload hk_38 rfl rfl rfl ?_
  refine kg_push (x := 6) hk_38 rfl (by decide) rfl ?_
  refine wf_if hF (fun c1 hF => ?_) (fun c1 hF => ?_)
  · refine kg_icF hk_38 rfl (jc_F3 c1) rfl ?_
    refine kg_aload hk_38 rfl rfl rfl ?_
    refine wf_gd hF (fun g2 hF => ?_)
    refine kg_get (v := .ref (((h 17 0).toNatClampNeg) + 1)) hk_38 rfl wk_17_0 rfl rfl ?_
    refine kg_aload hk_38 rfl rfl rfl ?_
    refine kg_get (v := .int (h 17 2)) hk_38 rfl wk_17_2 rfl rfl ?_
    refine wf_gd hF (fun g3 hF => ?_)
    refine kg_call (as := [.ref (((h 17 0).toNatClampNeg) + 1), .int (h 17 2)]) (rest := []) hk_38 rfl (Or.inr (Or.inr (Or.inr ⟨Or.inl rfl, _, _, rfl, (w_tagE g2)⟩))) rfl rfl rfl (Nat.not_lt.mpr (Nat.le_of_ble_eq_true rfl)) (v_58_ok (w_tagE g2) g3) (by decide) rfl ?_
    refine kg_call (as := [.int (v_58 h ((h 17 0).toNatClampNeg) (h 17 2))]) (rest := []) hk_38 rfl (Or.inr (Or.inl rfl)) rfl rfl rfl (Nat.not_lt.mpr (Nat.le_of_ble_eq_true rfl)) (v_124_ok) (by decide) rfl ?_
    refine wf_if hF (fun c4 hF => ?_) (fun c4 hF => ?_)
    · refine kg_ifT hk_38 rfl (jc_T0 c4) ?_
      refine kg_iload hk_38 rfl rfl rfl ?_
      have hF := Option.some.inj hF
      exact kg_iret hk_38 rfl (Or.inl rfl) (hX0 _ hF.symm)
    · refine kg_ifF hk_38 rfl (jc_F0 c4) rfl ?_
      refine kg_iload hk_38 rfl rfl rfl ?_
      refine kg_push (x := 0) hk_38 rfl (by decide) rfl ?_
      refine kg_max hk_38 rfl (Nat.not_lt.mpr (Nat.le_of_ble_eq_true rfl)) rfl ?_
      refine kg_push (x := 10) hk_38 rfl (by decide) rfl ?_
      refine kg_bin (z := ((if x1 < 0 then 0 else x1) * 10)) hk_38 rfl rfl rfl ?_
      refine kg_aload hk_38 rfl rfl rfl ?_
      refine wf_gd hF (fun g5 hF => ?_)
      refine kg_get (v := .ref (((h 17 0).toNatClampNeg) + 1)) hk_38 rfl wk_17_0 rfl rfl ?_
      refine kg_aload hk_38 rfl rfl rfl ?_
      refine kg_get (v := .int (h 17 2)) hk_38 rfl wk_17_2 rfl rfl ?_
      refine wf_gd hF (fun g6 hF => ?_)
      refine kg_call (as := [.ref (((h 17 0).toNatClampNeg) + 1), .int (h 17 2)]) (rest := [.int ((if x1 < 0 then 0 else x1) * 10)]) hk_38 rfl (Or.inr (Or.inr (Or.inr ⟨Or.inl rfl, _, _, rfl, (w_tagE g5)⟩))) rfl rfl rfl (Nat.not_lt.mpr (Nat.le_of_ble_eq_true rfl)) (v_58_ok (w_tagE g5) g6) (by decide) rfl ?_
      refine kg_bin (z := (((if x1 < 0 then 0 else x1) * 10) + (v_58 h ((h 17 0).toNatClampNeg) (h 17 2)))) hk_38 rfl rfl rfl ?_
      refine kg_push (x := 48) hk_38 rfl (by decide) rfl ?_
      refine kg_bin (z := ((((if x1 < 0 then 0 else x1) * 10) + (v_58 h ((h 17 0).toNatClampNeg) (h 17 2))) - 48)) hk_38 rfl rfl rfl ?_
      refine kg_istore (L2 := [.ref (17 + 1), .int ((((if x1 < 0 then 0 else x1) * 10) + (v_58 h ((h 17 0).toNatClampNeg) (h 17 2))) - 48), .int x2]) hk_38 rfl (Nat.le_of_ble_eq_true rfl) rfl rfl ?_
      refine kg_aload hk_38 rfl rfl rfl ?_
      refine kg_dup hk_38 rfl rfl rfl ?_
      refine kg_get (v := .int (h 17 2)) hk_38 rfl wk_17_2 rfl rfl ?_
      refine kg_push (x := 1) hk_38 rfl (by decide) rfl ?_
      refine kg_bin (z := ((h 17 2) + 1)) hk_38 rfl rfl rfl ?_
      refine wf_let hF (fun h7 hh7 hF => ?_)
      refine kg_put hk_38 rfl wk_17_2 rfl rfl hh7 rfl ?_
      refine kg_iinc (y := (x2 + 1)) (L2 := [.ref (17 + 1), .int ((((if x1 < 0 then 0 else x1) * 10) + (v_58 h ((h 17 0).toNatClampNeg) (h 17 2))) - 48), .int (x2 + 1)]) hk_38 rfl rfl rfl rfl rfl ?_
      refine kg_goto hk_38 rfl ?_
      have hF := Option.some.inj hF
      exact hK _ hF.symm
  · refine kg_icT hk_38 rfl (jc_T3 c1) ?_
    refine kg_iload hk_38 rfl rfl rfl ?_
    have hF := Option.some.inj hF
    exact kg_iret hk_38 rfl (Or.inl rfl) (hX0 _ hF.symm)
theorem l_38_4_ok {X : List Int32} {o : kO}    {n : Nat} {s : Int32 × Int32 × Hp} {e : Int32 × Hp} (hF : w_lp (fun (s : Int32 × Int32 × Hp) => l_38_4 s.1 s.2.1 s.2.2) n s = some e) (hX0 : (.inl (some (.int e.1)), e.2) = o) : k_Go X 1 38 (4, [.ref (17 + 1), .int s.1, .int s.2.1], []) s.2.2 o := by
  exact w_lp_ok (P := (fun (s : Int32 × Int32 × Hp) => k_Go X 1 38 (4, [.ref (17 + 1), .int s.1, .int s.2.1], []) s.2.2 o)) (Q := (fun (e : Int32 × Hp) => ((.inl (some (.int e.1)), e.2) = o))) (fun s r hF hK hX => l_38_4_st hF hK (fun x hx => (hX _ hx))) n s e hF hX0
def p_38 (h : Hp) : Option (Int32 × Hp) :=
  w_lp (fun (s : Int32 × Int32 × Hp) => l_38_4 s.1 s.2.1 s.2.2) w_N ((-1), 0, h)
theorem p_38_ok {X : List Int32}  {h : Hp}   {r : Int32 × Hp} (hF : p_38 h = some r) : k_Ev X 1 38 [.ref (17 + 1)] h (.inl (some (.int r.1)), r.2) := by
  refine k_of hk_38 ?_
  show k_Go X 1 38 (0, [.ref (17 + 1), (.retAddr 0), (.retAddr 0)], []) h _
  unfold p_38 at hF
  refine kg_push (x := (-1)) hk_38 rfl (by decide) rfl ?_
  refine kg_istore (L2 := [.ref (17 + 1), .int (-1), (.retAddr 0)]) hk_38 rfl (Nat.le_of_ble_eq_true rfl) rfl rfl ?_
  refine kg_push (x := 0) hk_38 rfl (by decide) rfl ?_
  refine kg_istore (L2 := [.ref (17 + 1), .int (-1), .int 0]) hk_38 rfl (Nat.le_of_ble_eq_true rfl) rfl rfl ?_
  exact l_38_4_ok hF rfl
-- NotebookWeir$Reader.readSimplePart()Z
theorem hk_46 : jP[46]? = some (jc_46, 2, [], []) := by rfl
def p_46 (h : Hp) : Option (Int32 × Hp) :=
  w_gd (w_tag (h 17 0).toNatClampNeg == 7 && 7 != 999) <|
  w_gd (g_58 h ((h 17 0).toNatClampNeg) (h 17 2)) <|
  if (v_124 (v_58 h ((h 17 0).toNatClampNeg) (h 17 2))) = 0 then
    ((p_36 h 63).bind fun v4 =>
    if v4.1 = 0 then
      ((p_36 v4.2 64).bind fun v6 =>
      if v6.1 = 0 then
        ((p_37 v6.2).bind fun v8 =>
        if v8.1 = (-1) then
          (some (0, v8.2))
        else
          (w_gd ((v8.2 17 1) == 24) <|
          (p_10 v8.2 24 1 v8.1 (v8.2 17 3)).bind fun v11 =>
          w_gd ((v11 17 1) == 24) <|
          w_let (w_up v11 24 7 ((v11 24 7) ||| (if (v_126 (v11 17 4) v8.1) = 0 then (1 <<< (v8.1 &&& 31)) else 0))) fun h14 =>
          some (1, h14)))
      else
        (w_gd ((v6.2 17 1) == 24) <|
        (p_10 v6.2 24 3 0 (v6.2 17 3)).bind fun v16 =>
        some (1, v16)))
    else
      (w_gd ((v4.2 17 1) == 24) <|
      (p_10 v4.2 24 2 0 (v4.2 17 3)).bind fun v18 =>
      some (1, v18)))
  else
    (w_gd ((h 17 1) == 24) <|
    (p_38 h).bind fun v20 =>
    (p_10 v20.2 24 0 v20.1 (v20.2 17 3)).bind fun v21 =>
    some (1, v21))
theorem p_46_ok {X : List Int32}  {h : Hp}   {r : Int32 × Hp} (hF : p_46 h = some r) : k_Ev X 2 46 [.ref (17 + 1)] h (.inl (some (.int r.1)), r.2) := by
  refine k_of hk_46 ?_
  show k_Go X 2 46 (0, [.ref (17 + 1), (.retAddr 0)], []) h _
  unfold p_46 at hF
  refine kg_aload hk_46 rfl rfl rfl ?_
  refine wf_gd hF (fun g1 hF => ?_)
  refine kg_get (v := .ref (((h 17 0).toNatClampNeg) + 1)) hk_46 rfl wk_17_0 rfl rfl ?_
  refine kg_aload hk_46 rfl rfl rfl ?_
  refine kg_get (v := .int (h 17 2)) hk_46 rfl wk_17_2 rfl rfl ?_
  refine wf_gd hF (fun g2 hF => ?_)
  refine kg_call (as := [.ref (((h 17 0).toNatClampNeg) + 1), .int (h 17 2)]) (rest := []) hk_46 rfl (Or.inr (Or.inr (Or.inr ⟨Or.inl rfl, _, _, rfl, (w_tagE g1)⟩))) rfl rfl rfl (Nat.not_lt.mpr (Nat.le_of_ble_eq_true rfl)) (v_58_ok (w_tagE g1) g2) (by decide) rfl ?_
  refine kg_call (as := [.int (v_58 h ((h 17 0).toNatClampNeg) (h 17 2))]) (rest := []) hk_46 rfl (Or.inr (Or.inl rfl)) rfl rfl rfl (Nat.not_lt.mpr (Nat.le_of_ble_eq_true rfl)) (v_124_ok) (by decide) rfl ?_
  refine wf_if hF (fun c3 hF => ?_) (fun c3 hF => ?_)
  · refine kg_ifT hk_46 rfl (jc_T0 c3) ?_
    refine kg_aload hk_46 rfl rfl rfl ?_
    refine kg_push (x := 63) hk_46 rfl (by decide) rfl ?_
    refine wf_bind hF (fun v4 hv4 hF => ?_)
    refine kg_call (as := [.ref (17 + 1), .int 63]) (rest := []) hk_46 rfl (Or.inr (Or.inr (Or.inr ⟨Or.inl rfl, _, _, rfl, wc_17⟩))) rfl rfl rfl (Nat.not_lt.mpr (Nat.le_of_ble_eq_true rfl)) (p_36_ok hv4) (by decide) rfl ?_
    refine wf_if hF (fun c5 hF => ?_) (fun c5 hF => ?_)
    · refine kg_ifT hk_46 rfl (jc_T0 c5) ?_
      refine kg_aload hk_46 rfl rfl rfl ?_
      refine kg_push (x := 64) hk_46 rfl (by decide) rfl ?_
      refine wf_bind hF (fun v6 hv6 hF => ?_)
      refine kg_call (as := [.ref (17 + 1), .int 64]) (rest := []) hk_46 rfl (Or.inr (Or.inr (Or.inr ⟨Or.inl rfl, _, _, rfl, wc_17⟩))) rfl rfl rfl (Nat.not_lt.mpr (Nat.le_of_ble_eq_true rfl)) (p_36_ok hv6) (by decide) rfl ?_
      refine wf_if hF (fun c7 hF => ?_) (fun c7 hF => ?_)
      · refine kg_ifT hk_46 rfl (jc_T0 c7) ?_
        refine kg_aload hk_46 rfl rfl rfl ?_
        refine wf_bind hF (fun v8 hv8 hF => ?_)
        refine kg_call (as := [.ref (17 + 1)]) (rest := []) hk_46 rfl (Or.inr (Or.inr (Or.inr ⟨Or.inl rfl, _, _, rfl, wc_17⟩))) rfl rfl rfl (Nat.not_lt.mpr (Nat.le_of_ble_eq_true rfl)) (p_37_ok hv8) (by decide) rfl ?_
        refine kg_istore (L2 := [.ref (17 + 1), .int v8.1]) hk_46 rfl (Nat.le_of_ble_eq_true rfl) rfl rfl ?_
        refine kg_iload hk_46 rfl rfl rfl ?_
        refine kg_push (x := (-1)) hk_46 rfl (by decide) rfl ?_
        refine wf_if hF (fun c9 hF => ?_) (fun c9 hF => ?_)
        · refine kg_icF hk_46 rfl (jc_F1 c9) rfl ?_
          refine kg_push (x := 0) hk_46 rfl (by decide) rfl ?_
          have hF := Option.some.inj hF
          subst hF
          exact kg_iret hk_46 rfl (Or.inr rfl) rfl
        · refine kg_icT hk_46 rfl (jc_T1 c9) ?_
          refine kg_aload hk_46 rfl rfl rfl ?_
          refine wf_gd hF (fun g10 hF => ?_)
          refine kg_get (v := .ref (24 + 1)) hk_46 rfl wk_17_1 (by rw [beq_iff_eq.mp g10]; rfl) rfl ?_
          refine kg_push (x := 1) hk_46 rfl (by decide) rfl ?_
          refine kg_iload hk_46 rfl rfl rfl ?_
          refine kg_aload hk_46 rfl rfl rfl ?_
          refine kg_get (v := .int (v8.2 17 3)) hk_46 rfl wk_17_3 rfl rfl ?_
          refine wf_bind hF (fun v11 hv11 hF => ?_)
          refine kg_call (as := [.ref (24 + 1), .int 1, .int v8.1, .int (v8.2 17 3)]) (rest := []) hk_46 rfl (Or.inr (Or.inr (Or.inr ⟨Or.inl rfl, _, _, rfl, wc_24⟩))) rfl rfl rfl (Nat.not_lt.mpr (Nat.le_of_ble_eq_true rfl)) (p_10_ok wc_24 hv11) (by decide) rfl ?_
          refine kg_aload hk_46 rfl rfl rfl ?_
          refine wf_gd hF (fun g12 hF => ?_)
          refine kg_get (v := .ref (24 + 1)) hk_46 rfl wk_17_1 (by rw [beq_iff_eq.mp g12]; rfl) rfl ?_
          refine kg_dup hk_46 rfl rfl rfl ?_
          refine kg_get (v := .int (v11 24 7)) hk_46 rfl wk_24_7 rfl rfl ?_
          refine kg_aload hk_46 rfl rfl rfl ?_
          refine kg_get (v := .int (v11 17 4)) hk_46 rfl wk_17_4 rfl rfl ?_
          refine kg_iload hk_46 rfl rfl rfl ?_
          refine kg_call (as := [.int (v11 17 4), .int v8.1]) (rest := [.int (v11 24 7), .ref (24 + 1)]) hk_46 rfl (Or.inr (Or.inl rfl)) rfl rfl rfl (Nat.not_lt.mpr (Nat.le_of_ble_eq_true rfl)) (v_126_ok) (by decide) rfl ?_
          refine kv_mid (p := 72) (L := [.ref (17 + 1), .int v8.1]) (S := [.int (if (v_126 (v11 17 4) v8.1) = 0 then (1 <<< (v8.1 &&& 31)) else 0), .int (v11 24 7), .ref (24 + 1)]) ?_ (fun hK => ?_)
          · refine kg_bin (z := ((v11 24 7) ||| (if (v_126 (v11 17 4) v8.1) = 0 then (1 <<< (v8.1 &&& 31)) else 0))) hk_46 rfl rfl rfl ?_
            refine wf_let hF (fun h14 hh14 hF => ?_)
            refine kg_put hk_46 rfl wk_24_7 rfl rfl hh14 rfl ?_
            refine kg_push (x := 1) hk_46 rfl (by decide) rfl ?_
            have hF := Option.some.inj hF
            subst hF
            exact kg_iret hk_46 rfl (Or.inr rfl) rfl
          · by_cases c13 : (v_126 (v11 17 4) v8.1) = 0
            · have hK := kv_T c13 hK
              refine kg_ifT hk_46 rfl (jc_T0 c13) ?_
              refine kg_push (x := 1) hk_46 rfl (by decide) rfl ?_
              refine kg_iload hk_46 rfl rfl rfl ?_
              refine kg_bin (z := (1 <<< (v8.1 &&& 31))) hk_46 rfl rfl rfl ?_
              exact hK
            · have hK := kv_F c13 hK
              refine kg_ifF hk_46 rfl (jc_F0 c13) rfl ?_
              refine kg_push (x := 0) hk_46 rfl (by decide) rfl ?_
              refine kg_goto hk_46 rfl ?_
              exact hK
      · refine kg_ifF hk_46 rfl (jc_F0 c7) rfl ?_
        refine kg_aload hk_46 rfl rfl rfl ?_
        refine wf_gd hF (fun g15 hF => ?_)
        refine kg_get (v := .ref (24 + 1)) hk_46 rfl wk_17_1 (by rw [beq_iff_eq.mp g15]; rfl) rfl ?_
        refine kg_push (x := 3) hk_46 rfl (by decide) rfl ?_
        refine kg_push (x := 0) hk_46 rfl (by decide) rfl ?_
        refine kg_aload hk_46 rfl rfl rfl ?_
        refine kg_get (v := .int (v6.2 17 3)) hk_46 rfl wk_17_3 rfl rfl ?_
        refine wf_bind hF (fun v16 hv16 hF => ?_)
        refine kg_call (as := [.ref (24 + 1), .int 3, .int 0, .int (v6.2 17 3)]) (rest := []) hk_46 rfl (Or.inr (Or.inr (Or.inr ⟨Or.inl rfl, _, _, rfl, wc_24⟩))) rfl rfl rfl (Nat.not_lt.mpr (Nat.le_of_ble_eq_true rfl)) (p_10_ok wc_24 hv16) (by decide) rfl ?_
        refine kg_push (x := 1) hk_46 rfl (by decide) rfl ?_
        have hF := Option.some.inj hF
        subst hF
        exact kg_iret hk_46 rfl (Or.inr rfl) rfl
    · refine kg_ifF hk_46 rfl (jc_F0 c5) rfl ?_
      refine kg_aload hk_46 rfl rfl rfl ?_
      refine wf_gd hF (fun g17 hF => ?_)
      refine kg_get (v := .ref (24 + 1)) hk_46 rfl wk_17_1 (by rw [beq_iff_eq.mp g17]; rfl) rfl ?_
      refine kg_push (x := 2) hk_46 rfl (by decide) rfl ?_
      refine kg_push (x := 0) hk_46 rfl (by decide) rfl ?_
      refine kg_aload hk_46 rfl rfl rfl ?_
      refine kg_get (v := .int (v4.2 17 3)) hk_46 rfl wk_17_3 rfl rfl ?_
      refine wf_bind hF (fun v18 hv18 hF => ?_)
      refine kg_call (as := [.ref (24 + 1), .int 2, .int 0, .int (v4.2 17 3)]) (rest := []) hk_46 rfl (Or.inr (Or.inr (Or.inr ⟨Or.inl rfl, _, _, rfl, wc_24⟩))) rfl rfl rfl (Nat.not_lt.mpr (Nat.le_of_ble_eq_true rfl)) (p_10_ok wc_24 hv18) (by decide) rfl ?_
      refine kg_push (x := 1) hk_46 rfl (by decide) rfl ?_
      have hF := Option.some.inj hF
      subst hF
      exact kg_iret hk_46 rfl (Or.inr rfl) rfl
  · refine kg_ifF hk_46 rfl (jc_F0 c3) rfl ?_
    refine kg_aload hk_46 rfl rfl rfl ?_
    refine wf_gd hF (fun g19 hF => ?_)
    refine kg_get (v := .ref (24 + 1)) hk_46 rfl wk_17_1 (by rw [beq_iff_eq.mp g19]; rfl) rfl ?_
    refine kg_push (x := 0) hk_46 rfl (by decide) rfl ?_
    refine kg_aload hk_46 rfl rfl rfl ?_
    refine wf_bind hF (fun v20 hv20 hF => ?_)
    refine kg_call (as := [.ref (17 + 1)]) (rest := [.int 0, .ref (24 + 1)]) hk_46 rfl (Or.inr (Or.inr (Or.inr ⟨Or.inl rfl, _, _, rfl, wc_17⟩))) rfl rfl rfl (Nat.not_lt.mpr (Nat.le_of_ble_eq_true rfl)) (p_38_ok hv20) (by decide) rfl ?_
    refine kg_aload hk_46 rfl rfl rfl ?_
    refine kg_get (v := .int (v20.2 17 3)) hk_46 rfl wk_17_3 rfl rfl ?_
    refine wf_bind hF (fun v21 hv21 hF => ?_)
    refine kg_call (as := [.ref (24 + 1), .int 0, .int v20.1, .int (v20.2 17 3)]) (rest := []) hk_46 rfl (Or.inr (Or.inr (Or.inr ⟨Or.inl rfl, _, _, rfl, wc_24⟩))) rfl rfl rfl (Nat.not_lt.mpr (Nat.le_of_ble_eq_true rfl)) (p_10_ok wc_24 hv21) (by decide) rfl ?_
    refine kg_push (x := 1) hk_46 rfl (by decide) rfl ?_
    have hF := Option.some.inj hF
    subst hF
    exact kg_iret hk_46 rfl (Or.inr rfl) rfl
-- NotebookWeir$Reader.readRow(I)Z
theorem hk_47 : jP[47]? = some (jc_47, 3, [], []) := by rfl
def l_47_2 (R : Nat → Int32 → Hp → Option (Int32 × Hp)) (x1 : Int32) (x2 : Int32) (h : Hp) : Option ((Int32 × Hp) ⊕ ((Int32 × Hp) ⊕ Int32 × Hp)) :=
  if x2 ≤ 8 then
    ((R 42 x1 h).bind fun v2 =>
    if v2.1 = 0 then
      (some (.inr (.inr (0, v2.2))))
    else
      (w_gd ((v2.2 17 1) == 24) <|
      (p_10 v2.2 24 9 0 (v2.2 17 3)).bind fun v5 =>
      (p_36 v5 93).bind fun v6 =>
      if v6.1 = 0 then
        (if x2 = 8 then
          (some (.inr (.inr (0, v6.2))))
        else
          ((p_36 v6.2 44).bind fun v9 =>
          if v9.1 = 0 then
            (some (.inr (.inr (0, v9.2))))
          else
            (some (.inl ((x2 + 1), v9.2)))))
      else
        (some (.inr (.inl (x2, v6.2))))))
  else
    (some (.inr (.inr (0, h))))
theorem l_47_2_st {X : List Int32} {o : kO} {D : Nat} {R : Nat → Int32 → Hp → Option (Int32 × Hp)} (hD : 3 ≤ D) (hR0 : ∀ w d h r, R w d h = some r → k_Ev X D w [.ref (17 + 1), .int d] h (.inl (some (.int r.1)), r.2)) {h : Hp} {x1 : Int32} {x2 : Int32}  {r : (Int32 × Hp) ⊕ ((Int32 × Hp) ⊕ Int32 × Hp)} (hF : l_47_2 R x1 x2 h = some r) (hK : ∀ s' : Int32 × Hp, r = .inl s' → k_Go X (D + 1) 47 (2, [.ref (17 + 1), .int x1, .int (s'.1)], []) s'.2 o) (hX0 : ∀ x : Int32 × Hp, r = .inr (.inl x) → ∀ (u1 : Value), k_Go X (D + 1) 47 (22, [.ref (17 + 1), u1, .int x.1], []) x.2 o) (hX1 : ∀ x : Int32 × Hp, r = .inr (.inr x) → (.inl (some (.int x.1)), x.2) = o) : k_Go X (D + 1) 47 (2, [.ref (17 + 1), .int x1, .int x2], []) h o := by
  refine kg_iload hk_47 rfl rfl rfl ?_
  refine kg_push (x := 8) hk_47 rfl (by decide) rfl ?_
  refine wf_if hF (fun c1 hF => ?_) (fun c1 hF => ?_)
  · refine kg_icF hk_47 rfl (jc_F4 c1) rfl ?_
    refine kg_aload hk_47 rfl rfl rfl ?_
    refine kg_iload hk_47 rfl rfl rfl ?_
    refine wf_bind hF (fun v2 hv2 hF => ?_)
    refine kg_call (as := [.ref (17 + 1), .int x1]) (rest := []) hk_47 rfl (Or.inr (Or.inr (Or.inr ⟨Or.inl rfl, _, _, rfl, wc_17⟩))) rfl rfl rfl (Nat.not_lt.mpr (Nat.le_of_ble_eq_true rfl)) (hR0 _ _ _ _ hv2) (Nat.le_refl _) rfl ?_
    refine wf_if hF (fun c3 hF => ?_) (fun c3 hF => ?_)
    · refine kg_ifF hk_47 rfl (jc_F1 c3) rfl ?_
      refine kg_push (x := 0) hk_47 rfl (by decide) rfl ?_
      have hF := Option.some.inj hF
      exact kg_iret hk_47 rfl (Or.inr rfl) (hX1 _ hF.symm)
    · refine kg_ifT hk_47 rfl (jc_T1 c3) ?_
      refine kg_aload hk_47 rfl rfl rfl ?_
      refine wf_gd hF (fun g4 hF => ?_)
      refine kg_get (v := .ref (24 + 1)) hk_47 rfl wk_17_1 (by rw [beq_iff_eq.mp g4]; rfl) rfl ?_
      refine kg_push (x := 9) hk_47 rfl (by decide) rfl ?_
      refine kg_push (x := 0) hk_47 rfl (by decide) rfl ?_
      refine kg_aload hk_47 rfl rfl rfl ?_
      refine kg_get (v := .int (v2.2 17 3)) hk_47 rfl wk_17_3 rfl rfl ?_
      refine wf_bind hF (fun v5 hv5 hF => ?_)
      refine kg_call (as := [.ref (24 + 1), .int 9, .int 0, .int (v2.2 17 3)]) (rest := []) hk_47 rfl (Or.inr (Or.inr (Or.inr ⟨Or.inl rfl, _, _, rfl, wc_24⟩))) rfl rfl rfl (Nat.not_lt.mpr (Nat.le_of_ble_eq_true rfl)) (p_10_ok wc_24 hv5) (Nat.le_trans (by decide) hD) rfl ?_
      refine kg_aload hk_47 rfl rfl rfl ?_
      refine kg_push (x := 93) hk_47 rfl (by decide) rfl ?_
      refine wf_bind hF (fun v6 hv6 hF => ?_)
      refine kg_call (as := [.ref (17 + 1), .int 93]) (rest := []) hk_47 rfl (Or.inr (Or.inr (Or.inr ⟨Or.inl rfl, _, _, rfl, wc_17⟩))) rfl rfl rfl (Nat.not_lt.mpr (Nat.le_of_ble_eq_true rfl)) (p_36_ok hv6) (Nat.le_trans (by decide) hD) rfl ?_
      refine wf_if hF (fun c7 hF => ?_) (fun c7 hF => ?_)
      · refine kg_ifT hk_47 rfl (jc_T0 c7) ?_
        refine kg_iload hk_47 rfl rfl rfl ?_
        refine kg_push (x := 8) hk_47 rfl (by decide) rfl ?_
        refine wf_if hF (fun c8 hF => ?_) (fun c8 hF => ?_)
        · refine kg_icT hk_47 rfl (jc_T0 c8) ?_
          refine kg_push (x := 0) hk_47 rfl (by decide) rfl ?_
          have hF := Option.some.inj hF
          exact kg_iret hk_47 rfl (Or.inr rfl) (hX1 _ hF.symm)
        · refine kg_icF hk_47 rfl (jc_F0 c8) rfl ?_
          refine kg_aload hk_47 rfl rfl rfl ?_
          refine kg_push (x := 44) hk_47 rfl (by decide) rfl ?_
          refine wf_bind hF (fun v9 hv9 hF => ?_)
          refine kg_call (as := [.ref (17 + 1), .int 44]) (rest := []) hk_47 rfl (Or.inr (Or.inr (Or.inr ⟨Or.inl rfl, _, _, rfl, wc_17⟩))) rfl rfl rfl (Nat.not_lt.mpr (Nat.le_of_ble_eq_true rfl)) (p_36_ok hv9) (Nat.le_trans (by decide) hD) rfl ?_
          refine wf_if hF (fun c10 hF => ?_) (fun c10 hF => ?_)
          · refine kg_ifF hk_47 rfl (jc_F1 c10) rfl ?_
            refine kg_push (x := 0) hk_47 rfl (by decide) rfl ?_
            have hF := Option.some.inj hF
            exact kg_iret hk_47 rfl (Or.inr rfl) (hX1 _ hF.symm)
          · refine kg_ifT hk_47 rfl (jc_T1 c10) ?_
            refine kg_iinc (y := (x2 + 1)) (L2 := [.ref (17 + 1), .int x1, .int (x2 + 1)]) hk_47 rfl rfl rfl rfl rfl ?_
            refine kg_goto hk_47 rfl ?_
            have hF := Option.some.inj hF
            exact hK _ hF.symm
      · refine kg_ifF hk_47 rfl (jc_F0 c7) rfl ?_
        have hF := Option.some.inj hF
        exact hX0 _ hF.symm _
  · refine kg_icT hk_47 rfl (jc_T4 c1) ?_
    refine kg_push (x := 0) hk_47 rfl (by decide) rfl ?_
    have hF := Option.some.inj hF
    exact kg_iret hk_47 rfl (Or.inr rfl) (hX1 _ hF.symm)
theorem l_47_2_ok {X : List Int32} {o : kO} {D : Nat} {R : Nat → Int32 → Hp → Option (Int32 × Hp)} (hD : 3 ≤ D) (hR0 : ∀ w d h r, R w d h = some r → k_Ev X D w [.ref (17 + 1), .int d] h (.inl (some (.int r.1)), r.2)) {x1 : Int32}  {n : Nat} {s : Int32 × Hp} {e : ((Int32 × Hp) ⊕ Int32 × Hp)} (hF : w_lp (fun (s : Int32 × Hp) => l_47_2 R x1 s.1 s.2) n s = some e) (hX0 : ∀ x : Int32 × Hp, e = (.inl x) → ∀ (u1 : Value), k_Go X (D + 1) 47 (22, [.ref (17 + 1), u1, .int x.1], []) x.2 o) (hX1 : ∀ x : Int32 × Hp, e = (.inr x) → (.inl (some (.int x.1)), x.2) = o) : k_Go X (D + 1) 47 (2, [.ref (17 + 1), .int x1, .int s.1], []) s.2 o := by
  exact w_lp_ok (P := (fun (s : Int32 × Hp) => k_Go X (D + 1) 47 (2, [.ref (17 + 1), .int x1, .int s.1], []) s.2 o)) (Q := (fun (e : ((Int32 × Hp) ⊕ Int32 × Hp)) => (∀ x : Int32 × Hp, e = (.inl x) → ∀ (u1 : Value), k_Go X (D + 1) 47 (22, [.ref (17 + 1), u1, .int x.1], []) x.2 o) ∧ (∀ x : Int32 × Hp, e = (.inr x) → (.inl (some (.int x.1)), x.2) = o))) (fun s r hF hK hX => l_47_2_st hD hR0 hF hK (fun x hx => (hX _ hx).1 x rfl) (fun x hx => (hX _ hx).2 x rfl)) n s e hF ⟨hX0, hX1⟩
def p_47 (R : Nat → Int32 → Hp → Option (Int32 × Hp)) (h : Hp) (x1 : Int32) : Option (Int32 × Hp) :=
  (w_lp (fun (s : Int32 × Hp) => l_47_2 R x1 s.1 s.2) w_N (1, h)).bind <| (Sum.elim (fun y12 =>
    (w_gd ((y12.2 17 1) == 24) <|
    (p_10 y12.2 24 10 y12.1 (y12.2 17 3)).bind fun v15 =>
    some (1, v15))) (fun y13 =>
    (some y13)))
theorem p_47_ok {X : List Int32} {D : Nat} {R : Nat → Int32 → Hp → Option (Int32 × Hp)} (hD : 3 ≤ D) (hR0 : ∀ w d h r, R w d h = some r → k_Ev X D w [.ref (17 + 1), .int d] h (.inl (some (.int r.1)), r.2)) {h : Hp} {x1 : Int32}  {r : Int32 × Hp} (hF : p_47 R h x1 = some r) : k_Ev X (D + 1) 47 [.ref (17 + 1), .int x1] h (.inl (some (.int r.1)), r.2) := by
  refine k_of hk_47 ?_
  show k_Go X (D + 1) 47 (0, [.ref (17 + 1), .int x1, (.retAddr 0)], []) h _
  unfold p_47 at hF
  refine kg_push (x := 1) hk_47 rfl (by decide) rfl ?_
  refine kg_istore (L2 := [.ref (17 + 1), .int x1, .int 1]) hk_47 rfl (Nat.le_of_ble_eq_true rfl) rfl rfl ?_
  refine wf_bind hF (fun e11 he11 hF => ?_)
  refine l_47_2_ok hD hR0 he11 ?_ ?_
  · intro y12 hx
    subst hx
    refine wf_inl hF (fun hF => ?_)
    intro u1
    refine kg_aload hk_47 rfl rfl rfl ?_
    refine wf_gd hF (fun g14 hF => ?_)
    refine kg_get (v := .ref (24 + 1)) hk_47 rfl wk_17_1 (by rw [beq_iff_eq.mp g14]; rfl) rfl ?_
    refine kg_push (x := 10) hk_47 rfl (by decide) rfl ?_
    refine kg_iload hk_47 rfl rfl rfl ?_
    refine kg_aload hk_47 rfl rfl rfl ?_
    refine kg_get (v := .int (y12.2 17 3)) hk_47 rfl wk_17_3 rfl rfl ?_
    refine wf_bind hF (fun v15 hv15 hF => ?_)
    refine kg_call (as := [.ref (24 + 1), .int 10, .int y12.1, .int (y12.2 17 3)]) (rest := []) hk_47 rfl (Or.inr (Or.inr (Or.inr ⟨Or.inl rfl, _, _, rfl, wc_24⟩))) rfl rfl rfl (Nat.not_lt.mpr (Nat.le_of_ble_eq_true rfl)) (p_10_ok wc_24 hv15) (Nat.le_trans (by decide) hD) rfl ?_
    refine kg_push (x := 1) hk_47 rfl (by decide) rfl ?_
    have hF := Option.some.inj hF
    subst hF
    exact kg_iret hk_47 rfl (Or.inr rfl) rfl
  · intro y13 hx
    subst hx
    refine wf_inr hF (fun hF => ?_)
    have hF := Option.some.inj hF
    subst hF
    rfl
-- NotebookWeir$Reader.readPart(I)Z
theorem hk_45 : jP[45]? = some (jc_45, 3, [], []) := by rfl
def p_45 (R : Nat → Int32 → Hp → Option (Int32 × Hp)) (h : Hp) (x1 : Int32) : Option (Int32 × Hp) :=
  if x1 ≤ 40 then
    ((p_36 h 35).bind fun v2 =>
    if v2.1 = 0 then
      ((p_36 v2.2 40).bind fun v4 =>
      if v4.1 = 0 then
        ((p_36 v4.2 91).bind fun v6 =>
        if v6.1 = 0 then
          ((p_46 v6.2).bind fun v8 =>
          w_gd (w_bo v8.1) <|
          some (v8.1, v8.2))
        else
          ((R 47 (x1 + 1) v6.2).bind fun v10 =>
          w_gd (w_bo v10.1) <|
          some (v10.1, v10.2)))
      else
        ((R 42 (x1 + 1) v4.2).bind fun v12 =>
        if v12.1 = 0 then
          (some (0, v12.2))
        else
          ((p_36 v12.2 41).bind fun v14 =>
          some ((if v14.1 = 0 then 0 else 1), v14.2))))
    else
      ((R 44 (x1 + 1) v2.2).bind fun v16 =>
      w_gd ((v16.2 17 1) == 24) <|
      (p_10 v16.2 24 8 0 (v16.2 17 3)).bind fun v18 =>
      w_gd (w_bo v16.1) <|
      some (v16.1, v18)))
  else
    (some (0, h))
theorem p_45_ok {X : List Int32} {D : Nat} {R : Nat → Int32 → Hp → Option (Int32 × Hp)} (hD : 3 ≤ D) (hR0 : ∀ w d h r, R w d h = some r → k_Ev X D w [.ref (17 + 1), .int d] h (.inl (some (.int r.1)), r.2)) {h : Hp} {x1 : Int32}  {r : Int32 × Hp} (hF : p_45 R h x1 = some r) : k_Ev X (D + 1) 45 [.ref (17 + 1), .int x1] h (.inl (some (.int r.1)), r.2) := by
  refine k_of hk_45 ?_
  show k_Go X (D + 1) 45 (0, [.ref (17 + 1), .int x1, (.retAddr 0)], []) h _
  unfold p_45 at hF
  refine kg_iload hk_45 rfl rfl rfl ?_
  refine kg_push (x := 40) hk_45 rfl (by decide) rfl ?_
  refine wf_if hF (fun c1 hF => ?_) (fun c1 hF => ?_)
  · refine kg_icT hk_45 rfl (jc_T5 c1) ?_
    refine kg_aload hk_45 rfl rfl rfl ?_
    refine kg_push (x := 35) hk_45 rfl (by decide) rfl ?_
    refine wf_bind hF (fun v2 hv2 hF => ?_)
    refine kg_call (as := [.ref (17 + 1), .int 35]) (rest := []) hk_45 rfl (Or.inr (Or.inr (Or.inr ⟨Or.inl rfl, _, _, rfl, wc_17⟩))) rfl rfl rfl (Nat.not_lt.mpr (Nat.le_of_ble_eq_true rfl)) (p_36_ok hv2) (Nat.le_trans (by decide) hD) rfl ?_
    refine wf_if hF (fun c3 hF => ?_) (fun c3 hF => ?_)
    · refine kg_ifT hk_45 rfl (jc_T0 c3) ?_
      refine kg_aload hk_45 rfl rfl rfl ?_
      refine kg_push (x := 40) hk_45 rfl (by decide) rfl ?_
      refine wf_bind hF (fun v4 hv4 hF => ?_)
      refine kg_call (as := [.ref (17 + 1), .int 40]) (rest := []) hk_45 rfl (Or.inr (Or.inr (Or.inr ⟨Or.inl rfl, _, _, rfl, wc_17⟩))) rfl rfl rfl (Nat.not_lt.mpr (Nat.le_of_ble_eq_true rfl)) (p_36_ok hv4) (Nat.le_trans (by decide) hD) rfl ?_
      refine wf_if hF (fun c5 hF => ?_) (fun c5 hF => ?_)
      · refine kg_ifT hk_45 rfl (jc_T0 c5) ?_
        refine kg_aload hk_45 rfl rfl rfl ?_
        refine kg_push (x := 91) hk_45 rfl (by decide) rfl ?_
        refine wf_bind hF (fun v6 hv6 hF => ?_)
        refine kg_call (as := [.ref (17 + 1), .int 91]) (rest := []) hk_45 rfl (Or.inr (Or.inr (Or.inr ⟨Or.inl rfl, _, _, rfl, wc_17⟩))) rfl rfl rfl (Nat.not_lt.mpr (Nat.le_of_ble_eq_true rfl)) (p_36_ok hv6) (Nat.le_trans (by decide) hD) rfl ?_
        refine wf_if hF (fun c7 hF => ?_) (fun c7 hF => ?_)
        · refine kg_ifT hk_45 rfl (jc_T0 c7) ?_
          refine kg_aload hk_45 rfl rfl rfl ?_
          refine wf_bind hF (fun v8 hv8 hF => ?_)
          refine kg_call (as := [.ref (17 + 1)]) (rest := []) hk_45 rfl (Or.inr (Or.inr (Or.inr ⟨Or.inl rfl, _, _, rfl, wc_17⟩))) rfl rfl rfl (Nat.not_lt.mpr (Nat.le_of_ble_eq_true rfl)) (p_46_ok hv8) (Nat.le_trans (by decide) hD) rfl ?_
          refine wf_gd hF (fun g9 hF => ?_)
          have hF := Option.some.inj hF
          subst hF
          exact kg_iret hk_45 rfl (Or.inr g9) rfl
        · refine kg_ifF hk_45 rfl (jc_F0 c7) rfl ?_
          refine kg_aload hk_45 rfl rfl rfl ?_
          refine kg_iload hk_45 rfl rfl rfl ?_
          refine kg_push (x := 1) hk_45 rfl (by decide) rfl ?_
          refine kg_bin (z := (x1 + 1)) hk_45 rfl rfl rfl ?_
          refine wf_bind hF (fun v10 hv10 hF => ?_)
          refine kg_call (as := [.ref (17 + 1), .int (x1 + 1)]) (rest := []) hk_45 rfl (Or.inr (Or.inr (Or.inr ⟨Or.inl rfl, _, _, rfl, wc_17⟩))) rfl rfl rfl (Nat.not_lt.mpr (Nat.le_of_ble_eq_true rfl)) (hR0 _ _ _ _ hv10) (Nat.le_refl _) rfl ?_
          refine wf_gd hF (fun g11 hF => ?_)
          have hF := Option.some.inj hF
          subst hF
          exact kg_iret hk_45 rfl (Or.inr g11) rfl
      · refine kg_ifF hk_45 rfl (jc_F0 c5) rfl ?_
        refine kg_aload hk_45 rfl rfl rfl ?_
        refine kg_iload hk_45 rfl rfl rfl ?_
        refine kg_push (x := 1) hk_45 rfl (by decide) rfl ?_
        refine kg_bin (z := (x1 + 1)) hk_45 rfl rfl rfl ?_
        refine wf_bind hF (fun v12 hv12 hF => ?_)
        refine kg_call (as := [.ref (17 + 1), .int (x1 + 1)]) (rest := []) hk_45 rfl (Or.inr (Or.inr (Or.inr ⟨Or.inl rfl, _, _, rfl, wc_17⟩))) rfl rfl rfl (Nat.not_lt.mpr (Nat.le_of_ble_eq_true rfl)) (hR0 _ _ _ _ hv12) (Nat.le_refl _) rfl ?_
        refine wf_if hF (fun c13 hF => ?_) (fun c13 hF => ?_)
        · refine kg_ifT hk_45 rfl (jc_T0 c13) ?_
          refine kg_push (x := 0) hk_45 rfl (by decide) rfl ?_
          have hF := Option.some.inj hF
          subst hF
          exact kg_iret hk_45 rfl (Or.inr rfl) rfl
        · refine kg_ifF hk_45 rfl (jc_F0 c13) rfl ?_
          refine kg_aload hk_45 rfl rfl rfl ?_
          refine kg_push (x := 41) hk_45 rfl (by decide) rfl ?_
          refine wf_bind hF (fun v14 hv14 hF => ?_)
          refine kg_call (as := [.ref (17 + 1), .int 41]) (rest := []) hk_45 rfl (Or.inr (Or.inr (Or.inr ⟨Or.inl rfl, _, _, rfl, wc_17⟩))) rfl rfl rfl (Nat.not_lt.mpr (Nat.le_of_ble_eq_true rfl)) (p_36_ok hv14) (Nat.le_trans (by decide) hD) rfl ?_
          refine kv_mid (p := 41) (L := [.ref (17 + 1), .int x1, (.retAddr 0)]) (S := [.int (if v14.1 = 0 then 0 else 1)]) ?_ (fun hK => ?_)
          · have hF := Option.some.inj hF
            subst hF
            exact kg_iret hk_45 rfl (Or.inr (w_boi rfl rfl)) rfl
          · by_cases c15 : v14.1 = 0
            · have hK := kv_T c15 hK
              refine kg_ifT hk_45 rfl (jc_T0 c15) ?_
              refine kg_push (x := 0) hk_45 rfl (by decide) rfl ?_
              exact hK
            · have hK := kv_F c15 hK
              refine kg_ifF hk_45 rfl (jc_F0 c15) rfl ?_
              refine kg_push (x := 1) hk_45 rfl (by decide) rfl ?_
              refine kg_goto hk_45 rfl ?_
              exact hK
    · refine kg_ifF hk_45 rfl (jc_F0 c3) rfl ?_
      refine kg_aload hk_45 rfl rfl rfl ?_
      refine kg_iload hk_45 rfl rfl rfl ?_
      refine kg_push (x := 1) hk_45 rfl (by decide) rfl ?_
      refine kg_bin (z := (x1 + 1)) hk_45 rfl rfl rfl ?_
      refine wf_bind hF (fun v16 hv16 hF => ?_)
      refine kg_call (as := [.ref (17 + 1), .int (x1 + 1)]) (rest := []) hk_45 rfl (Or.inr (Or.inr (Or.inr ⟨Or.inl rfl, _, _, rfl, wc_17⟩))) rfl rfl rfl (Nat.not_lt.mpr (Nat.le_of_ble_eq_true rfl)) (hR0 _ _ _ _ hv16) (Nat.le_refl _) rfl ?_
      refine kg_istore (L2 := [.ref (17 + 1), .int x1, .int v16.1]) hk_45 rfl (Nat.le_of_ble_eq_true rfl) rfl rfl ?_
      refine kg_aload hk_45 rfl rfl rfl ?_
      refine wf_gd hF (fun g17 hF => ?_)
      refine kg_get (v := .ref (24 + 1)) hk_45 rfl wk_17_1 (by rw [beq_iff_eq.mp g17]; rfl) rfl ?_
      refine kg_push (x := 8) hk_45 rfl (by decide) rfl ?_
      refine kg_push (x := 0) hk_45 rfl (by decide) rfl ?_
      refine kg_aload hk_45 rfl rfl rfl ?_
      refine kg_get (v := .int (v16.2 17 3)) hk_45 rfl wk_17_3 rfl rfl ?_
      refine wf_bind hF (fun v18 hv18 hF => ?_)
      refine kg_call (as := [.ref (24 + 1), .int 8, .int 0, .int (v16.2 17 3)]) (rest := []) hk_45 rfl (Or.inr (Or.inr (Or.inr ⟨Or.inl rfl, _, _, rfl, wc_24⟩))) rfl rfl rfl (Nat.not_lt.mpr (Nat.le_of_ble_eq_true rfl)) (p_10_ok wc_24 hv18) (Nat.le_trans (by decide) hD) rfl ?_
      refine kg_iload hk_45 rfl rfl rfl ?_
      refine wf_gd hF (fun g19 hF => ?_)
      have hF := Option.some.inj hF
      subst hF
      exact kg_iret hk_45 rfl (Or.inr g19) rfl
  · refine kg_icF hk_45 rfl (jc_F5 c1) rfl ?_
    refine kg_push (x := 0) hk_45 rfl (by decide) rfl ?_
    have hF := Option.some.inj hF
    subst hF
    exact kg_iret hk_45 rfl (Or.inr rfl) rfl
-- NotebookWeir$Reader.readFactor(I)Z
theorem hk_44 : jP[44]? = some (jc_44, 3, [], []) := by rfl
def l_44_8 (R : Nat → Int32 → Hp → Option (Int32 × Hp)) (x2 : Int32) (h : Hp) : Option ((Int32 × Hp) ⊕ Int32 × Hp) :=
  if x2 < 40 then
    ((p_36 h 46).bind fun v4 =>
    if v4.1 = 0 then
      (some (.inr (1, v4.2)))
    else
      (w_gd (w_tag (v4.2 17 0).toNatClampNeg == 7 && 7 != 999) <|
      w_gd (g_58 v4.2 ((v4.2 17 0).toNatClampNeg) (v4.2 17 2)) <|
      if (v_124 (v_58 v4.2 ((v4.2 17 0).toNatClampNeg) (v4.2 17 2))) = 0 then
        (some (.inr (0, v4.2)))
      else
        (w_gd ((v4.2 17 1) == 24) <|
        w_gd (w_tag (v4.2 17 0).toNatClampNeg == 7 && 7 != 999) <|
        w_gd (g_58 v4.2 ((v4.2 17 0).toNatClampNeg) (v4.2 17 2)) <|
        (p_10 v4.2 24 7 ((v_58 v4.2 ((v4.2 17 0).toNatClampNeg) (v4.2 17 2)) - 48) (v4.2 17 3)).bind fun v12 =>
        w_let (w_up v12 17 2 ((v12 17 2) + 1)) fun h13 =>
        some (.inl ((x2 + 1), h13)))))
  else
    (some (.inr (1, h)))
theorem l_44_8_st {X : List Int32} {o : kO} {D : Nat} {R : Nat → Int32 → Hp → Option (Int32 × Hp)} (hD : 3 ≤ D) (hR0 : ∀ w d h r, R w d h = some r → k_Ev X D w [.ref (17 + 1), .int d] h (.inl (some (.int r.1)), r.2)) {h : Hp} {x2 : Int32}  {r : (Int32 × Hp) ⊕ Int32 × Hp} (hF : l_44_8 R x2 h = some r) (hK : ∀ s' : Int32 × Hp, r = .inl s' → ∀ (u1 : Value), k_Go X (D + 1) 44 (8, [.ref (17 + 1), u1, .int (s'.1)], []) s'.2 o) (hX0 : ∀ e : Int32 × Hp, r = .inr e → (.inl (some (.int e.1)), e.2) = o) : ∀ (u1 : Value), k_Go X (D + 1) 44 (8, [.ref (17 + 1), u1, .int x2], []) h o := by
  intro u1
  refine kg_iload hk_44 rfl rfl rfl ?_
  refine kg_push (x := 40) hk_44 rfl (by decide) rfl ?_
  refine wf_if hF (fun c3 hF => ?_) (fun c3 hF => ?_)
  · refine kg_icF hk_44 rfl (jc_F3 c3) rfl ?_
    refine kg_aload hk_44 rfl rfl rfl ?_
    refine kg_push (x := 46) hk_44 rfl (by decide) rfl ?_
    refine wf_bind hF (fun v4 hv4 hF => ?_)
    refine kg_call (as := [.ref (17 + 1), .int 46]) (rest := []) hk_44 rfl (Or.inr (Or.inr (Or.inr ⟨Or.inl rfl, _, _, rfl, wc_17⟩))) rfl rfl rfl (Nat.not_lt.mpr (Nat.le_of_ble_eq_true rfl)) (p_36_ok hv4) (Nat.le_trans (by decide) hD) rfl ?_
    refine wf_if hF (fun c5 hF => ?_) (fun c5 hF => ?_)
    · refine kg_ifT hk_44 rfl (jc_T0 c5) ?_
      refine kg_push (x := 1) hk_44 rfl (by decide) rfl ?_
      have hF := Option.some.inj hF
      exact kg_iret hk_44 rfl (Or.inr rfl) (hX0 _ hF.symm)
    · refine kg_ifF hk_44 rfl (jc_F0 c5) rfl ?_
      refine kg_aload hk_44 rfl rfl rfl ?_
      refine wf_gd hF (fun g6 hF => ?_)
      refine kg_get (v := .ref (((v4.2 17 0).toNatClampNeg) + 1)) hk_44 rfl wk_17_0 rfl rfl ?_
      refine kg_aload hk_44 rfl rfl rfl ?_
      refine kg_get (v := .int (v4.2 17 2)) hk_44 rfl wk_17_2 rfl rfl ?_
      refine wf_gd hF (fun g7 hF => ?_)
      refine kg_call (as := [.ref (((v4.2 17 0).toNatClampNeg) + 1), .int (v4.2 17 2)]) (rest := []) hk_44 rfl (Or.inr (Or.inr (Or.inr ⟨Or.inl rfl, _, _, rfl, (w_tagE g6)⟩))) rfl rfl rfl (Nat.not_lt.mpr (Nat.le_of_ble_eq_true rfl)) (v_58_ok (w_tagE g6) g7) (Nat.le_trans (by decide) hD) rfl ?_
      refine kg_call (as := [.int (v_58 v4.2 ((v4.2 17 0).toNatClampNeg) (v4.2 17 2))]) (rest := []) hk_44 rfl (Or.inr (Or.inl rfl)) rfl rfl rfl (Nat.not_lt.mpr (Nat.le_of_ble_eq_true rfl)) (v_124_ok) (Nat.le_trans (by decide) hD) rfl ?_
      refine wf_if hF (fun c8 hF => ?_) (fun c8 hF => ?_)
      · refine kg_ifF hk_44 rfl (jc_F1 c8) rfl ?_
        refine kg_push (x := 0) hk_44 rfl (by decide) rfl ?_
        have hF := Option.some.inj hF
        exact kg_iret hk_44 rfl (Or.inr rfl) (hX0 _ hF.symm)
      · refine kg_ifT hk_44 rfl (jc_T1 c8) ?_
        refine kg_aload hk_44 rfl rfl rfl ?_
        refine wf_gd hF (fun g9 hF => ?_)
        refine kg_get (v := .ref (24 + 1)) hk_44 rfl wk_17_1 (by rw [beq_iff_eq.mp g9]; rfl) rfl ?_
        refine kg_push (x := 7) hk_44 rfl (by decide) rfl ?_
        refine kg_aload hk_44 rfl rfl rfl ?_
        refine wf_gd hF (fun g10 hF => ?_)
        refine kg_get (v := .ref (((v4.2 17 0).toNatClampNeg) + 1)) hk_44 rfl wk_17_0 rfl rfl ?_
        refine kg_aload hk_44 rfl rfl rfl ?_
        refine kg_get (v := .int (v4.2 17 2)) hk_44 rfl wk_17_2 rfl rfl ?_
        refine wf_gd hF (fun g11 hF => ?_)
        refine kg_call (as := [.ref (((v4.2 17 0).toNatClampNeg) + 1), .int (v4.2 17 2)]) (rest := [.int 7, .ref (24 + 1)]) hk_44 rfl (Or.inr (Or.inr (Or.inr ⟨Or.inl rfl, _, _, rfl, (w_tagE g10)⟩))) rfl rfl rfl (Nat.not_lt.mpr (Nat.le_of_ble_eq_true rfl)) (v_58_ok (w_tagE g10) g11) (Nat.le_trans (by decide) hD) rfl ?_
        refine kg_push (x := 48) hk_44 rfl (by decide) rfl ?_
        refine kg_bin (z := ((v_58 v4.2 ((v4.2 17 0).toNatClampNeg) (v4.2 17 2)) - 48)) hk_44 rfl rfl rfl ?_
        refine kg_aload hk_44 rfl rfl rfl ?_
        refine kg_get (v := .int (v4.2 17 3)) hk_44 rfl wk_17_3 rfl rfl ?_
        refine wf_bind hF (fun v12 hv12 hF => ?_)
        refine kg_call (as := [.ref (24 + 1), .int 7, .int ((v_58 v4.2 ((v4.2 17 0).toNatClampNeg) (v4.2 17 2)) - 48), .int (v4.2 17 3)]) (rest := []) hk_44 rfl (Or.inr (Or.inr (Or.inr ⟨Or.inl rfl, _, _, rfl, wc_24⟩))) rfl rfl rfl (Nat.not_lt.mpr (Nat.le_of_ble_eq_true rfl)) (p_10_ok wc_24 hv12) (Nat.le_trans (by decide) hD) rfl ?_
        refine kg_aload hk_44 rfl rfl rfl ?_
        refine kg_dup hk_44 rfl rfl rfl ?_
        refine kg_get (v := .int (v12 17 2)) hk_44 rfl wk_17_2 rfl rfl ?_
        refine kg_push (x := 1) hk_44 rfl (by decide) rfl ?_
        refine kg_bin (z := ((v12 17 2) + 1)) hk_44 rfl rfl rfl ?_
        refine wf_let hF (fun h13 hh13 hF => ?_)
        refine kg_put hk_44 rfl wk_17_2 rfl rfl hh13 rfl ?_
        refine kg_iinc (y := (x2 + 1)) (L2 := [.ref (17 + 1), u1, .int (x2 + 1)]) hk_44 rfl rfl rfl rfl rfl ?_
        refine kg_goto hk_44 rfl ?_
        have hF := Option.some.inj hF
        exact hK _ hF.symm _
  · refine kg_icT hk_44 rfl (jc_T3 c3) ?_
    refine kg_push (x := 1) hk_44 rfl (by decide) rfl ?_
    have hF := Option.some.inj hF
    exact kg_iret hk_44 rfl (Or.inr rfl) (hX0 _ hF.symm)
theorem l_44_8_ok {X : List Int32} {o : kO} {D : Nat} {R : Nat → Int32 → Hp → Option (Int32 × Hp)} (hD : 3 ≤ D) (hR0 : ∀ w d h r, R w d h = some r → k_Ev X D w [.ref (17 + 1), .int d] h (.inl (some (.int r.1)), r.2))   {n : Nat} {s : Int32 × Hp} {e : Int32 × Hp} (hF : w_lp (fun (s : Int32 × Hp) => l_44_8 R s.1 s.2) n s = some e) (hX0 : (.inl (some (.int e.1)), e.2) = o) : ∀ (u1 : Value), k_Go X (D + 1) 44 (8, [.ref (17 + 1), u1, .int s.1], []) s.2 o := by
  exact w_lp_ok (P := (fun (s : Int32 × Hp) => ∀ (u1 : Value), k_Go X (D + 1) 44 (8, [.ref (17 + 1), u1, .int s.1], []) s.2 o)) (Q := (fun (e : Int32 × Hp) => ((.inl (some (.int e.1)), e.2) = o))) (fun s r hF hK hX => l_44_8_st hD hR0 hF hK (fun x hx => (hX _ hx))) n s e hF hX0
def p_44 (R : Nat → Int32 → Hp → Option (Int32 × Hp)) (h : Hp) (x1 : Int32) : Option (Int32 × Hp) :=
  (R 45 x1 h).bind fun v1 =>
  if v1.1 = 0 then
    (some (0, v1.2))
  else
    (w_lp (fun (s : Int32 × Hp) => l_44_8 R s.1 s.2) w_N (0, v1.2))
theorem p_44_ok {X : List Int32} {D : Nat} {R : Nat → Int32 → Hp → Option (Int32 × Hp)} (hD : 3 ≤ D) (hR0 : ∀ w d h r, R w d h = some r → k_Ev X D w [.ref (17 + 1), .int d] h (.inl (some (.int r.1)), r.2)) {h : Hp} {x1 : Int32}  {r : Int32 × Hp} (hF : p_44 R h x1 = some r) : k_Ev X (D + 1) 44 [.ref (17 + 1), .int x1] h (.inl (some (.int r.1)), r.2) := by
  refine k_of hk_44 ?_
  show k_Go X (D + 1) 44 (0, [.ref (17 + 1), .int x1, (.retAddr 0)], []) h _
  unfold p_44 at hF
  refine kg_aload hk_44 rfl rfl rfl ?_
  refine kg_iload hk_44 rfl rfl rfl ?_
  refine wf_bind hF (fun v1 hv1 hF => ?_)
  refine kg_call (as := [.ref (17 + 1), .int x1]) (rest := []) hk_44 rfl (Or.inr (Or.inr (Or.inr ⟨Or.inl rfl, _, _, rfl, wc_17⟩))) rfl rfl rfl (Nat.not_lt.mpr (Nat.le_of_ble_eq_true rfl)) (hR0 _ _ _ _ hv1) (Nat.le_refl _) rfl ?_
  refine wf_if hF (fun c2 hF => ?_) (fun c2 hF => ?_)
  · refine kg_ifF hk_44 rfl (jc_F1 c2) rfl ?_
    refine kg_push (x := 0) hk_44 rfl (by decide) rfl ?_
    have hF := Option.some.inj hF
    subst hF
    exact kg_iret hk_44 rfl (Or.inr rfl) rfl
  · refine kg_ifT hk_44 rfl (jc_T1 c2) ?_
    refine kg_push (x := 0) hk_44 rfl (by decide) rfl ?_
    refine kg_istore (L2 := [.ref (17 + 1), .int x1, .int 0]) hk_44 rfl (Nat.le_of_ble_eq_true rfl) rfl rfl ?_
    exact l_44_8_ok hD hR0 hF rfl _
-- NotebookWeir$Reader.readTerm(I)Z
theorem hk_43 : jP[43]? = some (jc_43, 3, [], []) := by rfl
def l_43_8 (R : Nat → Int32 → Hp → Option (Int32 × Hp)) (x1 : Int32) (x2 : Int32) (h : Hp) : Option ((Int32 × Hp) ⊕ Int32 × Hp) :=
  if x2 < 40 then
    ((p_36 h 42).bind fun v4 =>
    if v4.1 = 0 then
      (some (.inr (1, v4.2)))
    else
      ((R 44 x1 v4.2).bind fun v6 =>
      if v6.1 = 0 then
        (some (.inr (0, v6.2)))
      else
        (w_gd ((v6.2 17 1) == 24) <|
        (p_10 v6.2 24 6 0 (v6.2 17 3)).bind fun v9 =>
        some (.inl ((x2 + 1), v9)))))
  else
    (some (.inr (1, h)))
theorem l_43_8_st {X : List Int32} {o : kO} {D : Nat} {R : Nat → Int32 → Hp → Option (Int32 × Hp)} (hD : 3 ≤ D) (hR0 : ∀ w d h r, R w d h = some r → k_Ev X D w [.ref (17 + 1), .int d] h (.inl (some (.int r.1)), r.2)) {h : Hp} {x1 : Int32} {x2 : Int32}  {r : (Int32 × Hp) ⊕ Int32 × Hp} (hF : l_43_8 R x1 x2 h = some r) (hK : ∀ s' : Int32 × Hp, r = .inl s' → k_Go X (D + 1) 43 (8, [.ref (17 + 1), .int x1, .int (s'.1)], []) s'.2 o) (hX0 : ∀ e : Int32 × Hp, r = .inr e → (.inl (some (.int e.1)), e.2) = o) : k_Go X (D + 1) 43 (8, [.ref (17 + 1), .int x1, .int x2], []) h o := by
  refine kg_iload hk_43 rfl rfl rfl ?_
  refine kg_push (x := 40) hk_43 rfl (by decide) rfl ?_
  refine wf_if hF (fun c3 hF => ?_) (fun c3 hF => ?_)
  · refine kg_icF hk_43 rfl (jc_F3 c3) rfl ?_
    refine kg_aload hk_43 rfl rfl rfl ?_
    refine kg_push (x := 42) hk_43 rfl (by decide) rfl ?_
    refine wf_bind hF (fun v4 hv4 hF => ?_)
    refine kg_call (as := [.ref (17 + 1), .int 42]) (rest := []) hk_43 rfl (Or.inr (Or.inr (Or.inr ⟨Or.inl rfl, _, _, rfl, wc_17⟩))) rfl rfl rfl (Nat.not_lt.mpr (Nat.le_of_ble_eq_true rfl)) (p_36_ok hv4) (Nat.le_trans (by decide) hD) rfl ?_
    refine wf_if hF (fun c5 hF => ?_) (fun c5 hF => ?_)
    · refine kg_ifT hk_43 rfl (jc_T0 c5) ?_
      refine kg_push (x := 1) hk_43 rfl (by decide) rfl ?_
      have hF := Option.some.inj hF
      exact kg_iret hk_43 rfl (Or.inr rfl) (hX0 _ hF.symm)
    · refine kg_ifF hk_43 rfl (jc_F0 c5) rfl ?_
      refine kg_aload hk_43 rfl rfl rfl ?_
      refine kg_iload hk_43 rfl rfl rfl ?_
      refine wf_bind hF (fun v6 hv6 hF => ?_)
      refine kg_call (as := [.ref (17 + 1), .int x1]) (rest := []) hk_43 rfl (Or.inr (Or.inr (Or.inr ⟨Or.inl rfl, _, _, rfl, wc_17⟩))) rfl rfl rfl (Nat.not_lt.mpr (Nat.le_of_ble_eq_true rfl)) (hR0 _ _ _ _ hv6) (Nat.le_refl _) rfl ?_
      refine wf_if hF (fun c7 hF => ?_) (fun c7 hF => ?_)
      · refine kg_ifF hk_43 rfl (jc_F1 c7) rfl ?_
        refine kg_push (x := 0) hk_43 rfl (by decide) rfl ?_
        have hF := Option.some.inj hF
        exact kg_iret hk_43 rfl (Or.inr rfl) (hX0 _ hF.symm)
      · refine kg_ifT hk_43 rfl (jc_T1 c7) ?_
        refine kg_aload hk_43 rfl rfl rfl ?_
        refine wf_gd hF (fun g8 hF => ?_)
        refine kg_get (v := .ref (24 + 1)) hk_43 rfl wk_17_1 (by rw [beq_iff_eq.mp g8]; rfl) rfl ?_
        refine kg_push (x := 6) hk_43 rfl (by decide) rfl ?_
        refine kg_push (x := 0) hk_43 rfl (by decide) rfl ?_
        refine kg_aload hk_43 rfl rfl rfl ?_
        refine kg_get (v := .int (v6.2 17 3)) hk_43 rfl wk_17_3 rfl rfl ?_
        refine wf_bind hF (fun v9 hv9 hF => ?_)
        refine kg_call (as := [.ref (24 + 1), .int 6, .int 0, .int (v6.2 17 3)]) (rest := []) hk_43 rfl (Or.inr (Or.inr (Or.inr ⟨Or.inl rfl, _, _, rfl, wc_24⟩))) rfl rfl rfl (Nat.not_lt.mpr (Nat.le_of_ble_eq_true rfl)) (p_10_ok wc_24 hv9) (Nat.le_trans (by decide) hD) rfl ?_
        refine kg_iinc (y := (x2 + 1)) (L2 := [.ref (17 + 1), .int x1, .int (x2 + 1)]) hk_43 rfl rfl rfl rfl rfl ?_
        refine kg_goto hk_43 rfl ?_
        have hF := Option.some.inj hF
        exact hK _ hF.symm
  · refine kg_icT hk_43 rfl (jc_T3 c3) ?_
    refine kg_push (x := 1) hk_43 rfl (by decide) rfl ?_
    have hF := Option.some.inj hF
    exact kg_iret hk_43 rfl (Or.inr rfl) (hX0 _ hF.symm)
theorem l_43_8_ok {X : List Int32} {o : kO} {D : Nat} {R : Nat → Int32 → Hp → Option (Int32 × Hp)} (hD : 3 ≤ D) (hR0 : ∀ w d h r, R w d h = some r → k_Ev X D w [.ref (17 + 1), .int d] h (.inl (some (.int r.1)), r.2)) {x1 : Int32}  {n : Nat} {s : Int32 × Hp} {e : Int32 × Hp} (hF : w_lp (fun (s : Int32 × Hp) => l_43_8 R x1 s.1 s.2) n s = some e) (hX0 : (.inl (some (.int e.1)), e.2) = o) : k_Go X (D + 1) 43 (8, [.ref (17 + 1), .int x1, .int s.1], []) s.2 o := by
  exact w_lp_ok (P := (fun (s : Int32 × Hp) => k_Go X (D + 1) 43 (8, [.ref (17 + 1), .int x1, .int s.1], []) s.2 o)) (Q := (fun (e : Int32 × Hp) => ((.inl (some (.int e.1)), e.2) = o))) (fun s r hF hK hX => l_43_8_st hD hR0 hF hK (fun x hx => (hX _ hx))) n s e hF hX0
def p_43 (R : Nat → Int32 → Hp → Option (Int32 × Hp)) (h : Hp) (x1 : Int32) : Option (Int32 × Hp) :=
  (R 44 x1 h).bind fun v1 =>
  if v1.1 = 0 then
    (some (0, v1.2))
  else
    (w_lp (fun (s : Int32 × Hp) => l_43_8 R x1 s.1 s.2) w_N (0, v1.2))
theorem p_43_ok {X : List Int32} {D : Nat} {R : Nat → Int32 → Hp → Option (Int32 × Hp)} (hD : 3 ≤ D) (hR0 : ∀ w d h r, R w d h = some r → k_Ev X D w [.ref (17 + 1), .int d] h (.inl (some (.int r.1)), r.2)) {h : Hp} {x1 : Int32}  {r : Int32 × Hp} (hF : p_43 R h x1 = some r) : k_Ev X (D + 1) 43 [.ref (17 + 1), .int x1] h (.inl (some (.int r.1)), r.2) := by
  refine k_of hk_43 ?_
  show k_Go X (D + 1) 43 (0, [.ref (17 + 1), .int x1, (.retAddr 0)], []) h _
  unfold p_43 at hF
  refine kg_aload hk_43 rfl rfl rfl ?_
  refine kg_iload hk_43 rfl rfl rfl ?_
  refine wf_bind hF (fun v1 hv1 hF => ?_)
  refine kg_call (as := [.ref (17 + 1), .int x1]) (rest := []) hk_43 rfl (Or.inr (Or.inr (Or.inr ⟨Or.inl rfl, _, _, rfl, wc_17⟩))) rfl rfl rfl (Nat.not_lt.mpr (Nat.le_of_ble_eq_true rfl)) (hR0 _ _ _ _ hv1) (Nat.le_refl _) rfl ?_
  refine wf_if hF (fun c2 hF => ?_) (fun c2 hF => ?_)
  · refine kg_ifF hk_43 rfl (jc_F1 c2) rfl ?_
    refine kg_push (x := 0) hk_43 rfl (by decide) rfl ?_
    have hF := Option.some.inj hF
    subst hF
    exact kg_iret hk_43 rfl (Or.inr rfl) rfl
  · refine kg_ifT hk_43 rfl (jc_T1 c2) ?_
    refine kg_push (x := 0) hk_43 rfl (by decide) rfl ?_
    refine kg_istore (L2 := [.ref (17 + 1), .int x1, .int 0]) hk_43 rfl (Nat.le_of_ble_eq_true rfl) rfl rfl ?_
    exact l_43_8_ok hD hR0 hF rfl
-- NotebookWeir$Reader.readExpression(I)Z
theorem hk_42 : jP[42]? = some (jc_42, 4, [], []) := by rfl
def q_42_30 (R : Nat → Int32 → Hp → Option (Int32 × Hp)) (h : Hp) (x1 : Int32) (x2 : Int32) (s0 : Int32) : Option ((Int32 × Hp) ⊕ Int32 × Hp) :=
  if s0 = (-1) then
    (some (.inr (1, h)))
  else
    (w_let (w_up h 17 2 ((h 17 2) + 1)) fun h8 =>
    (R 43 x1 h8).bind fun v9 =>
    if v9.1 = 0 then
      (some (.inr (0, v9.2)))
    else
      (w_gd ((v9.2 17 1) == 24) <|
      (p_10 v9.2 24 s0 0 (v9.2 17 3)).bind fun v12 =>
      some (.inl ((x2 + 1), v12))))
theorem q_42_30_ok {X : List Int32} {o : kO} {D : Nat} {R : Nat → Int32 → Hp → Option (Int32 × Hp)} (hD : 3 ≤ D) (hR0 : ∀ w d h r, R w d h = some r → k_Ev X D w [.ref (17 + 1), .int d] h (.inl (some (.int r.1)), r.2)) {h : Hp} {s0 : Int32} {x1 : Int32} {x2 : Int32}  {r : (Int32 × Hp) ⊕ Int32 × Hp} (hF : q_42_30 R h x1 x2 s0 = some r) (hK : ∀ s' : Int32 × Hp, r = .inl s' → ∀ (u3 : Value), k_Go X (D + 1) 42 (8, [.ref (17 + 1), .int x1, .int (s'.1), u3], []) s'.2 o) (hX0 : ∀ e : Int32 × Hp, r = .inr e → (.inl (some (.int e.1)), e.2) = o) : ∀ (u3 : Value), k_Go X (D + 1) 42 (30, [.ref (17 + 1), .int x1, .int x2, u3], [.int s0]) h o := by
  intro u3
  unfold q_42_30 at hF
  refine kg_istore (L2 := [.ref (17 + 1), .int x1, .int x2, .int s0]) hk_42 rfl (Nat.le_of_ble_eq_true rfl) rfl rfl ?_
  refine kg_iload hk_42 rfl rfl rfl ?_
  refine kg_push (x := (-1)) hk_42 rfl (by decide) rfl ?_
  refine wf_if hF (fun c7 hF => ?_) (fun c7 hF => ?_)
  · refine kg_icF hk_42 rfl (jc_F1 c7) rfl ?_
    refine kg_push (x := 1) hk_42 rfl (by decide) rfl ?_
    have hF := Option.some.inj hF
    exact kg_iret hk_42 rfl (Or.inr rfl) (hX0 _ hF.symm)
  · refine kg_icT hk_42 rfl (jc_T1 c7) ?_
    refine kg_aload hk_42 rfl rfl rfl ?_
    refine kg_dup hk_42 rfl rfl rfl ?_
    refine kg_get (v := .int (h 17 2)) hk_42 rfl wk_17_2 rfl rfl ?_
    refine kg_push (x := 1) hk_42 rfl (by decide) rfl ?_
    refine kg_bin (z := ((h 17 2) + 1)) hk_42 rfl rfl rfl ?_
    refine wf_let hF (fun h8 hh8 hF => ?_)
    refine kg_put hk_42 rfl wk_17_2 rfl rfl hh8 rfl ?_
    refine kg_aload hk_42 rfl rfl rfl ?_
    refine kg_iload hk_42 rfl rfl rfl ?_
    refine wf_bind hF (fun v9 hv9 hF => ?_)
    refine kg_call (as := [.ref (17 + 1), .int x1]) (rest := []) hk_42 rfl (Or.inr (Or.inr (Or.inr ⟨Or.inl rfl, _, _, rfl, wc_17⟩))) rfl rfl rfl (Nat.not_lt.mpr (Nat.le_of_ble_eq_true rfl)) (hR0 _ _ _ _ hv9) (Nat.le_refl _) rfl ?_
    refine wf_if hF (fun c10 hF => ?_) (fun c10 hF => ?_)
    · refine kg_ifF hk_42 rfl (jc_F1 c10) rfl ?_
      refine kg_push (x := 0) hk_42 rfl (by decide) rfl ?_
      have hF := Option.some.inj hF
      exact kg_iret hk_42 rfl (Or.inr rfl) (hX0 _ hF.symm)
    · refine kg_ifT hk_42 rfl (jc_T1 c10) ?_
      refine kg_aload hk_42 rfl rfl rfl ?_
      refine wf_gd hF (fun g11 hF => ?_)
      refine kg_get (v := .ref (24 + 1)) hk_42 rfl wk_17_1 (by rw [beq_iff_eq.mp g11]; rfl) rfl ?_
      refine kg_iload hk_42 rfl rfl rfl ?_
      refine kg_push (x := 0) hk_42 rfl (by decide) rfl ?_
      refine kg_aload hk_42 rfl rfl rfl ?_
      refine kg_get (v := .int (v9.2 17 3)) hk_42 rfl wk_17_3 rfl rfl ?_
      refine wf_bind hF (fun v12 hv12 hF => ?_)
      refine kg_call (as := [.ref (24 + 1), .int s0, .int 0, .int (v9.2 17 3)]) (rest := []) hk_42 rfl (Or.inr (Or.inr (Or.inr ⟨Or.inl rfl, _, _, rfl, wc_24⟩))) rfl rfl rfl (Nat.not_lt.mpr (Nat.le_of_ble_eq_true rfl)) (p_10_ok wc_24 hv12) (Nat.le_trans (by decide) hD) rfl ?_
      refine kg_iinc (y := (x2 + 1)) (L2 := [.ref (17 + 1), .int x1, .int (x2 + 1), .int s0]) hk_42 rfl rfl rfl rfl rfl ?_
      refine kg_goto hk_42 rfl ?_
      have hF := Option.some.inj hF
      exact hK _ hF.symm _
def l_42_8 (R : Nat → Int32 → Hp → Option (Int32 × Hp)) (x1 : Int32) (x2 : Int32) (h : Hp) : Option ((Int32 × Hp) ⊕ Int32 × Hp) :=
  if x2 < 40 then
    (w_gd (w_tag (h 17 0).toNatClampNeg == 7 && 7 != 999) <|
    w_gd (g_58 h ((h 17 0).toNatClampNeg) (h 17 2)) <|
    if (v_58 h ((h 17 0).toNatClampNeg) (h 17 2)) = 43 then
      (q_42_30 R h x1 x2 4)
    else
      (w_gd (w_tag (h 17 0).toNatClampNeg == 7 && 7 != 999) <|
      w_gd (g_58 h ((h 17 0).toNatClampNeg) (h 17 2)) <|
      q_42_30 R h x1 x2 (if (v_58 h ((h 17 0).toNatClampNeg) (h 17 2)) = 45 then 5 else (-1))))
  else
    (some (.inr (1, h)))
theorem l_42_8_st {X : List Int32} {o : kO} {D : Nat} {R : Nat → Int32 → Hp → Option (Int32 × Hp)} (hD : 3 ≤ D) (hR0 : ∀ w d h r, R w d h = some r → k_Ev X D w [.ref (17 + 1), .int d] h (.inl (some (.int r.1)), r.2)) {h : Hp} {x1 : Int32} {x2 : Int32}  {r : (Int32 × Hp) ⊕ Int32 × Hp} (hF : l_42_8 R x1 x2 h = some r) (hK : ∀ s' : Int32 × Hp, r = .inl s' → ∀ (u3 : Value), k_Go X (D + 1) 42 (8, [.ref (17 + 1), .int x1, .int (s'.1), u3], []) s'.2 o) (hX0 : ∀ e : Int32 × Hp, r = .inr e → (.inl (some (.int e.1)), e.2) = o) : ∀ (u3 : Value), k_Go X (D + 1) 42 (8, [.ref (17 + 1), .int x1, .int x2, u3], []) h o := by
  intro u3
  refine kg_iload hk_42 rfl rfl rfl ?_
  refine kg_push (x := 40) hk_42 rfl (by decide) rfl ?_
  refine wf_if hF (fun c3 hF => ?_) (fun c3 hF => ?_)
  · refine kg_icF hk_42 rfl (jc_F3 c3) rfl ?_
    refine kg_aload hk_42 rfl rfl rfl ?_
    refine wf_gd hF (fun g4 hF => ?_)
    refine kg_get (v := .ref (((h 17 0).toNatClampNeg) + 1)) hk_42 rfl wk_17_0 rfl rfl ?_
    refine kg_aload hk_42 rfl rfl rfl ?_
    refine kg_get (v := .int (h 17 2)) hk_42 rfl wk_17_2 rfl rfl ?_
    refine wf_gd hF (fun g5 hF => ?_)
    refine kg_call (as := [.ref (((h 17 0).toNatClampNeg) + 1), .int (h 17 2)]) (rest := []) hk_42 rfl (Or.inr (Or.inr (Or.inr ⟨Or.inl rfl, _, _, rfl, (w_tagE g4)⟩))) rfl rfl rfl (Nat.not_lt.mpr (Nat.le_of_ble_eq_true rfl)) (v_58_ok (w_tagE g4) g5) (Nat.le_trans (by decide) hD) rfl ?_
    refine kg_push (x := 43) hk_42 rfl (by decide) rfl ?_
    refine wf_if hF (fun c6 hF => ?_) (fun c6 hF => ?_)
    · refine kg_icF hk_42 rfl (jc_F1 c6) rfl ?_
      refine kg_push (x := 4) hk_42 rfl (by decide) rfl ?_
      refine kg_goto hk_42 rfl ?_
      exact q_42_30_ok hD hR0 hF hK hX0 _
    · refine kg_icT hk_42 rfl (jc_T1 c6) ?_
      refine kg_aload hk_42 rfl rfl rfl ?_
      refine wf_gd hF (fun g13 hF => ?_)
      refine kg_get (v := .ref (((h 17 0).toNatClampNeg) + 1)) hk_42 rfl wk_17_0 rfl rfl ?_
      refine kg_aload hk_42 rfl rfl rfl ?_
      refine kg_get (v := .int (h 17 2)) hk_42 rfl wk_17_2 rfl rfl ?_
      refine wf_gd hF (fun g14 hF => ?_)
      refine kg_call (as := [.ref (((h 17 0).toNatClampNeg) + 1), .int (h 17 2)]) (rest := []) hk_42 rfl (Or.inr (Or.inr (Or.inr ⟨Or.inl rfl, _, _, rfl, (w_tagE g13)⟩))) rfl rfl rfl (Nat.not_lt.mpr (Nat.le_of_ble_eq_true rfl)) (v_58_ok (w_tagE g13) g14) (Nat.le_trans (by decide) hD) rfl ?_
      refine kg_push (x := 45) hk_42 rfl (by decide) rfl ?_
      refine kv_mid (p := 30) (L := [.ref (17 + 1), .int x1, .int x2, u3]) (S := [.int (if (v_58 h ((h 17 0).toNatClampNeg) (h 17 2)) = 45 then 5 else (-1))]) ?_ (fun hK => ?_)
      · exact q_42_30_ok hD hR0 hF hK hX0 _
      · by_cases c15 : (v_58 h ((h 17 0).toNatClampNeg) (h 17 2)) = 45
        · have hK := kv_T c15 hK
          refine kg_icF hk_42 rfl (jc_F1 c15) rfl ?_
          refine kg_push (x := 5) hk_42 rfl (by decide) rfl ?_
          refine kg_goto hk_42 rfl ?_
          exact hK
        · have hK := kv_F c15 hK
          refine kg_icT hk_42 rfl (jc_T1 c15) ?_
          refine kg_push (x := (-1)) hk_42 rfl (by decide) rfl ?_
          exact hK
  · refine kg_icT hk_42 rfl (jc_T3 c3) ?_
    refine kg_push (x := 1) hk_42 rfl (by decide) rfl ?_
    have hF := Option.some.inj hF
    exact kg_iret hk_42 rfl (Or.inr rfl) (hX0 _ hF.symm)
theorem l_42_8_ok {X : List Int32} {o : kO} {D : Nat} {R : Nat → Int32 → Hp → Option (Int32 × Hp)} (hD : 3 ≤ D) (hR0 : ∀ w d h r, R w d h = some r → k_Ev X D w [.ref (17 + 1), .int d] h (.inl (some (.int r.1)), r.2)) {x1 : Int32}  {n : Nat} {s : Int32 × Hp} {e : Int32 × Hp} (hF : w_lp (fun (s : Int32 × Hp) => l_42_8 R x1 s.1 s.2) n s = some e) (hX0 : (.inl (some (.int e.1)), e.2) = o) : ∀ (u3 : Value), k_Go X (D + 1) 42 (8, [.ref (17 + 1), .int x1, .int s.1, u3], []) s.2 o := by
  exact w_lp_ok (P := (fun (s : Int32 × Hp) => ∀ (u3 : Value), k_Go X (D + 1) 42 (8, [.ref (17 + 1), .int x1, .int s.1, u3], []) s.2 o)) (Q := (fun (e : Int32 × Hp) => ((.inl (some (.int e.1)), e.2) = o))) (fun s r hF hK hX => l_42_8_st hD hR0 hF hK (fun x hx => (hX _ hx))) n s e hF hX0
def p_42 (R : Nat → Int32 → Hp → Option (Int32 × Hp)) (h : Hp) (x1 : Int32) : Option (Int32 × Hp) :=
  (R 43 x1 h).bind fun v1 =>
  if v1.1 = 0 then
    (some (0, v1.2))
  else
    (w_lp (fun (s : Int32 × Hp) => l_42_8 R x1 s.1 s.2) w_N (0, v1.2))
theorem p_42_ok {X : List Int32} {D : Nat} {R : Nat → Int32 → Hp → Option (Int32 × Hp)} (hD : 3 ≤ D) (hR0 : ∀ w d h r, R w d h = some r → k_Ev X D w [.ref (17 + 1), .int d] h (.inl (some (.int r.1)), r.2)) {h : Hp} {x1 : Int32}  {r : Int32 × Hp} (hF : p_42 R h x1 = some r) : k_Ev X (D + 1) 42 [.ref (17 + 1), .int x1] h (.inl (some (.int r.1)), r.2) := by
  refine k_of hk_42 ?_
  show k_Go X (D + 1) 42 (0, [.ref (17 + 1), .int x1, (.retAddr 0), (.retAddr 0)], []) h _
  unfold p_42 at hF
  refine kg_aload hk_42 rfl rfl rfl ?_
  refine kg_iload hk_42 rfl rfl rfl ?_
  refine wf_bind hF (fun v1 hv1 hF => ?_)
  refine kg_call (as := [.ref (17 + 1), .int x1]) (rest := []) hk_42 rfl (Or.inr (Or.inr (Or.inr ⟨Or.inl rfl, _, _, rfl, wc_17⟩))) rfl rfl rfl (Nat.not_lt.mpr (Nat.le_of_ble_eq_true rfl)) (hR0 _ _ _ _ hv1) (Nat.le_refl _) rfl ?_
  refine wf_if hF (fun c2 hF => ?_) (fun c2 hF => ?_)
  · refine kg_ifF hk_42 rfl (jc_F1 c2) rfl ?_
    refine kg_push (x := 0) hk_42 rfl (by decide) rfl ?_
    have hF := Option.some.inj hF
    subst hF
    exact kg_iret hk_42 rfl (Or.inr rfl) rfl
  · refine kg_ifT hk_42 rfl (jc_T1 c2) ?_
    refine kg_push (x := 0) hk_42 rfl (by decide) rfl ?_
    refine kg_istore (L2 := [.ref (17 + 1), .int x1, .int 0, (.retAddr 0)]) hk_42 rfl (Nat.le_of_ble_eq_true rfl) rfl rfl ?_
    exact l_42_8_ok hD hR0 hF rfl _
def w_R : Nat := 250
def p_R : Nat → Nat → Int32 → Hp → Option (Int32 × Hp)
  | 0, _, _, _ => none
  | n + 1, w, d, h => if w = 42 then p_42 (p_R n) h d else if w = 43 then p_43 (p_R n) h d else if w = 44 then p_44 (p_R n) h d else if w = 45 then p_45 (p_R n) h d else if w = 47 then p_47 (p_R n) h d else none
theorem p_R_ok {X : List Int32} : ∀ (n w : Nat) (d : Int32) (h : Hp) (r : Int32 × Hp), p_R n w d h = some r → k_Ev X (n + 3) w [.ref (17 + 1), .int d] h (.inl (some (.int r.1)), r.2) := by
  intro n
  induction n with
  | zero => intro w d h r hF; cases hF
  | succ n ih =>
    intro w d h r hF
    unfold p_R at hF
    refine wf_if hF (fun hw hF => ?_) (fun hw hF => ?_)
    · subst hw; exact k_e_up (p_42_ok (D := n + 3) (by omega) ih hF) (by omega)
    refine wf_if hF (fun hw hF => ?_) (fun hw hF => ?_)
    · subst hw; exact k_e_up (p_43_ok (D := n + 3) (by omega) ih hF) (by omega)
    refine wf_if hF (fun hw hF => ?_) (fun hw hF => ?_)
    · subst hw; exact k_e_up (p_44_ok (D := n + 3) (by omega) ih hF) (by omega)
    refine wf_if hF (fun hw hF => ?_) (fun hw hF => ?_)
    · subst hw; exact k_e_up (p_45_ok (D := n + 3) (by omega) ih hF) (by omega)
    refine wf_if hF (fun hw hF => ?_) (fun hw hF => ?_)
    · subst hw; exact k_e_up (p_47_ok (D := n + 3) (by omega) ih hF) (by omega)
    cases hF
-- NotebookWeir$Reader.readStatement()Z
theorem hk_40 : jP[40]? = some (jc_40, 3, [], []) := by rfl
def q_40_95 (h : Hp) (x2 : Int32) : Option (Int32 × Hp) :=
  w_let (w_up h 17 4 ((h 17 4) ||| (1 <<< (x2 &&& 31)))) fun h18 =>
  some (1, h18)
theorem q_40_95_ok {X : List Int32}   {h : Hp} {x2 : Int32}  {r : Int32 × Hp} (hF : q_40_95 h x2 = some r)  : ∀ (u1 : Value), k_Go X 254 40 (95, [.ref (17 + 1), u1, .int x2], []) h (.inl (some (.int r.1)), r.2) := by
  intro u1
  unfold q_40_95 at hF
  refine kg_aload hk_40 rfl rfl rfl ?_
  refine kg_dup hk_40 rfl rfl rfl ?_
  refine kg_get (v := .int (h 17 4)) hk_40 rfl wk_17_4 rfl rfl ?_
  refine kg_push (x := 1) hk_40 rfl (by decide) rfl ?_
  refine kg_iload hk_40 rfl rfl rfl ?_
  refine kg_bin (z := (1 <<< (x2 &&& 31))) hk_40 rfl rfl rfl ?_
  refine kg_bin (z := ((h 17 4) ||| (1 <<< (x2 &&& 31)))) hk_40 rfl rfl rfl ?_
  refine wf_let hF (fun h18 hh18 hF => ?_)
  refine kg_put hk_40 rfl wk_17_4 rfl rfl hh18 rfl ?_
  refine kg_push (x := 1) hk_40 rfl (by decide) rfl ?_
  have hF := Option.some.inj hF
  subst hF
  exact kg_iret hk_40 rfl (Or.inr rfl) rfl
def q_40_59 (h : Hp) (x1 : Int32) (x2 : Int32) : Option (Int32 × Hp) :=
  (p_R w_R 42 0 h).bind fun v11 =>
  if v11.1 = 0 then
    (some (0, v11.2))
  else
    (if x1 = 61 then
      (w_gd ((v11.2 17 1) == 24) <|
      (p_10 v11.2 24 12 x2 (v11.2 17 3)).bind fun v15 =>
      w_gd ((v15 17 1) == 24) <|
      w_let (w_up v15 24 5 ((v15 24 5) ||| (1 <<< (x2 &&& 31)))) fun h17 =>
      q_40_95 h17 x2)
    else
      (w_gd ((v11.2 17 1) == 24) <|
      (p_10 v11.2 24 13 x2 (v11.2 17 3)).bind fun v20 =>
      (p_41 v20 x2).bind fun v21 =>
      q_40_95 v21 x2))
theorem q_40_59_ok {X : List Int32}   {h : Hp} {x1 : Int32} {x2 : Int32}  {r : Int32 × Hp} (hF : q_40_59 h x1 x2 = some r)  : k_Go X 254 40 (59, [.ref (17 + 1), .int x1, .int x2], []) h (.inl (some (.int r.1)), r.2) := by
  unfold q_40_59 at hF
  refine kg_aload hk_40 rfl rfl rfl ?_
  refine kg_push (x := 0) hk_40 rfl (by decide) rfl ?_
  refine wf_bind hF (fun v11 hv11 hF => ?_)
  refine kg_call (as := [.ref (17 + 1), .int 0]) (rest := []) hk_40 rfl (Or.inr (Or.inr (Or.inr ⟨Or.inl rfl, _, _, rfl, wc_17⟩))) rfl rfl rfl (Nat.not_lt.mpr (Nat.le_of_ble_eq_true rfl)) (p_R_ok _ _ _ _ _ hv11) (by decide) rfl ?_
  refine wf_if hF (fun c12 hF => ?_) (fun c12 hF => ?_)
  · refine kg_ifF hk_40 rfl (jc_F1 c12) rfl ?_
    refine kg_push (x := 0) hk_40 rfl (by decide) rfl ?_
    have hF := Option.some.inj hF
    subst hF
    exact kg_iret hk_40 rfl (Or.inr rfl) rfl
  · refine kg_ifT hk_40 rfl (jc_T1 c12) ?_
    refine kg_iload hk_40 rfl rfl rfl ?_
    refine kg_push (x := 61) hk_40 rfl (by decide) rfl ?_
    refine wf_if hF (fun c13 hF => ?_) (fun c13 hF => ?_)
    · refine kg_icF hk_40 rfl (jc_F1 c13) rfl ?_
      refine kg_aload hk_40 rfl rfl rfl ?_
      refine wf_gd hF (fun g14 hF => ?_)
      refine kg_get (v := .ref (24 + 1)) hk_40 rfl wk_17_1 (by rw [beq_iff_eq.mp g14]; rfl) rfl ?_
      refine kg_push (x := 12) hk_40 rfl (by decide) rfl ?_
      refine kg_iload hk_40 rfl rfl rfl ?_
      refine kg_aload hk_40 rfl rfl rfl ?_
      refine kg_get (v := .int (v11.2 17 3)) hk_40 rfl wk_17_3 rfl rfl ?_
      refine wf_bind hF (fun v15 hv15 hF => ?_)
      refine kg_call (as := [.ref (24 + 1), .int 12, .int x2, .int (v11.2 17 3)]) (rest := []) hk_40 rfl (Or.inr (Or.inr (Or.inr ⟨Or.inl rfl, _, _, rfl, wc_24⟩))) rfl rfl rfl (Nat.not_lt.mpr (Nat.le_of_ble_eq_true rfl)) (p_10_ok wc_24 hv15) (by decide) rfl ?_
      refine kg_aload hk_40 rfl rfl rfl ?_
      refine wf_gd hF (fun g16 hF => ?_)
      refine kg_get (v := .ref (24 + 1)) hk_40 rfl wk_17_1 (by rw [beq_iff_eq.mp g16]; rfl) rfl ?_
      refine kg_dup hk_40 rfl rfl rfl ?_
      refine kg_get (v := .int (v15 24 5)) hk_40 rfl wk_24_5 rfl rfl ?_
      refine kg_push (x := 1) hk_40 rfl (by decide) rfl ?_
      refine kg_iload hk_40 rfl rfl rfl ?_
      refine kg_bin (z := (1 <<< (x2 &&& 31))) hk_40 rfl rfl rfl ?_
      refine kg_bin (z := ((v15 24 5) ||| (1 <<< (x2 &&& 31)))) hk_40 rfl rfl rfl ?_
      refine wf_let hF (fun h17 hh17 hF => ?_)
      refine kg_put hk_40 rfl wk_24_5 rfl rfl hh17 rfl ?_
      refine kg_goto hk_40 rfl ?_
      exact q_40_95_ok hF _
    · refine kg_icT hk_40 rfl (jc_T1 c13) ?_
      refine kg_aload hk_40 rfl rfl rfl ?_
      refine wf_gd hF (fun g19 hF => ?_)
      refine kg_get (v := .ref (24 + 1)) hk_40 rfl wk_17_1 (by rw [beq_iff_eq.mp g19]; rfl) rfl ?_
      refine kg_push (x := 13) hk_40 rfl (by decide) rfl ?_
      refine kg_iload hk_40 rfl rfl rfl ?_
      refine kg_aload hk_40 rfl rfl rfl ?_
      refine kg_get (v := .int (v11.2 17 3)) hk_40 rfl wk_17_3 rfl rfl ?_
      refine wf_bind hF (fun v20 hv20 hF => ?_)
      refine kg_call (as := [.ref (24 + 1), .int 13, .int x2, .int (v11.2 17 3)]) (rest := []) hk_40 rfl (Or.inr (Or.inr (Or.inr ⟨Or.inl rfl, _, _, rfl, wc_24⟩))) rfl rfl rfl (Nat.not_lt.mpr (Nat.le_of_ble_eq_true rfl)) (p_10_ok wc_24 hv20) (by decide) rfl ?_
      refine kg_aload hk_40 rfl rfl rfl ?_
      refine kg_iload hk_40 rfl rfl rfl ?_
      refine wf_bind hF (fun v21 hv21 hF => ?_)
      refine kg_call (as := [.ref (17 + 1), .int x2]) (rest := []) hk_40 rfl (Or.inr (Or.inr (Or.inr ⟨Or.inl rfl, _, _, rfl, wc_17⟩))) rfl rfl rfl (Nat.not_lt.mpr (Nat.le_of_ble_eq_true rfl)) (p_41_ok hv21) (by decide) rfl ?_
      exact q_40_95_ok hF _
def q_40_40 (h : Hp) (x1 : Int32) : Option (Int32 × Hp) :=
  (p_37 h).bind fun v6 =>
  w_let (w_up v6.2 17 2 ((v6.2 17 2) + 1)) fun h7 =>
  if x1 = 33 then
    (w_gd ((h7 17 1) == 24) <|
    (p_10 h7 24 11 v6.1 (h7 17 3)).bind fun v10 =>
    q_40_59 v10 x1 v6.1)
  else
    (q_40_59 h7 x1 v6.1)
theorem q_40_40_ok {X : List Int32}   {h : Hp} {x1 : Int32}  {r : Int32 × Hp} (hF : q_40_40 h x1 = some r)  : ∀ (u2 : Value), k_Go X 254 40 (40, [.ref (17 + 1), .int x1, u2], []) h (.inl (some (.int r.1)), r.2) := by
  intro u2
  unfold q_40_40 at hF
  refine kg_aload hk_40 rfl rfl rfl ?_
  refine wf_bind hF (fun v6 hv6 hF => ?_)
  refine kg_call (as := [.ref (17 + 1)]) (rest := []) hk_40 rfl (Or.inr (Or.inr (Or.inr ⟨Or.inl rfl, _, _, rfl, wc_17⟩))) rfl rfl rfl (Nat.not_lt.mpr (Nat.le_of_ble_eq_true rfl)) (p_37_ok hv6) (by decide) rfl ?_
  refine kg_istore (L2 := [.ref (17 + 1), .int x1, .int v6.1]) hk_40 rfl (Nat.le_of_ble_eq_true rfl) rfl rfl ?_
  refine kg_aload hk_40 rfl rfl rfl ?_
  refine kg_dup hk_40 rfl rfl rfl ?_
  refine kg_get (v := .int (v6.2 17 2)) hk_40 rfl wk_17_2 rfl rfl ?_
  refine kg_push (x := 1) hk_40 rfl (by decide) rfl ?_
  refine kg_bin (z := ((v6.2 17 2) + 1)) hk_40 rfl rfl rfl ?_
  refine wf_let hF (fun h7 hh7 hF => ?_)
  refine kg_put hk_40 rfl wk_17_2 rfl rfl hh7 rfl ?_
  refine kg_iload hk_40 rfl rfl rfl ?_
  refine kg_push (x := 33) hk_40 rfl (by decide) rfl ?_
  refine wf_if hF (fun c8 hF => ?_) (fun c8 hF => ?_)
  · refine kg_icF hk_40 rfl (jc_F1 c8) rfl ?_
    refine kg_aload hk_40 rfl rfl rfl ?_
    refine wf_gd hF (fun g9 hF => ?_)
    refine kg_get (v := .ref (24 + 1)) hk_40 rfl wk_17_1 (by rw [beq_iff_eq.mp g9]; rfl) rfl ?_
    refine kg_push (x := 11) hk_40 rfl (by decide) rfl ?_
    refine kg_iload hk_40 rfl rfl rfl ?_
    refine kg_aload hk_40 rfl rfl rfl ?_
    refine kg_get (v := .int (h7 17 3)) hk_40 rfl wk_17_3 rfl rfl ?_
    refine wf_bind hF (fun v10 hv10 hF => ?_)
    refine kg_call (as := [.ref (24 + 1), .int 11, .int v6.1, .int (h7 17 3)]) (rest := []) hk_40 rfl (Or.inr (Or.inr (Or.inr ⟨Or.inl rfl, _, _, rfl, wc_24⟩))) rfl rfl rfl (Nat.not_lt.mpr (Nat.le_of_ble_eq_true rfl)) (p_10_ok wc_24 hv10) (by decide) rfl ?_
    exact q_40_59_ok hF
  · refine kg_icT hk_40 rfl (jc_T1 c8) ?_
    exact q_40_59_ok hF
def q_40_20 (h : Hp) (s0 : Int32) : Option (Int32 × Hp) :=
  if s0 = 61 then
    (q_40_40 h s0)
  else
    (if s0 = 33 then
      (q_40_40 h s0)
    else
      ((p_R w_R 42 0 h).bind fun v23 =>
      w_gd ((v23.2 17 1) == 24) <|
      (p_10 v23.2 24 14 0 (v23.2 17 3)).bind fun v25 =>
      w_gd (w_bo v23.1) <|
      some (v23.1, v25)))
theorem q_40_20_ok {X : List Int32}   {h : Hp} {s0 : Int32}  {r : Int32 × Hp} (hF : q_40_20 h s0 = some r)  : ∀ (u1 : Value) (u2 : Value), k_Go X 254 40 (20, [.ref (17 + 1), u1, u2], [.int s0]) h (.inl (some (.int r.1)), r.2) := by
  intro u1 u2
  unfold q_40_20 at hF
  refine kg_istore (L2 := [.ref (17 + 1), .int s0, u2]) hk_40 rfl (Nat.le_of_ble_eq_true rfl) rfl rfl ?_
  refine kg_iload hk_40 rfl rfl rfl ?_
  refine kg_push (x := 61) hk_40 rfl (by decide) rfl ?_
  refine wf_if hF (fun c5 hF => ?_) (fun c5 hF => ?_)
  · refine kg_icT hk_40 rfl (jc_T0 c5) ?_
    exact q_40_40_ok hF _
  · refine kg_icF hk_40 rfl (jc_F0 c5) rfl ?_
    refine kg_iload hk_40 rfl rfl rfl ?_
    refine kg_push (x := 33) hk_40 rfl (by decide) rfl ?_
    refine wf_if hF (fun c22 hF => ?_) (fun c22 hF => ?_)
    · refine kg_icT hk_40 rfl (jc_T0 c22) ?_
      exact q_40_40_ok hF _
    · refine kg_icF hk_40 rfl (jc_F0 c22) rfl ?_
      refine kg_aload hk_40 rfl rfl rfl ?_
      refine kg_push (x := 0) hk_40 rfl (by decide) rfl ?_
      refine wf_bind hF (fun v23 hv23 hF => ?_)
      refine kg_call (as := [.ref (17 + 1), .int 0]) (rest := []) hk_40 rfl (Or.inr (Or.inr (Or.inr ⟨Or.inl rfl, _, _, rfl, wc_17⟩))) rfl rfl rfl (Nat.not_lt.mpr (Nat.le_of_ble_eq_true rfl)) (p_R_ok _ _ _ _ _ hv23) (by decide) rfl ?_
      refine kg_istore (L2 := [.ref (17 + 1), .int s0, .int v23.1]) hk_40 rfl (Nat.le_of_ble_eq_true rfl) rfl rfl ?_
      refine kg_aload hk_40 rfl rfl rfl ?_
      refine wf_gd hF (fun g24 hF => ?_)
      refine kg_get (v := .ref (24 + 1)) hk_40 rfl wk_17_1 (by rw [beq_iff_eq.mp g24]; rfl) rfl ?_
      refine kg_push (x := 14) hk_40 rfl (by decide) rfl ?_
      refine kg_push (x := 0) hk_40 rfl (by decide) rfl ?_
      refine kg_aload hk_40 rfl rfl rfl ?_
      refine kg_get (v := .int (v23.2 17 3)) hk_40 rfl wk_17_3 rfl rfl ?_
      refine wf_bind hF (fun v25 hv25 hF => ?_)
      refine kg_call (as := [.ref (24 + 1), .int 14, .int 0, .int (v23.2 17 3)]) (rest := []) hk_40 rfl (Or.inr (Or.inr (Or.inr ⟨Or.inl rfl, _, _, rfl, wc_24⟩))) rfl rfl rfl (Nat.not_lt.mpr (Nat.le_of_ble_eq_true rfl)) (p_10_ok wc_24 hv25) (by decide) rfl ?_
      refine kg_iload hk_40 rfl rfl rfl ?_
      refine wf_gd hF (fun g26 hF => ?_)
      have hF := Option.some.inj hF
      subst hF
      exact kg_iret hk_40 rfl (Or.inr g26) rfl
def p_40 (h : Hp) : Option (Int32 × Hp) :=
  w_let (w_up h 17 3 (h 17 2)) fun h1 =>
  w_gd (w_tag (h1 17 0).toNatClampNeg == 7 && 7 != 999) <|
  w_gd (g_58 h1 ((h1 17 0).toNatClampNeg) (h1 17 2)) <|
  if (v_123 (v_58 h1 ((h1 17 0).toNatClampNeg) (h1 17 2))) = 0 then
    (q_40_20 h1 (-1))
  else
    (w_gd (w_tag (h1 17 0).toNatClampNeg == 7 && 7 != 999) <|
    w_gd (g_58 h1 ((h1 17 0).toNatClampNeg) ((h1 17 2) + 1)) <|
    q_40_20 h1 (v_58 h1 ((h1 17 0).toNatClampNeg) ((h1 17 2) + 1)))
theorem p_40_ok {X : List Int32}  {h : Hp}   {r : Int32 × Hp} (hF : p_40 h = some r) : k_Ev X 254 40 [.ref (17 + 1)] h (.inl (some (.int r.1)), r.2) := by
  refine k_of hk_40 ?_
  show k_Go X 254 40 (0, [.ref (17 + 1), (.retAddr 0), (.retAddr 0)], []) h _
  unfold p_40 at hF
  refine kg_aload hk_40 rfl rfl rfl ?_
  refine kg_aload hk_40 rfl rfl rfl ?_
  refine kg_get (v := .int (h 17 2)) hk_40 rfl wk_17_2 rfl rfl ?_
  refine wf_let hF (fun h1 hh1 hF => ?_)
  refine kg_put hk_40 rfl wk_17_3 rfl rfl hh1 rfl ?_
  refine kg_aload hk_40 rfl rfl rfl ?_
  refine wf_gd hF (fun g2 hF => ?_)
  refine kg_get (v := .ref (((h1 17 0).toNatClampNeg) + 1)) hk_40 rfl wk_17_0 rfl rfl ?_
  refine kg_aload hk_40 rfl rfl rfl ?_
  refine kg_get (v := .int (h1 17 2)) hk_40 rfl wk_17_2 rfl rfl ?_
  refine wf_gd hF (fun g3 hF => ?_)
  refine kg_call (as := [.ref (((h1 17 0).toNatClampNeg) + 1), .int (h1 17 2)]) (rest := []) hk_40 rfl (Or.inr (Or.inr (Or.inr ⟨Or.inl rfl, _, _, rfl, (w_tagE g2)⟩))) rfl rfl rfl (Nat.not_lt.mpr (Nat.le_of_ble_eq_true rfl)) (v_58_ok (w_tagE g2) g3) (by decide) rfl ?_
  refine kg_call (as := [.int (v_58 h1 ((h1 17 0).toNatClampNeg) (h1 17 2))]) (rest := []) hk_40 rfl (Or.inr (Or.inl rfl)) rfl rfl rfl (Nat.not_lt.mpr (Nat.le_of_ble_eq_true rfl)) (v_123_ok) (by decide) rfl ?_
  refine wf_if hF (fun c4 hF => ?_) (fun c4 hF => ?_)
  · refine kg_ifT hk_40 rfl (jc_T0 c4) ?_
    refine kg_push (x := (-1)) hk_40 rfl (by decide) rfl ?_
    exact q_40_20_ok hF _ _
  · refine kg_ifF hk_40 rfl (jc_F0 c4) rfl ?_
    refine kg_aload hk_40 rfl rfl rfl ?_
    refine wf_gd hF (fun g27 hF => ?_)
    refine kg_get (v := .ref (((h1 17 0).toNatClampNeg) + 1)) hk_40 rfl wk_17_0 rfl rfl ?_
    refine kg_aload hk_40 rfl rfl rfl ?_
    refine kg_get (v := .int (h1 17 2)) hk_40 rfl wk_17_2 rfl rfl ?_
    refine kg_push (x := 1) hk_40 rfl (by decide) rfl ?_
    refine kg_bin (z := ((h1 17 2) + 1)) hk_40 rfl rfl rfl ?_
    refine wf_gd hF (fun g28 hF => ?_)
    refine kg_call (as := [.ref (((h1 17 0).toNatClampNeg) + 1), .int ((h1 17 2) + 1)]) (rest := []) hk_40 rfl (Or.inr (Or.inr (Or.inr ⟨Or.inl rfl, _, _, rfl, (w_tagE g27)⟩))) rfl rfl rfl (Nat.not_lt.mpr (Nat.le_of_ble_eq_true rfl)) (v_58_ok (w_tagE g27) g28) (by decide) rfl ?_
    refine kg_goto hk_40 rfl ?_
    exact q_40_20_ok hF _ _
-- NotebookWeir$Reader.readStatements()Z
theorem hk_39 : jP[39]? = some (jc_39, 2, [], []) := by rfl
def l_39_2 (x1 : Int32) (h : Hp) : Option ((Int32 × Hp) ⊕ Int32 × Hp) :=
  if x1 < 40 then
    ((p_40 h).bind fun v2 =>
    if v2.1 = 0 then
      (some (.inr (0, v2.2)))
    else
      ((p_36 v2.2 59).bind fun v4 =>
      if v4.1 = 0 then
        (some (.inr (1, v4.2)))
      else
        (some (.inl ((x1 + 1), v4.2)))))
  else
    (some (.inr (0, h)))
theorem l_39_2_st {X : List Int32} {o : kO}  {h : Hp} {x1 : Int32}  {r : (Int32 × Hp) ⊕ Int32 × Hp} (hF : l_39_2 x1 h = some r) (hK : ∀ s' : Int32 × Hp, r = .inl s' → k_Go X 255 39 (2, [.ref (17 + 1), .int (s'.1)], []) s'.2 o) (hX0 : ∀ e : Int32 × Hp, r = .inr e → (.inl (some (.int e.1)), e.2) = o) : k_Go X 255 39 (2, [.ref (17 + 1), .int x1], []) h o := by
  refine kg_iload hk_39 rfl rfl rfl ?_
  refine kg_push (x := 40) hk_39 rfl (by decide) rfl ?_
  refine wf_if hF (fun c1 hF => ?_) (fun c1 hF => ?_)
  · refine kg_icF hk_39 rfl (jc_F3 c1) rfl ?_
    refine kg_aload hk_39 rfl rfl rfl ?_
    refine wf_bind hF (fun v2 hv2 hF => ?_)
    refine kg_call (as := [.ref (17 + 1)]) (rest := []) hk_39 rfl (Or.inr (Or.inr (Or.inr ⟨Or.inl rfl, _, _, rfl, wc_17⟩))) rfl rfl rfl (Nat.not_lt.mpr (Nat.le_of_ble_eq_true rfl)) (p_40_ok hv2) (by decide) rfl ?_
    refine wf_if hF (fun c3 hF => ?_) (fun c3 hF => ?_)
    · refine kg_ifF hk_39 rfl (jc_F1 c3) rfl ?_
      refine kg_push (x := 0) hk_39 rfl (by decide) rfl ?_
      have hF := Option.some.inj hF
      exact kg_iret hk_39 rfl (Or.inr rfl) (hX0 _ hF.symm)
    · refine kg_ifT hk_39 rfl (jc_T1 c3) ?_
      refine kg_aload hk_39 rfl rfl rfl ?_
      refine kg_push (x := 59) hk_39 rfl (by decide) rfl ?_
      refine wf_bind hF (fun v4 hv4 hF => ?_)
      refine kg_call (as := [.ref (17 + 1), .int 59]) (rest := []) hk_39 rfl (Or.inr (Or.inr (Or.inr ⟨Or.inl rfl, _, _, rfl, wc_17⟩))) rfl rfl rfl (Nat.not_lt.mpr (Nat.le_of_ble_eq_true rfl)) (p_36_ok hv4) (by decide) rfl ?_
      refine wf_if hF (fun c5 hF => ?_) (fun c5 hF => ?_)
      · refine kg_ifF hk_39 rfl (jc_F1 c5) rfl ?_
        refine kg_push (x := 1) hk_39 rfl (by decide) rfl ?_
        have hF := Option.some.inj hF
        exact kg_iret hk_39 rfl (Or.inr rfl) (hX0 _ hF.symm)
      · refine kg_ifT hk_39 rfl (jc_T1 c5) ?_
        refine kg_iinc (y := (x1 + 1)) (L2 := [.ref (17 + 1), .int (x1 + 1)]) hk_39 rfl rfl rfl rfl rfl ?_
        refine kg_goto hk_39 rfl ?_
        have hF := Option.some.inj hF
        exact hK _ hF.symm
  · refine kg_icT hk_39 rfl (jc_T3 c1) ?_
    refine kg_push (x := 0) hk_39 rfl (by decide) rfl ?_
    have hF := Option.some.inj hF
    exact kg_iret hk_39 rfl (Or.inr rfl) (hX0 _ hF.symm)
theorem l_39_2_ok {X : List Int32} {o : kO}    {n : Nat} {s : Int32 × Hp} {e : Int32 × Hp} (hF : w_lp (fun (s : Int32 × Hp) => l_39_2 s.1 s.2) n s = some e) (hX0 : (.inl (some (.int e.1)), e.2) = o) : k_Go X 255 39 (2, [.ref (17 + 1), .int s.1], []) s.2 o := by
  exact w_lp_ok (P := (fun (s : Int32 × Hp) => k_Go X 255 39 (2, [.ref (17 + 1), .int s.1], []) s.2 o)) (Q := (fun (e : Int32 × Hp) => ((.inl (some (.int e.1)), e.2) = o))) (fun s r hF hK hX => l_39_2_st hF hK (fun x hx => (hX _ hx))) n s e hF hX0
def p_39 (h : Hp) : Option (Int32 × Hp) :=
  w_lp (fun (s : Int32 × Hp) => l_39_2 s.1 s.2) w_N (0, h)
theorem p_39_ok {X : List Int32}  {h : Hp}   {r : Int32 × Hp} (hF : p_39 h = some r) : k_Ev X 255 39 [.ref (17 + 1)] h (.inl (some (.int r.1)), r.2) := by
  refine k_of hk_39 ?_
  show k_Go X 255 39 (0, [.ref (17 + 1), (.retAddr 0)], []) h _
  unfold p_39 at hF
  refine kg_push (x := 0) hk_39 rfl (by decide) rfl ?_
  refine kg_istore (L2 := [.ref (17 + 1), .int 0]) hk_39 rfl (Nat.le_of_ble_eq_true rfl) rfl rfl ?_
  exact l_39_2_ok hF rfl
-- NotebookWeir$Reader.readSummary()Z
theorem hk_49 : jP[49]? = some (jc_49, 1, [], []) := by rfl
def p_49 (h : Hp) : Option (Int32 × Hp) :=
  (p_36 h 115).bind fun v1 =>
  if v1.1 = 0 then
    ((p_36 v1.2 99).bind fun v3 =>
    if v3.1 = 0 then
      ((p_36 v3.2 109).bind fun v5 =>
      if v5.1 = 0 then
        ((p_36 v5.2 108).bind fun v7 =>
        w_gd (w_bo v7.1) <|
        some (v7.1, v7.2))
      else
        (w_gd ((v5.2 17 1) == 24) <|
        (p_10 v5.2 24 19 0 (v5.2 17 3)).bind fun v10 =>
        some (1, v10)))
    else
      (w_gd ((v3.2 17 1) == 24) <|
      (p_10 v3.2 24 8 0 (v3.2 17 3)).bind fun v12 =>
      some (1, v12)))
  else
    (w_gd ((v1.2 17 1) == 24) <|
    (p_10 v1.2 24 18 0 (v1.2 17 3)).bind fun v14 =>
    some (1, v14))
theorem p_49_ok {X : List Int32}  {h : Hp}   {r : Int32 × Hp} (hF : p_49 h = some r) : k_Ev X 2 49 [.ref (17 + 1)] h (.inl (some (.int r.1)), r.2) := by
  refine k_of hk_49 ?_
  show k_Go X 2 49 (0, [.ref (17 + 1)], []) h _
  unfold p_49 at hF
  refine kg_aload hk_49 rfl rfl rfl ?_
  refine kg_push (x := 115) hk_49 rfl (by decide) rfl ?_
  refine wf_bind hF (fun v1 hv1 hF => ?_)
  refine kg_call (as := [.ref (17 + 1), .int 115]) (rest := []) hk_49 rfl (Or.inr (Or.inr (Or.inr ⟨Or.inl rfl, _, _, rfl, wc_17⟩))) rfl rfl rfl (Nat.not_lt.mpr (Nat.le_of_ble_eq_true rfl)) (p_36_ok hv1) (by decide) rfl ?_
  refine wf_if hF (fun c2 hF => ?_) (fun c2 hF => ?_)
  · refine kg_ifT hk_49 rfl (jc_T0 c2) ?_
    refine kg_aload hk_49 rfl rfl rfl ?_
    refine kg_push (x := 99) hk_49 rfl (by decide) rfl ?_
    refine wf_bind hF (fun v3 hv3 hF => ?_)
    refine kg_call (as := [.ref (17 + 1), .int 99]) (rest := []) hk_49 rfl (Or.inr (Or.inr (Or.inr ⟨Or.inl rfl, _, _, rfl, wc_17⟩))) rfl rfl rfl (Nat.not_lt.mpr (Nat.le_of_ble_eq_true rfl)) (p_36_ok hv3) (by decide) rfl ?_
    refine wf_if hF (fun c4 hF => ?_) (fun c4 hF => ?_)
    · refine kg_ifT hk_49 rfl (jc_T0 c4) ?_
      refine kg_aload hk_49 rfl rfl rfl ?_
      refine kg_push (x := 109) hk_49 rfl (by decide) rfl ?_
      refine wf_bind hF (fun v5 hv5 hF => ?_)
      refine kg_call (as := [.ref (17 + 1), .int 109]) (rest := []) hk_49 rfl (Or.inr (Or.inr (Or.inr ⟨Or.inl rfl, _, _, rfl, wc_17⟩))) rfl rfl rfl (Nat.not_lt.mpr (Nat.le_of_ble_eq_true rfl)) (p_36_ok hv5) (by decide) rfl ?_
      refine wf_if hF (fun c6 hF => ?_) (fun c6 hF => ?_)
      · refine kg_ifT hk_49 rfl (jc_T0 c6) ?_
        refine kg_aload hk_49 rfl rfl rfl ?_
        refine kg_push (x := 108) hk_49 rfl (by decide) rfl ?_
        refine wf_bind hF (fun v7 hv7 hF => ?_)
        refine kg_call (as := [.ref (17 + 1), .int 108]) (rest := []) hk_49 rfl (Or.inr (Or.inr (Or.inr ⟨Or.inl rfl, _, _, rfl, wc_17⟩))) rfl rfl rfl (Nat.not_lt.mpr (Nat.le_of_ble_eq_true rfl)) (p_36_ok hv7) (by decide) rfl ?_
        refine wf_gd hF (fun g8 hF => ?_)
        have hF := Option.some.inj hF
        subst hF
        exact kg_iret hk_49 rfl (Or.inr g8) rfl
      · refine kg_ifF hk_49 rfl (jc_F0 c6) rfl ?_
        refine kg_aload hk_49 rfl rfl rfl ?_
        refine wf_gd hF (fun g9 hF => ?_)
        refine kg_get (v := .ref (24 + 1)) hk_49 rfl wk_17_1 (by rw [beq_iff_eq.mp g9]; rfl) rfl ?_
        refine kg_push (x := 19) hk_49 rfl (by decide) rfl ?_
        refine kg_push (x := 0) hk_49 rfl (by decide) rfl ?_
        refine kg_aload hk_49 rfl rfl rfl ?_
        refine kg_get (v := .int (v5.2 17 3)) hk_49 rfl wk_17_3 rfl rfl ?_
        refine wf_bind hF (fun v10 hv10 hF => ?_)
        refine kg_call (as := [.ref (24 + 1), .int 19, .int 0, .int (v5.2 17 3)]) (rest := []) hk_49 rfl (Or.inr (Or.inr (Or.inr ⟨Or.inl rfl, _, _, rfl, wc_24⟩))) rfl rfl rfl (Nat.not_lt.mpr (Nat.le_of_ble_eq_true rfl)) (p_10_ok wc_24 hv10) (by decide) rfl ?_
        refine kg_push (x := 1) hk_49 rfl (by decide) rfl ?_
        have hF := Option.some.inj hF
        subst hF
        exact kg_iret hk_49 rfl (Or.inr rfl) rfl
    · refine kg_ifF hk_49 rfl (jc_F0 c4) rfl ?_
      refine kg_aload hk_49 rfl rfl rfl ?_
      refine wf_gd hF (fun g11 hF => ?_)
      refine kg_get (v := .ref (24 + 1)) hk_49 rfl wk_17_1 (by rw [beq_iff_eq.mp g11]; rfl) rfl ?_
      refine kg_push (x := 8) hk_49 rfl (by decide) rfl ?_
      refine kg_push (x := 0) hk_49 rfl (by decide) rfl ?_
      refine kg_aload hk_49 rfl rfl rfl ?_
      refine kg_get (v := .int (v3.2 17 3)) hk_49 rfl wk_17_3 rfl rfl ?_
      refine wf_bind hF (fun v12 hv12 hF => ?_)
      refine kg_call (as := [.ref (24 + 1), .int 8, .int 0, .int (v3.2 17 3)]) (rest := []) hk_49 rfl (Or.inr (Or.inr (Or.inr ⟨Or.inl rfl, _, _, rfl, wc_24⟩))) rfl rfl rfl (Nat.not_lt.mpr (Nat.le_of_ble_eq_true rfl)) (p_10_ok wc_24 hv12) (by decide) rfl ?_
      refine kg_push (x := 1) hk_49 rfl (by decide) rfl ?_
      have hF := Option.some.inj hF
      subst hF
      exact kg_iret hk_49 rfl (Or.inr rfl) rfl
  · refine kg_ifF hk_49 rfl (jc_F0 c2) rfl ?_
    refine kg_aload hk_49 rfl rfl rfl ?_
    refine wf_gd hF (fun g13 hF => ?_)
    refine kg_get (v := .ref (24 + 1)) hk_49 rfl wk_17_1 (by rw [beq_iff_eq.mp g13]; rfl) rfl ?_
    refine kg_push (x := 18) hk_49 rfl (by decide) rfl ?_
    refine kg_push (x := 0) hk_49 rfl (by decide) rfl ?_
    refine kg_aload hk_49 rfl rfl rfl ?_
    refine kg_get (v := .int (v1.2 17 3)) hk_49 rfl wk_17_3 rfl rfl ?_
    refine wf_bind hF (fun v14 hv14 hF => ?_)
    refine kg_call (as := [.ref (24 + 1), .int 18, .int 0, .int (v1.2 17 3)]) (rest := []) hk_49 rfl (Or.inr (Or.inr (Or.inr ⟨Or.inl rfl, _, _, rfl, wc_24⟩))) rfl rfl rfl (Nat.not_lt.mpr (Nat.le_of_ble_eq_true rfl)) (p_10_ok wc_24 hv14) (by decide) rfl ?_
    refine kg_push (x := 1) hk_49 rfl (by decide) rfl ?_
    have hF := Option.some.inj hF
    subst hF
    exact kg_iret hk_49 rfl (Or.inr rfl) rfl
-- NotebookWeir$Reader.readQuery()Z
theorem hk_48 : jP[48]? = some (jc_48, 6, [], []) := by rfl
def q_48_79 (h : Hp) (x1 : Int32) (s0 : Int32) (s1 : Int32) : Option (Int32 × Hp) :=
  (p_10 h 24 s1 s0 (h 17 3)).bind fun v23 =>
  (p_49 v23).bind fun v24 =>
  if v24.1 = 0 then
    (some (0, v24.2))
  else
    (w_gd ((v24.2 17 1) == 24) <|
    (p_10 v24.2 24 12 x1 (v24.2 17 3)).bind fun v27 =>
    w_gd ((v27 17 1) == 24) <|
    (p_10 v27 24 1 x1 (v27 17 3)).bind fun v29 =>
    w_gd ((v29 17 1) == 24) <|
    (p_10 v29 24 14 0 (v29 17 3)).bind fun v31 =>
    w_gd ((v31 17 1) == 24) <|
    w_let (w_up v31 24 5 (1 <<< (x1 &&& 31))) fun h33 =>
    some (1, h33))
theorem q_48_79_ok {X : List Int32}   {h : Hp} {s0 : Int32} {s1 : Int32} {x1 : Int32}  {r : Int32 × Hp} (hF : q_48_79 h x1 s0 s1 = some r)  : ∀ (u2 : Value) (u3 : Value) (u4 : Value) (u5 : Value), k_Go X 3 48 (79, [.ref (17 + 1), .int x1, u2, u3, u4, u5], [.int s0, .int s1, .ref (24 + 1)]) h (.inl (some (.int r.1)), r.2) := by
  intro u2 u3 u4 u5
  unfold q_48_79 at hF
  refine kg_aload hk_48 rfl rfl rfl ?_
  refine kg_get (v := .int (h 17 3)) hk_48 rfl wk_17_3 rfl rfl ?_
  refine wf_bind hF (fun v23 hv23 hF => ?_)
  refine kg_call (as := [.ref (24 + 1), .int s1, .int s0, .int (h 17 3)]) (rest := []) hk_48 rfl (Or.inr (Or.inr (Or.inr ⟨Or.inl rfl, _, _, rfl, wc_24⟩))) rfl rfl rfl (Nat.not_lt.mpr (Nat.le_of_ble_eq_true rfl)) (p_10_ok wc_24 hv23) (by decide) rfl ?_
  refine kg_aload hk_48 rfl rfl rfl ?_
  refine wf_bind hF (fun v24 hv24 hF => ?_)
  refine kg_call (as := [.ref (17 + 1)]) (rest := []) hk_48 rfl (Or.inr (Or.inr (Or.inr ⟨Or.inl rfl, _, _, rfl, wc_17⟩))) rfl rfl rfl (Nat.not_lt.mpr (Nat.le_of_ble_eq_true rfl)) (p_49_ok hv24) (by decide) rfl ?_
  refine wf_if hF (fun c25 hF => ?_) (fun c25 hF => ?_)
  · refine kg_ifF hk_48 rfl (jc_F1 c25) rfl ?_
    refine kg_push (x := 0) hk_48 rfl (by decide) rfl ?_
    have hF := Option.some.inj hF
    subst hF
    exact kg_iret hk_48 rfl (Or.inr rfl) rfl
  · refine kg_ifT hk_48 rfl (jc_T1 c25) ?_
    refine kg_aload hk_48 rfl rfl rfl ?_
    refine wf_gd hF (fun g26 hF => ?_)
    refine kg_get (v := .ref (24 + 1)) hk_48 rfl wk_17_1 (by rw [beq_iff_eq.mp g26]; rfl) rfl ?_
    refine kg_push (x := 12) hk_48 rfl (by decide) rfl ?_
    refine kg_iload hk_48 rfl rfl rfl ?_
    refine kg_aload hk_48 rfl rfl rfl ?_
    refine kg_get (v := .int (v24.2 17 3)) hk_48 rfl wk_17_3 rfl rfl ?_
    refine wf_bind hF (fun v27 hv27 hF => ?_)
    refine kg_call (as := [.ref (24 + 1), .int 12, .int x1, .int (v24.2 17 3)]) (rest := []) hk_48 rfl (Or.inr (Or.inr (Or.inr ⟨Or.inl rfl, _, _, rfl, wc_24⟩))) rfl rfl rfl (Nat.not_lt.mpr (Nat.le_of_ble_eq_true rfl)) (p_10_ok wc_24 hv27) (by decide) rfl ?_
    refine kg_aload hk_48 rfl rfl rfl ?_
    refine wf_gd hF (fun g28 hF => ?_)
    refine kg_get (v := .ref (24 + 1)) hk_48 rfl wk_17_1 (by rw [beq_iff_eq.mp g28]; rfl) rfl ?_
    refine kg_push (x := 1) hk_48 rfl (by decide) rfl ?_
    refine kg_iload hk_48 rfl rfl rfl ?_
    refine kg_aload hk_48 rfl rfl rfl ?_
    refine kg_get (v := .int (v27 17 3)) hk_48 rfl wk_17_3 rfl rfl ?_
    refine wf_bind hF (fun v29 hv29 hF => ?_)
    refine kg_call (as := [.ref (24 + 1), .int 1, .int x1, .int (v27 17 3)]) (rest := []) hk_48 rfl (Or.inr (Or.inr (Or.inr ⟨Or.inl rfl, _, _, rfl, wc_24⟩))) rfl rfl rfl (Nat.not_lt.mpr (Nat.le_of_ble_eq_true rfl)) (p_10_ok wc_24 hv29) (by decide) rfl ?_
    refine kg_aload hk_48 rfl rfl rfl ?_
    refine wf_gd hF (fun g30 hF => ?_)
    refine kg_get (v := .ref (24 + 1)) hk_48 rfl wk_17_1 (by rw [beq_iff_eq.mp g30]; rfl) rfl ?_
    refine kg_push (x := 14) hk_48 rfl (by decide) rfl ?_
    refine kg_push (x := 0) hk_48 rfl (by decide) rfl ?_
    refine kg_aload hk_48 rfl rfl rfl ?_
    refine kg_get (v := .int (v29 17 3)) hk_48 rfl wk_17_3 rfl rfl ?_
    refine wf_bind hF (fun v31 hv31 hF => ?_)
    refine kg_call (as := [.ref (24 + 1), .int 14, .int 0, .int (v29 17 3)]) (rest := []) hk_48 rfl (Or.inr (Or.inr (Or.inr ⟨Or.inl rfl, _, _, rfl, wc_24⟩))) rfl rfl rfl (Nat.not_lt.mpr (Nat.le_of_ble_eq_true rfl)) (p_10_ok wc_24 hv31) (by decide) rfl ?_
    refine kg_aload hk_48 rfl rfl rfl ?_
    refine wf_gd hF (fun g32 hF => ?_)
    refine kg_get (v := .ref (24 + 1)) hk_48 rfl wk_17_1 (by rw [beq_iff_eq.mp g32]; rfl) rfl ?_
    refine kg_push (x := 1) hk_48 rfl (by decide) rfl ?_
    refine kg_iload hk_48 rfl rfl rfl ?_
    refine kg_bin (z := (1 <<< (x1 &&& 31))) hk_48 rfl rfl rfl ?_
    refine wf_let hF (fun h33 hh33 hF => ?_)
    refine kg_put hk_48 rfl wk_24_5 rfl rfl hh33 rfl ?_
    refine kg_push (x := 1) hk_48 rfl (by decide) rfl ?_
    have hF := Option.some.inj hF
    subst hF
    exact kg_iret hk_48 rfl (Or.inr rfl) rfl
def q_48_52 (h : Hp) (x1 : Int32) (s0 : Int32) : Option (Int32 × Hp) :=
  if s0 = (-1) then
    (some (0, h))
  else
    ((p_36 h 45).bind fun v18 =>
    (p_38 v18.2).bind fun v19 =>
    if v19.1 = (-1) then
      (some (0, v19.2))
    else
      (w_gd ((v19.2 17 1) == 24) <|
      q_48_79 v19.2 x1 (if v18.1 = 0 then v19.1 else (-v19.1)) s0))
theorem q_48_52_ok {X : List Int32}   {h : Hp} {s0 : Int32} {x1 : Int32}  {r : Int32 × Hp} (hF : q_48_52 h x1 s0 = some r)  : ∀ (u2 : Value) (u3 : Value) (u4 : Value) (u5 : Value), k_Go X 3 48 (52, [.ref (17 + 1), .int x1, u2, u3, u4, u5], [.int s0]) h (.inl (some (.int r.1)), r.2) := by
  intro u2 u3 u4 u5
  unfold q_48_52 at hF
  refine kg_istore (L2 := [.ref (17 + 1), .int x1, u2, .int s0, u4, u5]) hk_48 rfl (Nat.le_of_ble_eq_true rfl) rfl rfl ?_
  refine kg_iload hk_48 rfl rfl rfl ?_
  refine kg_push (x := (-1)) hk_48 rfl (by decide) rfl ?_
  refine wf_if hF (fun c17 hF => ?_) (fun c17 hF => ?_)
  · refine kg_icF hk_48 rfl (jc_F1 c17) rfl ?_
    refine kg_push (x := 0) hk_48 rfl (by decide) rfl ?_
    have hF := Option.some.inj hF
    subst hF
    exact kg_iret hk_48 rfl (Or.inr rfl) rfl
  · refine kg_icT hk_48 rfl (jc_T1 c17) ?_
    refine kg_aload hk_48 rfl rfl rfl ?_
    refine kg_push (x := 45) hk_48 rfl (by decide) rfl ?_
    refine wf_bind hF (fun v18 hv18 hF => ?_)
    refine kg_call (as := [.ref (17 + 1), .int 45]) (rest := []) hk_48 rfl (Or.inr (Or.inr (Or.inr ⟨Or.inl rfl, _, _, rfl, wc_17⟩))) rfl rfl rfl (Nat.not_lt.mpr (Nat.le_of_ble_eq_true rfl)) (p_36_ok hv18) (by decide) rfl ?_
    refine kg_istore (L2 := [.ref (17 + 1), .int x1, u2, .int s0, .int v18.1, u5]) hk_48 rfl (Nat.le_of_ble_eq_true rfl) rfl rfl ?_
    refine kg_aload hk_48 rfl rfl rfl ?_
    refine wf_bind hF (fun v19 hv19 hF => ?_)
    refine kg_call (as := [.ref (17 + 1)]) (rest := []) hk_48 rfl (Or.inr (Or.inr (Or.inr ⟨Or.inl rfl, _, _, rfl, wc_17⟩))) rfl rfl rfl (Nat.not_lt.mpr (Nat.le_of_ble_eq_true rfl)) (p_38_ok hv19) (by decide) rfl ?_
    refine kg_istore (L2 := [.ref (17 + 1), .int x1, u2, .int s0, .int v18.1, .int v19.1]) hk_48 rfl (Nat.le_of_ble_eq_true rfl) rfl rfl ?_
    refine kg_iload hk_48 rfl rfl rfl ?_
    refine kg_push (x := (-1)) hk_48 rfl (by decide) rfl ?_
    refine wf_if hF (fun c20 hF => ?_) (fun c20 hF => ?_)
    · refine kg_icF hk_48 rfl (jc_F1 c20) rfl ?_
      refine kg_push (x := 0) hk_48 rfl (by decide) rfl ?_
      have hF := Option.some.inj hF
      subst hF
      exact kg_iret hk_48 rfl (Or.inr rfl) rfl
    · refine kg_icT hk_48 rfl (jc_T1 c20) ?_
      refine kg_aload hk_48 rfl rfl rfl ?_
      refine wf_gd hF (fun g21 hF => ?_)
      refine kg_get (v := .ref (24 + 1)) hk_48 rfl wk_17_1 (by rw [beq_iff_eq.mp g21]; rfl) rfl ?_
      refine kg_iload hk_48 rfl rfl rfl ?_
      refine kg_iload hk_48 rfl rfl rfl ?_
      refine kv_mid (p := 79) (L := [.ref (17 + 1), .int x1, u2, .int s0, .int v18.1, .int v19.1]) (S := [.int (if v18.1 = 0 then v19.1 else (-v19.1)), .int s0, .ref (24 + 1)]) ?_ (fun hK => ?_)
      · exact q_48_79_ok hF _ _ _ _
      · by_cases c22 : v18.1 = 0
        · have hK := kv_T c22 hK
          refine kg_ifT hk_48 rfl (jc_T0 c22) ?_
          refine kg_iload hk_48 rfl rfl rfl ?_
          exact hK
        · have hK := kv_F c22 hK
          refine kg_ifF hk_48 rfl (jc_F0 c22) rfl ?_
          refine kg_iload hk_48 rfl rfl rfl ?_
          refine kg_un (z := (-v19.1)) hk_48 rfl rfl rfl ?_
          refine kg_goto hk_48 rfl ?_
          exact hK
def p_48 (h : Hp) : Option (Int32 × Hp) :=
  (p_37 h).bind fun v1 =>
  if v1.1 = (-1) then
    (some (0, v1.2))
  else
    ((p_36 v1.2 61).bind fun v3 =>
    if v3.1 = 0 then
      (some (0, v3.2))
    else
      ((p_37 v3.2).bind fun v5 =>
      if v5.1 = (-1) then
        (some (0, v5.2))
      else
        (w_gd ((v5.2 17 1) == 24) <|
        (p_10 v5.2 24 1 v5.1 (v5.2 17 3)).bind fun v8 =>
        w_gd ((v8 17 1) == 24) <|
        w_let (w_up v8 24 7 (1 <<< (v5.1 &&& 31))) fun h10 =>
        (p_36 h10 60).bind fun v11 =>
        if v11.1 = 0 then
          ((p_36 v11.2 62).bind fun v13 =>
          if v13.1 = 0 then
            ((p_36 v13.2 61).bind fun v15 =>
            q_48_52 v15.2 v1.1 (if v15.1 = 0 then (-1) else 17))
          else
            (q_48_52 v13.2 v1.1 16))
        else
          (q_48_52 v11.2 v1.1 15))))
theorem p_48_ok {X : List Int32}  {h : Hp}   {r : Int32 × Hp} (hF : p_48 h = some r) : k_Ev X 3 48 [.ref (17 + 1)] h (.inl (some (.int r.1)), r.2) := by
  refine k_of hk_48 ?_
  show k_Go X 3 48 (0, [.ref (17 + 1), (.retAddr 0), (.retAddr 0), (.retAddr 0), (.retAddr 0), (.retAddr 0)], []) h _
  unfold p_48 at hF
  refine kg_aload hk_48 rfl rfl rfl ?_
  refine wf_bind hF (fun v1 hv1 hF => ?_)
  refine kg_call (as := [.ref (17 + 1)]) (rest := []) hk_48 rfl (Or.inr (Or.inr (Or.inr ⟨Or.inl rfl, _, _, rfl, wc_17⟩))) rfl rfl rfl (Nat.not_lt.mpr (Nat.le_of_ble_eq_true rfl)) (p_37_ok hv1) (by decide) rfl ?_
  refine kg_istore (L2 := [.ref (17 + 1), .int v1.1, (.retAddr 0), (.retAddr 0), (.retAddr 0), (.retAddr 0)]) hk_48 rfl (Nat.le_of_ble_eq_true rfl) rfl rfl ?_
  refine kg_iload hk_48 rfl rfl rfl ?_
  refine kg_push (x := (-1)) hk_48 rfl (by decide) rfl ?_
  refine wf_if hF (fun c2 hF => ?_) (fun c2 hF => ?_)
  · refine kg_icT hk_48 rfl (jc_T0 c2) ?_
    refine kg_push (x := 0) hk_48 rfl (by decide) rfl ?_
    have hF := Option.some.inj hF
    subst hF
    exact kg_iret hk_48 rfl (Or.inr rfl) rfl
  · refine kg_icF hk_48 rfl (jc_F0 c2) rfl ?_
    refine kg_aload hk_48 rfl rfl rfl ?_
    refine kg_push (x := 61) hk_48 rfl (by decide) rfl ?_
    refine wf_bind hF (fun v3 hv3 hF => ?_)
    refine kg_call (as := [.ref (17 + 1), .int 61]) (rest := []) hk_48 rfl (Or.inr (Or.inr (Or.inr ⟨Or.inl rfl, _, _, rfl, wc_17⟩))) rfl rfl rfl (Nat.not_lt.mpr (Nat.le_of_ble_eq_true rfl)) (p_36_ok hv3) (by decide) rfl ?_
    refine wf_if hF (fun c4 hF => ?_) (fun c4 hF => ?_)
    · refine kg_ifF hk_48 rfl (jc_F1 c4) rfl ?_
      refine kg_push (x := 0) hk_48 rfl (by decide) rfl ?_
      have hF := Option.some.inj hF
      subst hF
      exact kg_iret hk_48 rfl (Or.inr rfl) rfl
    · refine kg_ifT hk_48 rfl (jc_T1 c4) ?_
      refine kg_aload hk_48 rfl rfl rfl ?_
      refine wf_bind hF (fun v5 hv5 hF => ?_)
      refine kg_call (as := [.ref (17 + 1)]) (rest := []) hk_48 rfl (Or.inr (Or.inr (Or.inr ⟨Or.inl rfl, _, _, rfl, wc_17⟩))) rfl rfl rfl (Nat.not_lt.mpr (Nat.le_of_ble_eq_true rfl)) (p_37_ok hv5) (by decide) rfl ?_
      refine kg_istore (L2 := [.ref (17 + 1), .int v1.1, .int v5.1, (.retAddr 0), (.retAddr 0), (.retAddr 0)]) hk_48 rfl (Nat.le_of_ble_eq_true rfl) rfl rfl ?_
      refine kg_iload hk_48 rfl rfl rfl ?_
      refine kg_push (x := (-1)) hk_48 rfl (by decide) rfl ?_
      refine wf_if hF (fun c6 hF => ?_) (fun c6 hF => ?_)
      · refine kg_icF hk_48 rfl (jc_F1 c6) rfl ?_
        refine kg_push (x := 0) hk_48 rfl (by decide) rfl ?_
        have hF := Option.some.inj hF
        subst hF
        exact kg_iret hk_48 rfl (Or.inr rfl) rfl
      · refine kg_icT hk_48 rfl (jc_T1 c6) ?_
        refine kg_aload hk_48 rfl rfl rfl ?_
        refine wf_gd hF (fun g7 hF => ?_)
        refine kg_get (v := .ref (24 + 1)) hk_48 rfl wk_17_1 (by rw [beq_iff_eq.mp g7]; rfl) rfl ?_
        refine kg_push (x := 1) hk_48 rfl (by decide) rfl ?_
        refine kg_iload hk_48 rfl rfl rfl ?_
        refine kg_aload hk_48 rfl rfl rfl ?_
        refine kg_get (v := .int (v5.2 17 3)) hk_48 rfl wk_17_3 rfl rfl ?_
        refine wf_bind hF (fun v8 hv8 hF => ?_)
        refine kg_call (as := [.ref (24 + 1), .int 1, .int v5.1, .int (v5.2 17 3)]) (rest := []) hk_48 rfl (Or.inr (Or.inr (Or.inr ⟨Or.inl rfl, _, _, rfl, wc_24⟩))) rfl rfl rfl (Nat.not_lt.mpr (Nat.le_of_ble_eq_true rfl)) (p_10_ok wc_24 hv8) (by decide) rfl ?_
        refine kg_aload hk_48 rfl rfl rfl ?_
        refine wf_gd hF (fun g9 hF => ?_)
        refine kg_get (v := .ref (24 + 1)) hk_48 rfl wk_17_1 (by rw [beq_iff_eq.mp g9]; rfl) rfl ?_
        refine kg_push (x := 1) hk_48 rfl (by decide) rfl ?_
        refine kg_iload hk_48 rfl rfl rfl ?_
        refine kg_bin (z := (1 <<< (v5.1 &&& 31))) hk_48 rfl rfl rfl ?_
        refine wf_let hF (fun h10 hh10 hF => ?_)
        refine kg_put hk_48 rfl wk_24_7 rfl rfl hh10 rfl ?_
        refine kg_aload hk_48 rfl rfl rfl ?_
        refine kg_push (x := 60) hk_48 rfl (by decide) rfl ?_
        refine wf_bind hF (fun v11 hv11 hF => ?_)
        refine kg_call (as := [.ref (17 + 1), .int 60]) (rest := []) hk_48 rfl (Or.inr (Or.inr (Or.inr ⟨Or.inl rfl, _, _, rfl, wc_17⟩))) rfl rfl rfl (Nat.not_lt.mpr (Nat.le_of_ble_eq_true rfl)) (p_36_ok hv11) (by decide) rfl ?_
        refine wf_if hF (fun c12 hF => ?_) (fun c12 hF => ?_)
        · refine kg_ifT hk_48 rfl (jc_T0 c12) ?_
          refine kg_aload hk_48 rfl rfl rfl ?_
          refine kg_push (x := 62) hk_48 rfl (by decide) rfl ?_
          refine wf_bind hF (fun v13 hv13 hF => ?_)
          refine kg_call (as := [.ref (17 + 1), .int 62]) (rest := []) hk_48 rfl (Or.inr (Or.inr (Or.inr ⟨Or.inl rfl, _, _, rfl, wc_17⟩))) rfl rfl rfl (Nat.not_lt.mpr (Nat.le_of_ble_eq_true rfl)) (p_36_ok hv13) (by decide) rfl ?_
          refine wf_if hF (fun c14 hF => ?_) (fun c14 hF => ?_)
          · refine kg_ifT hk_48 rfl (jc_T0 c14) ?_
            refine kg_aload hk_48 rfl rfl rfl ?_
            refine kg_push (x := 61) hk_48 rfl (by decide) rfl ?_
            refine wf_bind hF (fun v15 hv15 hF => ?_)
            refine kg_call (as := [.ref (17 + 1), .int 61]) (rest := []) hk_48 rfl (Or.inr (Or.inr (Or.inr ⟨Or.inl rfl, _, _, rfl, wc_17⟩))) rfl rfl rfl (Nat.not_lt.mpr (Nat.le_of_ble_eq_true rfl)) (p_36_ok hv15) (by decide) rfl ?_
            refine kv_mid (p := 52) (L := [.ref (17 + 1), .int v1.1, .int v5.1, (.retAddr 0), (.retAddr 0), (.retAddr 0)]) (S := [.int (if v15.1 = 0 then (-1) else 17)]) ?_ (fun hK => ?_)
            · exact q_48_52_ok hF _ _ _ _
            · by_cases c16 : v15.1 = 0
              · have hK := kv_T c16 hK
                refine kg_ifT hk_48 rfl (jc_T0 c16) ?_
                refine kg_push (x := (-1)) hk_48 rfl (by decide) rfl ?_
                exact hK
              · have hK := kv_F c16 hK
                refine kg_ifF hk_48 rfl (jc_F0 c16) rfl ?_
                refine kg_push (x := 17) hk_48 rfl (by decide) rfl ?_
                refine kg_goto hk_48 rfl ?_
                exact hK
          · refine kg_ifF hk_48 rfl (jc_F0 c14) rfl ?_
            refine kg_push (x := 16) hk_48 rfl (by decide) rfl ?_
            refine kg_goto hk_48 rfl ?_
            exact q_48_52_ok hF _ _ _ _
        · refine kg_ifF hk_48 rfl (jc_F0 c12) rfl ?_
          refine kg_push (x := 15) hk_48 rfl (by decide) rfl ?_
          refine kg_goto hk_48 rfl ?_
          exact q_48_52_ok hF _ _ _ _
