/-! ===== the methods as functions over the flat heap, and that the interpreter does what they say (printed by wip/whole/dec.py) ===== -/
-- NotebookWeir$Machine.handOver(LNotebookWeir$Code;LNotebookWeir$Values;)V
theorem hk_17 : jP[17]? = some (jc_17, 4, [], []) := by rfl
def l_17_4 (q1 : Nat) (q2 : Nat) (x3 : Int32) (h : Hp) : Option ((Int32 × Hp) ⊕ Hp) :=
  if x3 < 26 then
    (if (v_126 ((h q1 5) ||| (h q1 6)) x3) = 0 then
      (some (.inl ((x3 + 1), h)))
    else
      ((p_71 h q2 x3 29 x3).bind fun vz4 =>
      some (.inl ((x3 + 1), vz4))))
  else
    (some (.inr h))
theorem l_17_4_st {X : List Int32} {o : kO}  {h : Hp} {q1 : Nat} {q2 : Nat} {x3 : Int32} (t1 : w_ob q1 1) (t2 : w_ob q2 8) {r : (Int32 × Hp) ⊕ Hp} (hF : l_17_4 q1 q2 x3 h = some r) (hK : ∀ s' : Int32 × Hp, r = .inl s' → k_Go X 1 17 (4, [.ref (28 + 1), .ref (q1 + 1), .ref (q2 + 1), .int (s'.1)], []) s'.2 o) (hX0 : ∀ e : Hp, r = .inr e → ∀ (u1 : Value) (u3 : Value), k_Go X 1 17 (23, [.ref (28 + 1), u1, .ref (q2 + 1), u3], []) e o) : k_Go X 1 17 (4, [.ref (28 + 1), .ref (q1 + 1), .ref (q2 + 1), .int x3], []) h o := by
  refine kg_iload hk_17 rfl rfl rfl ?_
  refine kg_push (x := 26) hk_17 rfl (by decide) rfl ?_
  refine wf_if hF (fun cz2 hF => ?_) (fun cz2 hF => ?_)
  · refine kg_icF hk_17 rfl (jc_F3 cz2) rfl ?_
    refine kg_aload hk_17 rfl rfl rfl ?_
    refine kg_get (v := .int (h q1 5)) hk_17 rfl (wf_1_5 t1) rfl rfl ?_
    refine kg_aload hk_17 rfl rfl rfl ?_
    refine kg_get (v := .int (h q1 6)) hk_17 rfl (wf_1_6 t1) rfl rfl ?_
    refine kg_bin (z := ((h q1 5) ||| (h q1 6))) hk_17 rfl rfl rfl ?_
    refine kg_iload hk_17 rfl rfl rfl ?_
    refine kg_call (as := [.int ((h q1 5) ||| (h q1 6)), .int x3]) (rest := []) hk_17 rfl (Or.inr (Or.inl rfl)) rfl rfl rfl (Nat.not_lt.mpr (Nat.le_of_ble_eq_true rfl)) (v_126_ok) (by decide) rfl ?_
    refine wf_if hF (fun cz3 hF => ?_) (fun cz3 hF => ?_)
    · refine kg_ifT hk_17 rfl (jc_T0 cz3) ?_
      refine kg_iinc (y := (x3 + 1)) (L2 := [.ref (28 + 1), .ref (q1 + 1), .ref (q2 + 1), .int (x3 + 1)]) hk_17 rfl rfl rfl rfl rfl ?_
      refine kg_goto hk_17 rfl ?_
      have hF := Option.some.inj hF
      exact hK _ hF.symm
    · refine kg_ifF hk_17 rfl (jc_F0 cz3) rfl ?_
      refine kg_aload hk_17 rfl rfl rfl ?_
      refine kg_iload hk_17 rfl rfl rfl ?_
      refine kg_aload hk_17 rfl rfl rfl ?_
      refine kg_get (v := .ref (29 + 1)) hk_17 rfl wk_28_0 rfl rfl ?_
      refine kg_iload hk_17 rfl rfl rfl ?_
      refine wf_bind hF (fun vz4 hvz4 hF => ?_)
      refine kg_call (as := [.ref (q2 + 1), .int x3, .ref (29 + 1), .int x3]) (rest := []) hk_17 rfl (Or.inr (Or.inr (Or.inr ⟨Or.inl rfl, _, _, rfl, t2⟩))) rfl rfl rfl (Nat.not_lt.mpr (Nat.le_of_ble_eq_true rfl)) (p_71_ok t2 wc_29 hvz4) (by decide) rfl ?_
      refine kg_iinc (y := (x3 + 1)) (L2 := [.ref (28 + 1), .ref (q1 + 1), .ref (q2 + 1), .int (x3 + 1)]) hk_17 rfl rfl rfl rfl rfl ?_
      refine kg_goto hk_17 rfl ?_
      have hF := Option.some.inj hF
      exact hK _ hF.symm
  · refine kg_icT hk_17 rfl (jc_T3 cz2) ?_
    have hF := Option.some.inj hF
    exact hX0 _ hF.symm _ _
theorem l_17_4_ok {X : List Int32} {o : kO}  {q1 : Nat} {q2 : Nat} (t1 : w_ob q1 1) (t2 : w_ob q2 8) {n : Nat} {s : Int32 × Hp} {e : Hp} (hF : w_lp (fun (s : Int32 × Hp) => l_17_4 q1 q2 s.1 s.2) n s = some e) (hX0 : ∀ (u1 : Value) (u3 : Value), k_Go X 1 17 (23, [.ref (28 + 1), u1, .ref (q2 + 1), u3], []) e o) : k_Go X 1 17 (4, [.ref (28 + 1), .ref (q1 + 1), .ref (q2 + 1), .int s.1], []) s.2 o := by
  exact w_lp_ok (P := (fun (s : Int32 × Hp) => k_Go X 1 17 (4, [.ref (28 + 1), .ref (q1 + 1), .ref (q2 + 1), .int s.1], []) s.2 o)) (Q := (fun (e : Hp) => (∀ (u1 : Value) (u3 : Value), k_Go X 1 17 (23, [.ref (28 + 1), u1, .ref (q2 + 1), u3], []) e o))) (fun s r hF hK hX => l_17_4_st t1 t2 hF hK (fun x hx => (hX _ hx))) n s e hF hX0
def p_17 (h : Hp) (q1 : Nat) (q2 : Nat) : Option (Hp) :=
  (p_67 h q2).bind fun vz1 =>
  (w_lp (fun (s : Int32 × Hp) => l_17_4 q1 q2 s.1 s.2) w_N (0, vz1)).bind fun ez5 =>
  (p_71 ez5 q2 26 29 26).bind fun vz6 =>
  some vz6
theorem p_17_ok {X : List Int32}  {h : Hp} {q1 : Nat} {q2 : Nat} (t1 : w_ob q1 1) (t2 : w_ob q2 8) {r : Hp} (hF : p_17 h q1 q2 = some r) : k_Ev X 1 17 [.ref (28 + 1), .ref (q1 + 1), .ref (q2 + 1)] h (.inl none, r) := by
  refine k_of hk_17 ?_
  show k_Go X 1 17 (0, [.ref (28 + 1), .ref (q1 + 1), .ref (q2 + 1), (.retAddr 0)], []) h _
  unfold p_17 at hF
  refine kg_aload hk_17 rfl rfl rfl ?_
  refine wf_bind hF (fun vz1 hvz1 hF => ?_)
  refine kg_call (as := [.ref (q2 + 1)]) (rest := []) hk_17 rfl (Or.inr (Or.inr (Or.inr ⟨Or.inl rfl, _, _, rfl, t2⟩))) rfl rfl rfl (Nat.not_lt.mpr (Nat.le_of_ble_eq_true rfl)) (p_67_ok t2 hvz1) (by decide) rfl ?_
  refine kg_push (x := 0) hk_17 rfl (by decide) rfl ?_
  refine kg_istore (L2 := [.ref (28 + 1), .ref (q1 + 1), .ref (q2 + 1), .int 0]) hk_17 rfl (Nat.le_of_ble_eq_true rfl) rfl rfl ?_
  refine wf_bind hF (fun ez5 hez5 hF => ?_)
  refine l_17_4_ok t1 t2 hez5 ?_
  intro u1 u3
  refine kg_aload hk_17 rfl rfl rfl ?_
  refine kg_push (x := 26) hk_17 rfl (by decide) rfl ?_
  refine kg_aload hk_17 rfl rfl rfl ?_
  refine kg_get (v := .ref (29 + 1)) hk_17 rfl wk_28_0 rfl rfl ?_
  refine kg_push (x := 26) hk_17 rfl (by decide) rfl ?_
  refine wf_bind hF (fun vz6 hvz6 hF => ?_)
  refine kg_call (as := [.ref (q2 + 1), .int 26, .ref (29 + 1), .int 26]) (rest := []) hk_17 rfl (Or.inr (Or.inr (Or.inr ⟨Or.inl rfl, _, _, rfl, t2⟩))) rfl rfl rfl (Nat.not_lt.mpr (Nat.le_of_ble_eq_true rfl)) (p_71_ok t2 wc_29 hvz6) (by decide) rfl ?_
  have hF := Option.some.inj hF
  subst hF
  exact kg_ret hk_17 rfl rfl
-- NotebookWeir$Text.at(I)I
theorem hk_58 : jP[58]? = some (jc_58, 2, [], []) := by rfl
def v_58 (h : Hp) (q0 : Nat) (x1 : Int32) : Int32 := (if x1 < 0 then (-1) else (if x1 < (h q0 1) then (h (q0 + 1) x1.toNatClampNeg) else (-1) : Int32) : Int32)
def g_58 (h : Hp) (q0 : Nat) (x1 : Int32) : Bool := (if x1 < 0 then true else (if x1 < (h q0 1) then w_ix x1 40 else true))
theorem v_58_ok {X : List Int32} {h : Hp} {q0 : Nat} {x1 : Int32} (t0 : w_ob q0 7) (hg : g_58 h q0 x1 = true) : k_Ev X 0 58 [.ref (q0 + 1), .int x1] h (.inl (some (.int (v_58 h q0 x1))), h) := by
  refine k_of hk_58 ?_
  show k_Go X 0 58 (0, [.ref (q0 + 1), .int x1], []) h _
  generalize hv : v_58 h q0 x1 = z
  unfold v_58 at hv
  unfold g_58 at hg
  have gz4 := hg
  refine kg_iload hk_58 rfl rfl rfl ?_
  refine kv_mid (p := 12) (L := [.ref (q0 + 1), .int x1]) (S := [.int (if x1 < 0 then (-1) else (if x1 < (h q0 1) then (h (q0 + 1) x1.toNatClampNeg) else (-1) : Int32) : Int32)]) ?_ (fun hK => ?_)
  · exact kg_iret hk_58 rfl (Or.inl rfl) (by rw [hv])
  · have hg := gz4
    by_cases cz1 : x1 < 0
    · have hK := kv_T cz1 hK
      refine kg_ifT hk_58 rfl (jc_T2 cz1) ?_
      refine kg_push (x := (-1)) hk_58 rfl (by decide) rfl ?_
      exact hK
    · have hg := wv_F cz1 hg
      have hK := kv_F cz1 hK
      refine kg_ifF hk_58 rfl (jc_F2 cz1) rfl ?_
      refine kg_iload hk_58 rfl rfl rfl ?_
      refine kg_aload hk_58 rfl rfl rfl ?_
      refine kg_get (v := .int (h q0 1)) hk_58 rfl (wf_7_1 t0) rfl rfl ?_
      by_cases cz2 : x1 < (h q0 1)
      · have hg := wv_T cz2 hg
        have hK := kv_T cz2 hK
        have gz3 := hg
        refine kg_icF hk_58 rfl (jc_F3 cz2) rfl ?_
        refine kg_aload hk_58 rfl rfl rfl ?_
        refine kg_get (v := .ref ((q0 + 1) + 1)) hk_58 rfl (wf_7_0 t0) rfl rfl ?_
        refine kg_iload hk_58 rfl rfl rfl ?_
        refine kg_ald (y := (h (q0 + 1) x1.toNatClampNeg)) hk_58 rfl (wo_7_0 t0) gz3 rfl rfl ?_
        refine kg_goto hk_58 rfl ?_
        exact hK
      · have hK := kv_F cz2 hK
        refine kg_icT hk_58 rfl (jc_T3 cz2) ?_
        refine kg_push (x := (-1)) hk_58 rfl (by decide) rfl ?_
        exact hK
-- NotebookWeir$Reader.skip(C)Z
theorem hk_36 : jP[36]? = some (jc_36, 2, [], []) := by rfl
def p_36 (h : Hp) (x1 : Int32) : Option (Int32 × Hp) :=
  w_gd (w_tag (h 17 0).toNatClampNeg == 7 && 7 != 999) <|
  w_gd (g_58 h ((h 17 0).toNatClampNeg) (h 17 2)) <|
  if (v_58 h ((h 17 0).toNatClampNeg) (h 17 2)) = x1 then
    (w_let (w_up h 17 2 ((h 17 2) + 1)) fun hz4 =>
    some (1, hz4))
  else
    (some (0, h))
theorem p_36_ok {X : List Int32}  {h : Hp} {x1 : Int32}  {r : Int32 × Hp} (hF : p_36 h x1 = some r) : k_Ev X 1 36 [.ref (17 + 1), .int x1] h (.inl (some (.int r.1)), r.2) := by
  refine k_of hk_36 ?_
  show k_Go X 1 36 (0, [.ref (17 + 1), .int x1], []) h _
  unfold p_36 at hF
  refine kg_aload hk_36 rfl rfl rfl ?_
  refine wf_gd hF (fun gz1 hF => ?_)
  refine kg_get (v := .ref (((h 17 0).toNatClampNeg) + 1)) hk_36 rfl wk_17_0 rfl rfl ?_
  refine kg_aload hk_36 rfl rfl rfl ?_
  refine kg_get (v := .int (h 17 2)) hk_36 rfl wk_17_2 rfl rfl ?_
  refine wf_gd hF (fun gz2 hF => ?_)
  refine kg_call (as := [.ref (((h 17 0).toNatClampNeg) + 1), .int (h 17 2)]) (rest := []) hk_36 rfl (Or.inr (Or.inr (Or.inr ⟨Or.inl rfl, _, _, rfl, (w_tagE gz1)⟩))) rfl rfl rfl (Nat.not_lt.mpr (Nat.le_of_ble_eq_true rfl)) (v_58_ok (w_tagE gz1) gz2) (by decide) rfl ?_
  refine kg_iload hk_36 rfl rfl rfl ?_
  refine wf_if hF (fun cz3 hF => ?_) (fun cz3 hF => ?_)
  · refine kg_icT hk_36 rfl (jc_T0 cz3) ?_
    refine kg_aload hk_36 rfl rfl rfl ?_
    refine kg_dup hk_36 rfl rfl rfl ?_
    refine kg_get (v := .int (h 17 2)) hk_36 rfl wk_17_2 rfl rfl ?_
    refine kg_push (x := 1) hk_36 rfl (by decide) rfl ?_
    refine kg_bin (z := ((h 17 2) + 1)) hk_36 rfl rfl rfl ?_
    refine wf_let hF (fun hz4 hhz4 hF => ?_)
    refine kg_put hk_36 rfl wk_17_2 rfl rfl hhz4 rfl ?_
    refine kg_push (x := 1) hk_36 rfl (by decide) rfl ?_
    have hF := Option.some.inj hF
    subst hF
    exact kg_iret hk_36 rfl (Or.inr rfl) rfl
  · refine kg_icF hk_36 rfl (jc_F0 cz3) rfl ?_
    refine kg_push (x := 0) hk_36 rfl (by decide) rfl ?_
    have hF := Option.some.inj hF
    subst hF
    exact kg_iret hk_36 rfl (Or.inr rfl) rfl
-- NotebookWeir.isName(I)Z
theorem hk_123 : jP[123]? = some (jc_123, 1, [], []) := by rfl
def v_123 (x0 : Int32) : Int32 := (if x0 < 97 then 0 else (if x0 ≤ 122 then 1 else 0 : Int32) : Int32)
theorem v_123_bo (x0 : Int32) : w_bo (v_123 x0) = true := by
  unfold v_123
  exact (w_boi rfl (w_boi rfl rfl))
theorem v_123_ok {X : List Int32} {h : Hp} {x0 : Int32}  : k_Ev X 0 123 [.int x0] h (.inl (some (.int (v_123 x0))), h) := by
  refine k_of hk_123 ?_
  show k_Go X 0 123 (0, [.int x0], []) h _
  generalize hv : v_123 x0 = z
  unfold v_123 at hv
  refine kg_iload hk_123 rfl rfl rfl ?_
  refine kg_push (x := 97) hk_123 rfl (by decide) rfl ?_
  refine kv_mid (p := 9) (L := [.int x0]) (S := [.int (if x0 < 97 then 0 else (if x0 ≤ 122 then 1 else 0 : Int32) : Int32)]) ?_ (fun hK => ?_)
  · exact kg_iret hk_123 rfl (Or.inr (w_boi rfl (w_boi rfl rfl))) (by rw [hv])
  · by_cases cz1 : x0 < 97
    · have hK := kv_T cz1 hK
      refine kg_icT hk_123 rfl (jc_T2 cz1) ?_
      refine kg_push (x := 0) hk_123 rfl (by decide) rfl ?_
      exact hK
    · have hK := kv_F cz1 hK
      refine kg_icF hk_123 rfl (jc_F2 cz1) rfl ?_
      refine kg_iload hk_123 rfl rfl rfl ?_
      refine kg_push (x := 122) hk_123 rfl (by decide) rfl ?_
      by_cases cz2 : x0 ≤ 122
      · have hK := kv_T cz2 hK
        refine kg_icF hk_123 rfl (jc_F4 cz2) rfl ?_
        refine kg_push (x := 1) hk_123 rfl (by decide) rfl ?_
        refine kg_goto hk_123 rfl ?_
        exact hK
      · have hK := kv_F cz2 hK
        refine kg_icT hk_123 rfl (jc_T4 cz2) ?_
        refine kg_push (x := 0) hk_123 rfl (by decide) rfl ?_
        exact hK
-- NotebookWeir$Reader.readName()I
theorem hk_37 : jP[37]? = some (jc_37, 2, [], []) := by rfl
def p_37 (h : Hp) : Option (Int32 × Hp) :=
  w_gd (w_tag (h 17 0).toNatClampNeg == 7 && 7 != 999) <|
  w_gd (g_58 h ((h 17 0).toNatClampNeg) (h 17 2)) <|
  if (v_123 (v_58 h ((h 17 0).toNatClampNeg) (h 17 2))) = 0 then
    (some ((-1), h))
  else
    (w_let (w_up h 17 2 ((h 17 2) + 1)) fun hz4 =>
    some (((v_58 h ((h 17 0).toNatClampNeg) (h 17 2)) - 97), hz4))
theorem p_37_ok {X : List Int32}  {h : Hp}   {r : Int32 × Hp} (hF : p_37 h = some r) : k_Ev X 1 37 [.ref (17 + 1)] h (.inl (some (.int r.1)), r.2) := by
  refine k_of hk_37 ?_
  show k_Go X 1 37 (0, [.ref (17 + 1), (.retAddr 0)], []) h _
  unfold p_37 at hF
  refine kg_aload hk_37 rfl rfl rfl ?_
  refine wf_gd hF (fun gz1 hF => ?_)
  refine kg_get (v := .ref (((h 17 0).toNatClampNeg) + 1)) hk_37 rfl wk_17_0 rfl rfl ?_
  refine kg_aload hk_37 rfl rfl rfl ?_
  refine kg_get (v := .int (h 17 2)) hk_37 rfl wk_17_2 rfl rfl ?_
  refine wf_gd hF (fun gz2 hF => ?_)
  refine kg_call (as := [.ref (((h 17 0).toNatClampNeg) + 1), .int (h 17 2)]) (rest := []) hk_37 rfl (Or.inr (Or.inr (Or.inr ⟨Or.inl rfl, _, _, rfl, (w_tagE gz1)⟩))) rfl rfl rfl (Nat.not_lt.mpr (Nat.le_of_ble_eq_true rfl)) (v_58_ok (w_tagE gz1) gz2) (by decide) rfl ?_
  refine kg_istore (L2 := [.ref (17 + 1), .int (v_58 h ((h 17 0).toNatClampNeg) (h 17 2))]) hk_37 rfl (Nat.le_of_ble_eq_true rfl) rfl rfl ?_
  refine kg_iload hk_37 rfl rfl rfl ?_
  refine kg_call (as := [.int (v_58 h ((h 17 0).toNatClampNeg) (h 17 2))]) (rest := []) hk_37 rfl (Or.inr (Or.inl rfl)) rfl rfl rfl (Nat.not_lt.mpr (Nat.le_of_ble_eq_true rfl)) (v_123_ok) (by decide) rfl ?_
  refine wf_if hF (fun cz3 hF => ?_) (fun cz3 hF => ?_)
  · refine kg_ifF hk_37 rfl (jc_F1 cz3) rfl ?_
    refine kg_push (x := (-1)) hk_37 rfl (by decide) rfl ?_
    have hF := Option.some.inj hF
    subst hF
    exact kg_iret hk_37 rfl (Or.inl rfl) rfl
  · refine kg_ifT hk_37 rfl (jc_T1 cz3) ?_
    refine kg_aload hk_37 rfl rfl rfl ?_
    refine kg_dup hk_37 rfl rfl rfl ?_
    refine kg_get (v := .int (h 17 2)) hk_37 rfl wk_17_2 rfl rfl ?_
    refine kg_push (x := 1) hk_37 rfl (by decide) rfl ?_
    refine kg_bin (z := ((h 17 2) + 1)) hk_37 rfl rfl rfl ?_
    refine wf_let hF (fun hz4 hhz4 hF => ?_)
    refine kg_put hk_37 rfl wk_17_2 rfl rfl hhz4 rfl ?_
    refine kg_iload hk_37 rfl rfl rfl ?_
    refine kg_push (x := 97) hk_37 rfl (by decide) rfl ?_
    refine kg_bin (z := ((v_58 h ((h 17 0).toNatClampNeg) (h 17 2)) - 97)) hk_37 rfl rfl rfl ?_
    have hF := Option.some.inj hF
    subst hF
    exact kg_iret hk_37 rfl (Or.inl rfl) rfl
-- NotebookWeir$Reader.noteChange(I)V
theorem hk_41 : jP[41]? = some (jc_41, 2, [], []) := by rfl
def p_41 (h : Hp) (x1 : Int32) : Option (Hp) :=
  w_gd ((h 17 1) == 24) <|
  if (v_126 (h 24 5) x1) = 0 then
    (w_gd ((h 17 1) == 24) <|
    w_let (w_up h 24 6 ((h 24 6) ||| (1 <<< (x1 &&& 31)))) fun hz4 =>
    w_gd ((hz4 17 1) == 24) <|
    w_let (w_up hz4 24 7 ((hz4 24 7) ||| (1 <<< (x1 &&& 31)))) fun hz6 =>
    some hz6)
  else
    (some h)
theorem p_41_ok {X : List Int32}  {h : Hp} {x1 : Int32}  {r : Hp} (hF : p_41 h x1 = some r) : k_Ev X 1 41 [.ref (17 + 1), .int x1] h (.inl none, r) := by
  refine k_of hk_41 ?_
  show k_Go X 1 41 (0, [.ref (17 + 1), .int x1], []) h _
  unfold p_41 at hF
  refine kg_aload hk_41 rfl rfl rfl ?_
  refine wf_gd hF (fun gz1 hF => ?_)
  refine kg_get (v := .ref (24 + 1)) hk_41 rfl wk_17_1 (by rw [beq_iff_eq.mp gz1]; rfl) rfl ?_
  refine kg_get (v := .int (h 24 5)) hk_41 rfl wk_24_5 rfl rfl ?_
  refine kg_iload hk_41 rfl rfl rfl ?_
  refine kg_call (as := [.int (h 24 5), .int x1]) (rest := []) hk_41 rfl (Or.inr (Or.inl rfl)) rfl rfl rfl (Nat.not_lt.mpr (Nat.le_of_ble_eq_true rfl)) (v_126_ok) (by decide) rfl ?_
  refine wf_if hF (fun cz2 hF => ?_) (fun cz2 hF => ?_)
  · refine kg_ifF hk_41 rfl (jc_F1 cz2) rfl ?_
    refine kg_aload hk_41 rfl rfl rfl ?_
    refine wf_gd hF (fun gz3 hF => ?_)
    refine kg_get (v := .ref (24 + 1)) hk_41 rfl wk_17_1 (by rw [beq_iff_eq.mp gz3]; rfl) rfl ?_
    refine kg_dup hk_41 rfl rfl rfl ?_
    refine kg_get (v := .int (h 24 6)) hk_41 rfl wk_24_6 rfl rfl ?_
    refine kg_push (x := 1) hk_41 rfl (by decide) rfl ?_
    refine kg_iload hk_41 rfl rfl rfl ?_
    refine kg_bin (z := (1 <<< (x1 &&& 31))) hk_41 rfl rfl rfl ?_
    refine kg_bin (z := ((h 24 6) ||| (1 <<< (x1 &&& 31)))) hk_41 rfl rfl rfl ?_
    refine wf_let hF (fun hz4 hhz4 hF => ?_)
    refine kg_put hk_41 rfl wk_24_6 rfl rfl hhz4 rfl ?_
    refine kg_aload hk_41 rfl rfl rfl ?_
    refine wf_gd hF (fun gz5 hF => ?_)
    refine kg_get (v := .ref (24 + 1)) hk_41 rfl wk_17_1 (by rw [beq_iff_eq.mp gz5]; rfl) rfl ?_
    refine kg_dup hk_41 rfl rfl rfl ?_
    refine kg_get (v := .int (hz4 24 7)) hk_41 rfl wk_24_7 rfl rfl ?_
    refine kg_push (x := 1) hk_41 rfl (by decide) rfl ?_
    refine kg_iload hk_41 rfl rfl rfl ?_
    refine kg_bin (z := (1 <<< (x1 &&& 31))) hk_41 rfl rfl rfl ?_
    refine kg_bin (z := ((hz4 24 7) ||| (1 <<< (x1 &&& 31)))) hk_41 rfl rfl rfl ?_
    refine wf_let hF (fun hz6 hhz6 hF => ?_)
    refine kg_put hk_41 rfl wk_24_7 rfl rfl hhz6 rfl ?_
    have hF := Option.some.inj hF
    subst hF
    exact kg_ret hk_41 rfl rfl
  · refine kg_ifT hk_41 rfl (jc_T1 cz2) ?_
    have hF := Option.some.inj hF
    subst hF
    exact kg_ret hk_41 rfl rfl
-- NotebookWeir.isDigit(I)Z
theorem hk_124 : jP[124]? = some (jc_124, 1, [], []) := by rfl
def v_124 (x0 : Int32) : Int32 := (if x0 < 48 then 0 else (if x0 ≤ 57 then 1 else 0 : Int32) : Int32)
theorem v_124_bo (x0 : Int32) : w_bo (v_124 x0) = true := by
  unfold v_124
  exact (w_boi rfl (w_boi rfl rfl))
theorem v_124_ok {X : List Int32} {h : Hp} {x0 : Int32}  : k_Ev X 0 124 [.int x0] h (.inl (some (.int (v_124 x0))), h) := by
  refine k_of hk_124 ?_
  show k_Go X 0 124 (0, [.int x0], []) h _
  generalize hv : v_124 x0 = z
  unfold v_124 at hv
  refine kg_iload hk_124 rfl rfl rfl ?_
  refine kg_push (x := 48) hk_124 rfl (by decide) rfl ?_
  refine kv_mid (p := 9) (L := [.int x0]) (S := [.int (if x0 < 48 then 0 else (if x0 ≤ 57 then 1 else 0 : Int32) : Int32)]) ?_ (fun hK => ?_)
  · exact kg_iret hk_124 rfl (Or.inr (w_boi rfl (w_boi rfl rfl))) (by rw [hv])
  · by_cases cz1 : x0 < 48
    · have hK := kv_T cz1 hK
      refine kg_icT hk_124 rfl (jc_T2 cz1) ?_
      refine kg_push (x := 0) hk_124 rfl (by decide) rfl ?_
      exact hK
    · have hK := kv_F cz1 hK
      refine kg_icF hk_124 rfl (jc_F2 cz1) rfl ?_
      refine kg_iload hk_124 rfl rfl rfl ?_
      refine kg_push (x := 57) hk_124 rfl (by decide) rfl ?_
      by_cases cz2 : x0 ≤ 57
      · have hK := kv_T cz2 hK
        refine kg_icF hk_124 rfl (jc_F4 cz2) rfl ?_
        refine kg_push (x := 1) hk_124 rfl (by decide) rfl ?_
        refine kg_goto hk_124 rfl ?_
        exact hK
      · have hK := kv_F cz2 hK
        refine kg_icT hk_124 rfl (jc_T4 cz2) ?_
        refine kg_push (x := 0) hk_124 rfl (by decide) rfl ?_
        exact hK
-- NotebookWeir$Reader.readDigits()I
theorem hk_38 : jP[38]? = some (jc_38, 3, [], []) := by rfl
def l_38_4 (x1 : Int32) (x2 : Int32) (h : Hp) : Option ((Int32 × Int32 × Hp) ⊕ Int32 × Hp) :=
  if x2 < 6 then
    (w_gd (w_tag (h 17 0).toNatClampNeg == 7 && 7 != 999) <|
    w_gd (g_58 h ((h 17 0).toNatClampNeg) (h 17 2)) <|
    if (v_124 (v_58 h ((h 17 0).toNatClampNeg) (h 17 2))) = 0 then
      (some (.inr (x1, h)))
    else
      (w_gd (w_tag (h 17 0).toNatClampNeg == 7 && 7 != 999) <|
      w_gd (g_58 h ((h 17 0).toNatClampNeg) (h 17 2)) <|
      w_let (w_up h 17 2 ((h 17 2) + 1)) fun hz7 =>
      some (.inl (((((if x1 < 0 then 0 else x1 : Int32) * 10) + (v_58 h ((h 17 0).toNatClampNeg) (h 17 2))) - 48), (x2 + 1), hz7))))
  else
    (some (.inr (x1, h)))
theorem l_38_4_st {X : List Int32} {o : kO}  {h : Hp} {x1 : Int32} {x2 : Int32}  {r : (Int32 × Int32 × Hp) ⊕ Int32 × Hp} (hF : l_38_4 x1 x2 h = some r) (hK : ∀ s' : Int32 × Int32 × Hp, r = .inl s' → k_Go X 1 38 (4, [.ref (17 + 1), .int (s'.1), .int (s'.2.1)], []) s'.2.2 o) (hX0 : ∀ e : Int32 × Hp, r = .inr e → (.inl (some (.int e.1)), e.2) = o) : k_Go X 1 38 (4, [.ref (17 + 1), .int x1, .int x2], []) h o := by
  refine kg_iload hk_38 rfl rfl rfl ?_
  refine kg_push (x := 6) hk_38 rfl (by decide) rfl ?_
  refine wf_if hF (fun cz1 hF => ?_) (fun cz1 hF => ?_)
  · refine kg_icF hk_38 rfl (jc_F3 cz1) rfl ?_
    refine kg_aload hk_38 rfl rfl rfl ?_
    refine wf_gd hF (fun gz2 hF => ?_)
    refine kg_get (v := .ref (((h 17 0).toNatClampNeg) + 1)) hk_38 rfl wk_17_0 rfl rfl ?_
    refine kg_aload hk_38 rfl rfl rfl ?_
    refine kg_get (v := .int (h 17 2)) hk_38 rfl wk_17_2 rfl rfl ?_
    refine wf_gd hF (fun gz3 hF => ?_)
    refine kg_call (as := [.ref (((h 17 0).toNatClampNeg) + 1), .int (h 17 2)]) (rest := []) hk_38 rfl (Or.inr (Or.inr (Or.inr ⟨Or.inl rfl, _, _, rfl, (w_tagE gz2)⟩))) rfl rfl rfl (Nat.not_lt.mpr (Nat.le_of_ble_eq_true rfl)) (v_58_ok (w_tagE gz2) gz3) (by decide) rfl ?_
    refine kg_call (as := [.int (v_58 h ((h 17 0).toNatClampNeg) (h 17 2))]) (rest := []) hk_38 rfl (Or.inr (Or.inl rfl)) rfl rfl rfl (Nat.not_lt.mpr (Nat.le_of_ble_eq_true rfl)) (v_124_ok) (by decide) rfl ?_
    refine wf_if hF (fun cz4 hF => ?_) (fun cz4 hF => ?_)
    · refine kg_ifT hk_38 rfl (jc_T0 cz4) ?_
      refine kg_iload hk_38 rfl rfl rfl ?_
      have hF := Option.some.inj hF
      exact kg_iret hk_38 rfl (Or.inl rfl) (hX0 _ hF.symm)
    · refine kg_ifF hk_38 rfl (jc_F0 cz4) rfl ?_
      refine kg_iload hk_38 rfl rfl rfl ?_
      refine kg_push (x := 0) hk_38 rfl (by decide) rfl ?_
      refine kg_max hk_38 rfl (Nat.not_lt.mpr (Nat.le_of_ble_eq_true rfl)) rfl ?_
      refine kg_push (x := 10) hk_38 rfl (by decide) rfl ?_
      refine kg_bin (z := ((if x1 < 0 then 0 else x1 : Int32) * 10)) hk_38 rfl rfl rfl ?_
      refine kg_aload hk_38 rfl rfl rfl ?_
      refine wf_gd hF (fun gz5 hF => ?_)
      refine kg_get (v := .ref (((h 17 0).toNatClampNeg) + 1)) hk_38 rfl wk_17_0 rfl rfl ?_
      refine kg_aload hk_38 rfl rfl rfl ?_
      refine kg_get (v := .int (h 17 2)) hk_38 rfl wk_17_2 rfl rfl ?_
      refine wf_gd hF (fun gz6 hF => ?_)
      refine kg_call (as := [.ref (((h 17 0).toNatClampNeg) + 1), .int (h 17 2)]) (rest := [.int ((if x1 < 0 then 0 else x1 : Int32) * 10)]) hk_38 rfl (Or.inr (Or.inr (Or.inr ⟨Or.inl rfl, _, _, rfl, (w_tagE gz5)⟩))) rfl rfl rfl (Nat.not_lt.mpr (Nat.le_of_ble_eq_true rfl)) (v_58_ok (w_tagE gz5) gz6) (by decide) rfl ?_
      refine kg_bin (z := (((if x1 < 0 then 0 else x1 : Int32) * 10) + (v_58 h ((h 17 0).toNatClampNeg) (h 17 2)))) hk_38 rfl rfl rfl ?_
      refine kg_push (x := 48) hk_38 rfl (by decide) rfl ?_
      refine kg_bin (z := ((((if x1 < 0 then 0 else x1 : Int32) * 10) + (v_58 h ((h 17 0).toNatClampNeg) (h 17 2))) - 48)) hk_38 rfl rfl rfl ?_
      refine kg_istore (L2 := [.ref (17 + 1), .int ((((if x1 < 0 then 0 else x1 : Int32) * 10) + (v_58 h ((h 17 0).toNatClampNeg) (h 17 2))) - 48), .int x2]) hk_38 rfl (Nat.le_of_ble_eq_true rfl) rfl rfl ?_
      refine kg_aload hk_38 rfl rfl rfl ?_
      refine kg_dup hk_38 rfl rfl rfl ?_
      refine kg_get (v := .int (h 17 2)) hk_38 rfl wk_17_2 rfl rfl ?_
      refine kg_push (x := 1) hk_38 rfl (by decide) rfl ?_
      refine kg_bin (z := ((h 17 2) + 1)) hk_38 rfl rfl rfl ?_
      refine wf_let hF (fun hz7 hhz7 hF => ?_)
      refine kg_put hk_38 rfl wk_17_2 rfl rfl hhz7 rfl ?_
      refine kg_iinc (y := (x2 + 1)) (L2 := [.ref (17 + 1), .int ((((if x1 < 0 then 0 else x1 : Int32) * 10) + (v_58 h ((h 17 0).toNatClampNeg) (h 17 2))) - 48), .int (x2 + 1)]) hk_38 rfl rfl rfl rfl rfl ?_
      refine kg_goto hk_38 rfl ?_
      have hF := Option.some.inj hF
      exact hK _ hF.symm
  · refine kg_icT hk_38 rfl (jc_T3 cz1) ?_
    refine kg_iload hk_38 rfl rfl rfl ?_
    have hF := Option.some.inj hF
    exact kg_iret hk_38 rfl (Or.inl rfl) (hX0 _ hF.symm)
theorem l_38_4_ok {X : List Int32} {o : kO}    {n : Nat} {s : Int32 × Int32 × Hp} {e : Int32 × Hp} (hF : w_lp (fun (s : Int32 × Int32 × Hp) => l_38_4 s.1 s.2.1 s.2.2) n s = some e) (hX0 : (.inl (some (.int e.1)), e.2) = o) : k_Go X 1 38 (4, [.ref (17 + 1), .int s.1, .int s.2.1], []) s.2.2 o := by
  exact w_lp_ok (P := (fun (s : Int32 × Int32 × Hp) => k_Go X 1 38 (4, [.ref (17 + 1), .int s.1, .int s.2.1], []) s.2.2 o)) (Q := (fun (e : Int32 × Hp) => ((.inl (some (.int e.1)), e.2) = o))) (fun s r hF hK hX => l_38_4_st hF hK (fun x hx => (hX _ hx))) n s e hF hX0
def p_38 (h : Hp) : Option (Int32 × Hp) :=
  w_lp (fun (s : Int32 × Int32 × Hp) => l_38_4 s.1 s.2.1 s.2.2) w_N ((-1), 0, h)
theorem p_38_ok {X : List Int32}  {h : Hp}   {r : Int32 × Hp} (hF : p_38 h = some r) : k_Ev X 1 38 [.ref (17 + 1)] h (.inl (some (.int r.1)), r.2) := by
  refine k_of hk_38 ?_
  show k_Go X 1 38 (0, [.ref (17 + 1), (.retAddr 0), (.retAddr 0)], []) h _
  unfold p_38 at hF
  refine kg_push (x := (-1)) hk_38 rfl (by decide) rfl ?_
  refine kg_istore (L2 := [.ref (17 + 1), .int (-1), (.retAddr 0)]) hk_38 rfl (Nat.le_of_ble_eq_true rfl) rfl rfl ?_
  refine kg_push (x := 0) hk_38 rfl (by decide) rfl ?_
  refine kg_istore (L2 := [.ref (17 + 1), .int (-1), .int 0]) hk_38 rfl (Nat.le_of_ble_eq_true rfl) rfl rfl ?_
  exact l_38_4_ok hF rfl
-- NotebookWeir$Reader.readSimplePart()Z
theorem hk_46 : jP[46]? = some (jc_46, 2, [], []) := by rfl
def p_46 (h : Hp) : Option (Int32 × Hp) :=
  w_gd (w_tag (h 17 0).toNatClampNeg == 7 && 7 != 999) <|
  w_gd (g_58 h ((h 17 0).toNatClampNeg) (h 17 2)) <|
  if (v_124 (v_58 h ((h 17 0).toNatClampNeg) (h 17 2))) = 0 then
    ((p_36 h 63).bind fun vz4 =>
    if vz4.1 = 0 then
      ((p_36 vz4.2 64).bind fun vz6 =>
      if vz6.1 = 0 then
        ((p_37 vz6.2).bind fun vz8 =>
        if vz8.1 = (-1) then
          (some (0, vz8.2))
        else
          (w_gd ((vz8.2 17 1) == 24) <|
          (p_10 vz8.2 24 1 vz8.1 (vz8.2 17 3)).bind fun vz11 =>
          w_gd ((vz11 17 1) == 24) <|
          w_let (w_up vz11 24 7 ((vz11 24 7) ||| (if (v_126 (vz11 17 4) vz8.1) = 0 then (1 <<< (vz8.1 &&& 31)) else 0 : Int32))) fun hz14 =>
          some (1, hz14)))
      else
        (w_gd ((vz6.2 17 1) == 24) <|
        (p_10 vz6.2 24 3 0 (vz6.2 17 3)).bind fun vz16 =>
        some (1, vz16)))
    else
      (w_gd ((vz4.2 17 1) == 24) <|
      (p_10 vz4.2 24 2 0 (vz4.2 17 3)).bind fun vz18 =>
      some (1, vz18)))
  else
    (w_gd ((h 17 1) == 24) <|
    (p_38 h).bind fun vz20 =>
    (p_10 vz20.2 24 0 vz20.1 (vz20.2 17 3)).bind fun vz21 =>
    some (1, vz21))
theorem p_46_ok {X : List Int32}  {h : Hp}   {r : Int32 × Hp} (hF : p_46 h = some r) : k_Ev X 2 46 [.ref (17 + 1)] h (.inl (some (.int r.1)), r.2) := by
  refine k_of hk_46 ?_
  show k_Go X 2 46 (0, [.ref (17 + 1), (.retAddr 0)], []) h _
  unfold p_46 at hF
  refine kg_aload hk_46 rfl rfl rfl ?_
  refine wf_gd hF (fun gz1 hF => ?_)
  refine kg_get (v := .ref (((h 17 0).toNatClampNeg) + 1)) hk_46 rfl wk_17_0 rfl rfl ?_
  refine kg_aload hk_46 rfl rfl rfl ?_
  refine kg_get (v := .int (h 17 2)) hk_46 rfl wk_17_2 rfl rfl ?_
  refine wf_gd hF (fun gz2 hF => ?_)
  refine kg_call (as := [.ref (((h 17 0).toNatClampNeg) + 1), .int (h 17 2)]) (rest := []) hk_46 rfl (Or.inr (Or.inr (Or.inr ⟨Or.inl rfl, _, _, rfl, (w_tagE gz1)⟩))) rfl rfl rfl (Nat.not_lt.mpr (Nat.le_of_ble_eq_true rfl)) (v_58_ok (w_tagE gz1) gz2) (by decide) rfl ?_
  refine kg_call (as := [.int (v_58 h ((h 17 0).toNatClampNeg) (h 17 2))]) (rest := []) hk_46 rfl (Or.inr (Or.inl rfl)) rfl rfl rfl (Nat.not_lt.mpr (Nat.le_of_ble_eq_true rfl)) (v_124_ok) (by decide) rfl ?_
  refine wf_if hF (fun cz3 hF => ?_) (fun cz3 hF => ?_)
  · refine kg_ifT hk_46 rfl (jc_T0 cz3) ?_
    refine kg_aload hk_46 rfl rfl rfl ?_
    refine kg_push (x := 63) hk_46 rfl (by decide) rfl ?_
    refine wf_bind hF (fun vz4 hvz4 hF => ?_)
    refine kg_call (as := [.ref (17 + 1), .int 63]) (rest := []) hk_46 rfl (Or.inr (Or.inr (Or.inr ⟨Or.inl rfl, _, _, rfl, wc_17⟩))) rfl rfl rfl (Nat.not_lt.mpr (Nat.le_of_ble_eq_true rfl)) (p_36_ok hvz4) (by decide) rfl ?_
    refine wf_if hF (fun cz5 hF => ?_) (fun cz5 hF => ?_)
    · refine kg_ifT hk_46 rfl (jc_T0 cz5) ?_
      refine kg_aload hk_46 rfl rfl rfl ?_
      refine kg_push (x := 64) hk_46 rfl (by decide) rfl ?_
      refine wf_bind hF (fun vz6 hvz6 hF => ?_)
      refine kg_call (as := [.ref (17 + 1), .int 64]) (rest := []) hk_46 rfl (Or.inr (Or.inr (Or.inr ⟨Or.inl rfl, _, _, rfl, wc_17⟩))) rfl rfl rfl (Nat.not_lt.mpr (Nat.le_of_ble_eq_true rfl)) (p_36_ok hvz6) (by decide) rfl ?_
      refine wf_if hF (fun cz7 hF => ?_) (fun cz7 hF => ?_)
      · refine kg_ifT hk_46 rfl (jc_T0 cz7) ?_
        refine kg_aload hk_46 rfl rfl rfl ?_
        refine wf_bind hF (fun vz8 hvz8 hF => ?_)
        refine kg_call (as := [.ref (17 + 1)]) (rest := []) hk_46 rfl (Or.inr (Or.inr (Or.inr ⟨Or.inl rfl, _, _, rfl, wc_17⟩))) rfl rfl rfl (Nat.not_lt.mpr (Nat.le_of_ble_eq_true rfl)) (p_37_ok hvz8) (by decide) rfl ?_
        refine kg_istore (L2 := [.ref (17 + 1), .int vz8.1]) hk_46 rfl (Nat.le_of_ble_eq_true rfl) rfl rfl ?_
        refine kg_iload hk_46 rfl rfl rfl ?_
        refine kg_push (x := (-1)) hk_46 rfl (by decide) rfl ?_
        refine wf_if hF (fun cz9 hF => ?_) (fun cz9 hF => ?_)
        · refine kg_icF hk_46 rfl (jc_F1 cz9) rfl ?_
          refine kg_push (x := 0) hk_46 rfl (by decide) rfl ?_
          have hF := Option.some.inj hF
          subst hF
          exact kg_iret hk_46 rfl (Or.inr rfl) rfl
        · refine kg_icT hk_46 rfl (jc_T1 cz9) ?_
          refine kg_aload hk_46 rfl rfl rfl ?_
          refine wf_gd hF (fun gz10 hF => ?_)
          refine kg_get (v := .ref (24 + 1)) hk_46 rfl wk_17_1 (by rw [beq_iff_eq.mp gz10]; rfl) rfl ?_
          refine kg_push (x := 1) hk_46 rfl (by decide) rfl ?_
          refine kg_iload hk_46 rfl rfl rfl ?_
          refine kg_aload hk_46 rfl rfl rfl ?_
          refine kg_get (v := .int (vz8.2 17 3)) hk_46 rfl wk_17_3 rfl rfl ?_
          refine wf_bind hF (fun vz11 hvz11 hF => ?_)
          refine kg_call (as := [.ref (24 + 1), .int 1, .int vz8.1, .int (vz8.2 17 3)]) (rest := []) hk_46 rfl (Or.inr (Or.inr (Or.inr ⟨Or.inl rfl, _, _, rfl, wc_24⟩))) rfl rfl rfl (Nat.not_lt.mpr (Nat.le_of_ble_eq_true rfl)) (p_10_ok wc_24 hvz11) (by decide) rfl ?_
          refine kg_aload hk_46 rfl rfl rfl ?_
          refine wf_gd hF (fun gz12 hF => ?_)
          refine kg_get (v := .ref (24 + 1)) hk_46 rfl wk_17_1 (by rw [beq_iff_eq.mp gz12]; rfl) rfl ?_
          refine kg_dup hk_46 rfl rfl rfl ?_
          refine kg_get (v := .int (vz11 24 7)) hk_46 rfl wk_24_7 rfl rfl ?_
          refine kg_aload hk_46 rfl rfl rfl ?_
          refine kg_get (v := .int (vz11 17 4)) hk_46 rfl wk_17_4 rfl rfl ?_
          refine kg_iload hk_46 rfl rfl rfl ?_
          refine kg_call (as := [.int (vz11 17 4), .int vz8.1]) (rest := [.int (vz11 24 7), .ref (24 + 1)]) hk_46 rfl (Or.inr (Or.inl rfl)) rfl rfl rfl (Nat.not_lt.mpr (Nat.le_of_ble_eq_true rfl)) (v_126_ok) (by decide) rfl ?_
          refine kv_mid (p := 72) (L := [.ref (17 + 1), .int vz8.1]) (S := [.int (if (v_126 (vz11 17 4) vz8.1) = 0 then (1 <<< (vz8.1 &&& 31)) else 0 : Int32), .int (vz11 24 7), .ref (24 + 1)]) ?_ (fun hK => ?_)
          · refine kg_bin (z := ((vz11 24 7) ||| (if (v_126 (vz11 17 4) vz8.1) = 0 then (1 <<< (vz8.1 &&& 31)) else 0 : Int32))) hk_46 rfl rfl rfl ?_
            refine wf_let hF (fun hz14 hhz14 hF => ?_)
            refine kg_put hk_46 rfl wk_24_7 rfl rfl hhz14 rfl ?_
            refine kg_push (x := 1) hk_46 rfl (by decide) rfl ?_
            have hF := Option.some.inj hF
            subst hF
            exact kg_iret hk_46 rfl (Or.inr rfl) rfl
          · by_cases cz13 : (v_126 (vz11 17 4) vz8.1) = 0
            · have hK := kv_T cz13 hK
              refine kg_ifT hk_46 rfl (jc_T0 cz13) ?_
              refine kg_push (x := 1) hk_46 rfl (by decide) rfl ?_
              refine kg_iload hk_46 rfl rfl rfl ?_
              refine kg_bin (z := (1 <<< (vz8.1 &&& 31))) hk_46 rfl rfl rfl ?_
              exact hK
            · have hK := kv_F cz13 hK
              refine kg_ifF hk_46 rfl (jc_F0 cz13) rfl ?_
              refine kg_push (x := 0) hk_46 rfl (by decide) rfl ?_
              refine kg_goto hk_46 rfl ?_
              exact hK
      · refine kg_ifF hk_46 rfl (jc_F0 cz7) rfl ?_
        refine kg_aload hk_46 rfl rfl rfl ?_
        refine wf_gd hF (fun gz15 hF => ?_)
        refine kg_get (v := .ref (24 + 1)) hk_46 rfl wk_17_1 (by rw [beq_iff_eq.mp gz15]; rfl) rfl ?_
        refine kg_push (x := 3) hk_46 rfl (by decide) rfl ?_
        refine kg_push (x := 0) hk_46 rfl (by decide) rfl ?_
        refine kg_aload hk_46 rfl rfl rfl ?_
        refine kg_get (v := .int (vz6.2 17 3)) hk_46 rfl wk_17_3 rfl rfl ?_
        refine wf_bind hF (fun vz16 hvz16 hF => ?_)
        refine kg_call (as := [.ref (24 + 1), .int 3, .int 0, .int (vz6.2 17 3)]) (rest := []) hk_46 rfl (Or.inr (Or.inr (Or.inr ⟨Or.inl rfl, _, _, rfl, wc_24⟩))) rfl rfl rfl (Nat.not_lt.mpr (Nat.le_of_ble_eq_true rfl)) (p_10_ok wc_24 hvz16) (by decide) rfl ?_
        refine kg_push (x := 1) hk_46 rfl (by decide) rfl ?_
        have hF := Option.some.inj hF
        subst hF
        exact kg_iret hk_46 rfl (Or.inr rfl) rfl
    · refine kg_ifF hk_46 rfl (jc_F0 cz5) rfl ?_
      refine kg_aload hk_46 rfl rfl rfl ?_
      refine wf_gd hF (fun gz17 hF => ?_)
      refine kg_get (v := .ref (24 + 1)) hk_46 rfl wk_17_1 (by rw [beq_iff_eq.mp gz17]; rfl) rfl ?_
      refine kg_push (x := 2) hk_46 rfl (by decide) rfl ?_
      refine kg_push (x := 0) hk_46 rfl (by decide) rfl ?_
      refine kg_aload hk_46 rfl rfl rfl ?_
      refine kg_get (v := .int (vz4.2 17 3)) hk_46 rfl wk_17_3 rfl rfl ?_
      refine wf_bind hF (fun vz18 hvz18 hF => ?_)
      refine kg_call (as := [.ref (24 + 1), .int 2, .int 0, .int (vz4.2 17 3)]) (rest := []) hk_46 rfl (Or.inr (Or.inr (Or.inr ⟨Or.inl rfl, _, _, rfl, wc_24⟩))) rfl rfl rfl (Nat.not_lt.mpr (Nat.le_of_ble_eq_true rfl)) (p_10_ok wc_24 hvz18) (by decide) rfl ?_
      refine kg_push (x := 1) hk_46 rfl (by decide) rfl ?_
      have hF := Option.some.inj hF
      subst hF
      exact kg_iret hk_46 rfl (Or.inr rfl) rfl
  · refine kg_ifF hk_46 rfl (jc_F0 cz3) rfl ?_
    refine kg_aload hk_46 rfl rfl rfl ?_
    refine wf_gd hF (fun gz19 hF => ?_)
    refine kg_get (v := .ref (24 + 1)) hk_46 rfl wk_17_1 (by rw [beq_iff_eq.mp gz19]; rfl) rfl ?_
    refine kg_push (x := 0) hk_46 rfl (by decide) rfl ?_
    refine kg_aload hk_46 rfl rfl rfl ?_
    refine wf_bind hF (fun vz20 hvz20 hF => ?_)
    refine kg_call (as := [.ref (17 + 1)]) (rest := [.int 0, .ref (24 + 1)]) hk_46 rfl (Or.inr (Or.inr (Or.inr ⟨Or.inl rfl, _, _, rfl, wc_17⟩))) rfl rfl rfl (Nat.not_lt.mpr (Nat.le_of_ble_eq_true rfl)) (p_38_ok hvz20) (by decide) rfl ?_
    refine kg_aload hk_46 rfl rfl rfl ?_
    refine kg_get (v := .int (vz20.2 17 3)) hk_46 rfl wk_17_3 rfl rfl ?_
    refine wf_bind hF (fun vz21 hvz21 hF => ?_)
    refine kg_call (as := [.ref (24 + 1), .int 0, .int vz20.1, .int (vz20.2 17 3)]) (rest := []) hk_46 rfl (Or.inr (Or.inr (Or.inr ⟨Or.inl rfl, _, _, rfl, wc_24⟩))) rfl rfl rfl (Nat.not_lt.mpr (Nat.le_of_ble_eq_true rfl)) (p_10_ok wc_24 hvz21) (by decide) rfl ?_
    refine kg_push (x := 1) hk_46 rfl (by decide) rfl ?_
    have hF := Option.some.inj hF
    subst hF
    exact kg_iret hk_46 rfl (Or.inr rfl) rfl
-- NotebookWeir$Reader.readRow(I)Z
theorem hk_47 : jP[47]? = some (jc_47, 3, [], []) := by rfl
def l_47_2 (R : Nat → Int32 → Hp → Option (Int32 × Hp)) (x1 : Int32) (x2 : Int32) (h : Hp) : Option ((Int32 × Hp) ⊕ ((Int32 × Hp) ⊕ Int32 × Hp)) :=
  if x2 ≤ 8 then
    ((R 42 x1 h).bind fun vz2 =>
    if vz2.1 = 0 then
      (some (.inr (.inr (0, vz2.2))))
    else
      (w_gd ((vz2.2 17 1) == 24) <|
      (p_10 vz2.2 24 9 0 (vz2.2 17 3)).bind fun vz5 =>
      (p_36 vz5 93).bind fun vz6 =>
      if vz6.1 = 0 then
        (if x2 = 8 then
          (some (.inr (.inr (0, vz6.2))))
        else
          ((p_36 vz6.2 44).bind fun vz9 =>
          if vz9.1 = 0 then
            (some (.inr (.inr (0, vz9.2))))
          else
            (some (.inl ((x2 + 1), vz9.2)))))
      else
        (some (.inr (.inl (x2, vz6.2))))))
  else
    (some (.inr (.inr (0, h))))
theorem l_47_2_st {X : List Int32} {o : kO} {D : Nat} {R : Nat → Int32 → Hp → Option (Int32 × Hp)} (hD : 3 ≤ D) (hR0 : ∀ w d h r, R w d h = some r → k_Ev X D w [.ref (17 + 1), .int d] h (.inl (some (.int r.1)), r.2)) {h : Hp} {x1 : Int32} {x2 : Int32}  {r : (Int32 × Hp) ⊕ ((Int32 × Hp) ⊕ Int32 × Hp)} (hF : l_47_2 R x1 x2 h = some r) (hK : ∀ s' : Int32 × Hp, r = .inl s' → k_Go X (D + 1) 47 (2, [.ref (17 + 1), .int x1, .int (s'.1)], []) s'.2 o) (hX0 : ∀ x : Int32 × Hp, r = .inr (.inl x) → ∀ (u1 : Value), k_Go X (D + 1) 47 (22, [.ref (17 + 1), u1, .int x.1], []) x.2 o) (hX1 : ∀ x : Int32 × Hp, r = .inr (.inr x) → (.inl (some (.int x.1)), x.2) = o) : k_Go X (D + 1) 47 (2, [.ref (17 + 1), .int x1, .int x2], []) h o := by
  refine kg_iload hk_47 rfl rfl rfl ?_
  refine kg_push (x := 8) hk_47 rfl (by decide) rfl ?_
  refine wf_if hF (fun cz1 hF => ?_) (fun cz1 hF => ?_)
  · refine kg_icF hk_47 rfl (jc_F4 cz1) rfl ?_
    refine kg_aload hk_47 rfl rfl rfl ?_
    refine kg_iload hk_47 rfl rfl rfl ?_
    refine wf_bind hF (fun vz2 hvz2 hF => ?_)
    refine kg_call (as := [.ref (17 + 1), .int x1]) (rest := []) hk_47 rfl (Or.inr (Or.inr (Or.inr ⟨Or.inl rfl, _, _, rfl, wc_17⟩))) rfl rfl rfl (Nat.not_lt.mpr (Nat.le_of_ble_eq_true rfl)) (hR0 _ _ _ _ hvz2) (Nat.le_refl _) rfl ?_
    refine wf_if hF (fun cz3 hF => ?_) (fun cz3 hF => ?_)
    · refine kg_ifF hk_47 rfl (jc_F1 cz3) rfl ?_
      refine kg_push (x := 0) hk_47 rfl (by decide) rfl ?_
      have hF := Option.some.inj hF
      exact kg_iret hk_47 rfl (Or.inr rfl) (hX1 _ hF.symm)
    · refine kg_ifT hk_47 rfl (jc_T1 cz3) ?_
      refine kg_aload hk_47 rfl rfl rfl ?_
      refine wf_gd hF (fun gz4 hF => ?_)
      refine kg_get (v := .ref (24 + 1)) hk_47 rfl wk_17_1 (by rw [beq_iff_eq.mp gz4]; rfl) rfl ?_
      refine kg_push (x := 9) hk_47 rfl (by decide) rfl ?_
      refine kg_push (x := 0) hk_47 rfl (by decide) rfl ?_
      refine kg_aload hk_47 rfl rfl rfl ?_
      refine kg_get (v := .int (vz2.2 17 3)) hk_47 rfl wk_17_3 rfl rfl ?_
      refine wf_bind hF (fun vz5 hvz5 hF => ?_)
      refine kg_call (as := [.ref (24 + 1), .int 9, .int 0, .int (vz2.2 17 3)]) (rest := []) hk_47 rfl (Or.inr (Or.inr (Or.inr ⟨Or.inl rfl, _, _, rfl, wc_24⟩))) rfl rfl rfl (Nat.not_lt.mpr (Nat.le_of_ble_eq_true rfl)) (p_10_ok wc_24 hvz5) (Nat.le_trans (by decide) hD) rfl ?_
      refine kg_aload hk_47 rfl rfl rfl ?_
      refine kg_push (x := 93) hk_47 rfl (by decide) rfl ?_
      refine wf_bind hF (fun vz6 hvz6 hF => ?_)
      refine kg_call (as := [.ref (17 + 1), .int 93]) (rest := []) hk_47 rfl (Or.inr (Or.inr (Or.inr ⟨Or.inl rfl, _, _, rfl, wc_17⟩))) rfl rfl rfl (Nat.not_lt.mpr (Nat.le_of_ble_eq_true rfl)) (p_36_ok hvz6) (Nat.le_trans (by decide) hD) rfl ?_
      refine wf_if hF (fun cz7 hF => ?_) (fun cz7 hF => ?_)
      · refine kg_ifT hk_47 rfl (jc_T0 cz7) ?_
        refine kg_iload hk_47 rfl rfl rfl ?_
        refine kg_push (x := 8) hk_47 rfl (by decide) rfl ?_
        refine wf_if hF (fun cz8 hF => ?_) (fun cz8 hF => ?_)
        · refine kg_icT hk_47 rfl (jc_T0 cz8) ?_
          refine kg_push (x := 0) hk_47 rfl (by decide) rfl ?_
          have hF := Option.some.inj hF
          exact kg_iret hk_47 rfl (Or.inr rfl) (hX1 _ hF.symm)
        · refine kg_icF hk_47 rfl (jc_F0 cz8) rfl ?_
          refine kg_aload hk_47 rfl rfl rfl ?_
          refine kg_push (x := 44) hk_47 rfl (by decide) rfl ?_
          refine wf_bind hF (fun vz9 hvz9 hF => ?_)
          refine kg_call (as := [.ref (17 + 1), .int 44]) (rest := []) hk_47 rfl (Or.inr (Or.inr (Or.inr ⟨Or.inl rfl, _, _, rfl, wc_17⟩))) rfl rfl rfl (Nat.not_lt.mpr (Nat.le_of_ble_eq_true rfl)) (p_36_ok hvz9) (Nat.le_trans (by decide) hD) rfl ?_
          refine wf_if hF (fun cz10 hF => ?_) (fun cz10 hF => ?_)
          · refine kg_ifF hk_47 rfl (jc_F1 cz10) rfl ?_
            refine kg_push (x := 0) hk_47 rfl (by decide) rfl ?_
            have hF := Option.some.inj hF
            exact kg_iret hk_47 rfl (Or.inr rfl) (hX1 _ hF.symm)
          · refine kg_ifT hk_47 rfl (jc_T1 cz10) ?_
            refine kg_iinc (y := (x2 + 1)) (L2 := [.ref (17 + 1), .int x1, .int (x2 + 1)]) hk_47 rfl rfl rfl rfl rfl ?_
            refine kg_goto hk_47 rfl ?_
            have hF := Option.some.inj hF
            exact hK _ hF.symm
      · refine kg_ifF hk_47 rfl (jc_F0 cz7) rfl ?_
        have hF := Option.some.inj hF
        exact hX0 _ hF.symm _
  · refine kg_icT hk_47 rfl (jc_T4 cz1) ?_
    refine kg_push (x := 0) hk_47 rfl (by decide) rfl ?_
    have hF := Option.some.inj hF
    exact kg_iret hk_47 rfl (Or.inr rfl) (hX1 _ hF.symm)
theorem l_47_2_ok {X : List Int32} {o : kO} {D : Nat} {R : Nat → Int32 → Hp → Option (Int32 × Hp)} (hD : 3 ≤ D) (hR0 : ∀ w d h r, R w d h = some r → k_Ev X D w [.ref (17 + 1), .int d] h (.inl (some (.int r.1)), r.2)) {x1 : Int32}  {n : Nat} {s : Int32 × Hp} {e : ((Int32 × Hp) ⊕ Int32 × Hp)} (hF : w_lp (fun (s : Int32 × Hp) => l_47_2 R x1 s.1 s.2) n s = some e) (hX0 : ∀ x : Int32 × Hp, e = (.inl x) → ∀ (u1 : Value), k_Go X (D + 1) 47 (22, [.ref (17 + 1), u1, .int x.1], []) x.2 o) (hX1 : ∀ x : Int32 × Hp, e = (.inr x) → (.inl (some (.int x.1)), x.2) = o) : k_Go X (D + 1) 47 (2, [.ref (17 + 1), .int x1, .int s.1], []) s.2 o := by
  exact w_lp_ok (P := (fun (s : Int32 × Hp) => k_Go X (D + 1) 47 (2, [.ref (17 + 1), .int x1, .int s.1], []) s.2 o)) (Q := (fun (e : ((Int32 × Hp) ⊕ Int32 × Hp)) => (∀ x : Int32 × Hp, e = (.inl x) → ∀ (u1 : Value), k_Go X (D + 1) 47 (22, [.ref (17 + 1), u1, .int x.1], []) x.2 o) ∧ (∀ x : Int32 × Hp, e = (.inr x) → (.inl (some (.int x.1)), x.2) = o))) (fun s r hF hK hX => l_47_2_st hD hR0 hF hK (fun x hx => (hX _ hx).1 x rfl) (fun x hx => (hX _ hx).2 x rfl)) n s e hF ⟨hX0, hX1⟩
def p_47 (R : Nat → Int32 → Hp → Option (Int32 × Hp)) (h : Hp) (x1 : Int32) : Option (Int32 × Hp) :=
  (w_lp (fun (s : Int32 × Hp) => l_47_2 R x1 s.1 s.2) w_N (1, h)).bind <| (Sum.elim (fun yz12 =>
    (w_gd ((yz12.2 17 1) == 24) <|
    (p_10 yz12.2 24 10 yz12.1 (yz12.2 17 3)).bind fun vz15 =>
    some (1, vz15))) (fun yz13 =>
    (some yz13)))
theorem p_47_ok {X : List Int32} {D : Nat} {R : Nat → Int32 → Hp → Option (Int32 × Hp)} (hD : 3 ≤ D) (hR0 : ∀ w d h r, R w d h = some r → k_Ev X D w [.ref (17 + 1), .int d] h (.inl (some (.int r.1)), r.2)) {h : Hp} {x1 : Int32}  {r : Int32 × Hp} (hF : p_47 R h x1 = some r) : k_Ev X (D + 1) 47 [.ref (17 + 1), .int x1] h (.inl (some (.int r.1)), r.2) := by
  refine k_of hk_47 ?_
  show k_Go X (D + 1) 47 (0, [.ref (17 + 1), .int x1, (.retAddr 0)], []) h _
  unfold p_47 at hF
  refine kg_push (x := 1) hk_47 rfl (by decide) rfl ?_
  refine kg_istore (L2 := [.ref (17 + 1), .int x1, .int 1]) hk_47 rfl (Nat.le_of_ble_eq_true rfl) rfl rfl ?_
  refine wf_bind hF (fun ez11 hez11 hF => ?_)
  refine l_47_2_ok hD hR0 hez11 ?_ ?_
  · intro yz12 hx
    subst hx
    refine wf_inl hF (fun hF => ?_)
    intro u1
    refine kg_aload hk_47 rfl rfl rfl ?_
    refine wf_gd hF (fun gz14 hF => ?_)
    refine kg_get (v := .ref (24 + 1)) hk_47 rfl wk_17_1 (by rw [beq_iff_eq.mp gz14]; rfl) rfl ?_
    refine kg_push (x := 10) hk_47 rfl (by decide) rfl ?_
    refine kg_iload hk_47 rfl rfl rfl ?_
    refine kg_aload hk_47 rfl rfl rfl ?_
    refine kg_get (v := .int (yz12.2 17 3)) hk_47 rfl wk_17_3 rfl rfl ?_
    refine wf_bind hF (fun vz15 hvz15 hF => ?_)
    refine kg_call (as := [.ref (24 + 1), .int 10, .int yz12.1, .int (yz12.2 17 3)]) (rest := []) hk_47 rfl (Or.inr (Or.inr (Or.inr ⟨Or.inl rfl, _, _, rfl, wc_24⟩))) rfl rfl rfl (Nat.not_lt.mpr (Nat.le_of_ble_eq_true rfl)) (p_10_ok wc_24 hvz15) (Nat.le_trans (by decide) hD) rfl ?_
    refine kg_push (x := 1) hk_47 rfl (by decide) rfl ?_
    have hF := Option.some.inj hF
    subst hF
    exact kg_iret hk_47 rfl (Or.inr rfl) rfl
  · intro yz13 hx
    subst hx
    refine wf_inr hF (fun hF => ?_)
    have hF := Option.some.inj hF
    subst hF
    rfl
-- NotebookWeir$Reader.readPart(I)Z
theorem hk_45 : jP[45]? = some (jc_45, 3, [], []) := by rfl
def p_45 (R : Nat → Int32 → Hp → Option (Int32 × Hp)) (h : Hp) (x1 : Int32) : Option (Int32 × Hp) :=
  if x1 ≤ 40 then
    ((p_36 h 35).bind fun vz2 =>
    if vz2.1 = 0 then
      ((p_36 vz2.2 40).bind fun vz4 =>
      if vz4.1 = 0 then
        ((p_36 vz4.2 91).bind fun vz6 =>
        if vz6.1 = 0 then
          ((p_46 vz6.2).bind fun vz8 =>
          w_gd (w_bo vz8.1) <|
          some (vz8.1, vz8.2))
        else
          ((R 47 (x1 + 1) vz6.2).bind fun vz10 =>
          w_gd (w_bo vz10.1) <|
          some (vz10.1, vz10.2)))
      else
        ((R 42 (x1 + 1) vz4.2).bind fun vz12 =>
        if vz12.1 = 0 then
          (some (0, vz12.2))
        else
          ((p_36 vz12.2 41).bind fun vz14 =>
          some ((if vz14.1 = 0 then 0 else 1 : Int32), vz14.2))))
    else
      ((R 44 (x1 + 1) vz2.2).bind fun vz16 =>
      w_gd ((vz16.2 17 1) == 24) <|
      (p_10 vz16.2 24 8 0 (vz16.2 17 3)).bind fun vz18 =>
      w_gd (w_bo vz16.1) <|
      some (vz16.1, vz18)))
  else
    (some (0, h))
theorem p_45_ok {X : List Int32} {D : Nat} {R : Nat → Int32 → Hp → Option (Int32 × Hp)} (hD : 3 ≤ D) (hR0 : ∀ w d h r, R w d h = some r → k_Ev X D w [.ref (17 + 1), .int d] h (.inl (some (.int r.1)), r.2)) {h : Hp} {x1 : Int32}  {r : Int32 × Hp} (hF : p_45 R h x1 = some r) : k_Ev X (D + 1) 45 [.ref (17 + 1), .int x1] h (.inl (some (.int r.1)), r.2) := by
  refine k_of hk_45 ?_
  show k_Go X (D + 1) 45 (0, [.ref (17 + 1), .int x1, (.retAddr 0)], []) h _
  unfold p_45 at hF
  refine kg_iload hk_45 rfl rfl rfl ?_
  refine kg_push (x := 40) hk_45 rfl (by decide) rfl ?_
  refine wf_if hF (fun cz1 hF => ?_) (fun cz1 hF => ?_)
  · refine kg_icT hk_45 rfl (jc_T5 cz1) ?_
    refine kg_aload hk_45 rfl rfl rfl ?_
    refine kg_push (x := 35) hk_45 rfl (by decide) rfl ?_
    refine wf_bind hF (fun vz2 hvz2 hF => ?_)
    refine kg_call (as := [.ref (17 + 1), .int 35]) (rest := []) hk_45 rfl (Or.inr (Or.inr (Or.inr ⟨Or.inl rfl, _, _, rfl, wc_17⟩))) rfl rfl rfl (Nat.not_lt.mpr (Nat.le_of_ble_eq_true rfl)) (p_36_ok hvz2) (Nat.le_trans (by decide) hD) rfl ?_
    refine wf_if hF (fun cz3 hF => ?_) (fun cz3 hF => ?_)
    · refine kg_ifT hk_45 rfl (jc_T0 cz3) ?_
      refine kg_aload hk_45 rfl rfl rfl ?_
      refine kg_push (x := 40) hk_45 rfl (by decide) rfl ?_
      refine wf_bind hF (fun vz4 hvz4 hF => ?_)
      refine kg_call (as := [.ref (17 + 1), .int 40]) (rest := []) hk_45 rfl (Or.inr (Or.inr (Or.inr ⟨Or.inl rfl, _, _, rfl, wc_17⟩))) rfl rfl rfl (Nat.not_lt.mpr (Nat.le_of_ble_eq_true rfl)) (p_36_ok hvz4) (Nat.le_trans (by decide) hD) rfl ?_
      refine wf_if hF (fun cz5 hF => ?_) (fun cz5 hF => ?_)
      · refine kg_ifT hk_45 rfl (jc_T0 cz5) ?_
        refine kg_aload hk_45 rfl rfl rfl ?_
        refine kg_push (x := 91) hk_45 rfl (by decide) rfl ?_
        refine wf_bind hF (fun vz6 hvz6 hF => ?_)
        refine kg_call (as := [.ref (17 + 1), .int 91]) (rest := []) hk_45 rfl (Or.inr (Or.inr (Or.inr ⟨Or.inl rfl, _, _, rfl, wc_17⟩))) rfl rfl rfl (Nat.not_lt.mpr (Nat.le_of_ble_eq_true rfl)) (p_36_ok hvz6) (Nat.le_trans (by decide) hD) rfl ?_
        refine wf_if hF (fun cz7 hF => ?_) (fun cz7 hF => ?_)
        · refine kg_ifT hk_45 rfl (jc_T0 cz7) ?_
          refine kg_aload hk_45 rfl rfl rfl ?_
          refine wf_bind hF (fun vz8 hvz8 hF => ?_)
          refine kg_call (as := [.ref (17 + 1)]) (rest := []) hk_45 rfl (Or.inr (Or.inr (Or.inr ⟨Or.inl rfl, _, _, rfl, wc_17⟩))) rfl rfl rfl (Nat.not_lt.mpr (Nat.le_of_ble_eq_true rfl)) (p_46_ok hvz8) (Nat.le_trans (by decide) hD) rfl ?_
          refine wf_gd hF (fun gz9 hF => ?_)
          have hF := Option.some.inj hF
          subst hF
          exact kg_iret hk_45 rfl (Or.inr gz9) rfl
        · refine kg_ifF hk_45 rfl (jc_F0 cz7) rfl ?_
          refine kg_aload hk_45 rfl rfl rfl ?_
          refine kg_iload hk_45 rfl rfl rfl ?_
          refine kg_push (x := 1) hk_45 rfl (by decide) rfl ?_
          refine kg_bin (z := (x1 + 1)) hk_45 rfl rfl rfl ?_
          refine wf_bind hF (fun vz10 hvz10 hF => ?_)
          refine kg_call (as := [.ref (17 + 1), .int (x1 + 1)]) (rest := []) hk_45 rfl (Or.inr (Or.inr (Or.inr ⟨Or.inl rfl, _, _, rfl, wc_17⟩))) rfl rfl rfl (Nat.not_lt.mpr (Nat.le_of_ble_eq_true rfl)) (hR0 _ _ _ _ hvz10) (Nat.le_refl _) rfl ?_
          refine wf_gd hF (fun gz11 hF => ?_)
          have hF := Option.some.inj hF
          subst hF
          exact kg_iret hk_45 rfl (Or.inr gz11) rfl
      · refine kg_ifF hk_45 rfl (jc_F0 cz5) rfl ?_
        refine kg_aload hk_45 rfl rfl rfl ?_
        refine kg_iload hk_45 rfl rfl rfl ?_
        refine kg_push (x := 1) hk_45 rfl (by decide) rfl ?_
        refine kg_bin (z := (x1 + 1)) hk_45 rfl rfl rfl ?_
        refine wf_bind hF (fun vz12 hvz12 hF => ?_)
        refine kg_call (as := [.ref (17 + 1), .int (x1 + 1)]) (rest := []) hk_45 rfl (Or.inr (Or.inr (Or.inr ⟨Or.inl rfl, _, _, rfl, wc_17⟩))) rfl rfl rfl (Nat.not_lt.mpr (Nat.le_of_ble_eq_true rfl)) (hR0 _ _ _ _ hvz12) (Nat.le_refl _) rfl ?_
        refine wf_if hF (fun cz13 hF => ?_) (fun cz13 hF => ?_)
        · refine kg_ifT hk_45 rfl (jc_T0 cz13) ?_
          refine kg_push (x := 0) hk_45 rfl (by decide) rfl ?_
          have hF := Option.some.inj hF
          subst hF
          exact kg_iret hk_45 rfl (Or.inr rfl) rfl
        · refine kg_ifF hk_45 rfl (jc_F0 cz13) rfl ?_
          refine kg_aload hk_45 rfl rfl rfl ?_
          refine kg_push (x := 41) hk_45 rfl (by decide) rfl ?_
          refine wf_bind hF (fun vz14 hvz14 hF => ?_)
          refine kg_call (as := [.ref (17 + 1), .int 41]) (rest := []) hk_45 rfl (Or.inr (Or.inr (Or.inr ⟨Or.inl rfl, _, _, rfl, wc_17⟩))) rfl rfl rfl (Nat.not_lt.mpr (Nat.le_of_ble_eq_true rfl)) (p_36_ok hvz14) (Nat.le_trans (by decide) hD) rfl ?_
          refine kv_mid (p := 41) (L := [.ref (17 + 1), .int x1, (.retAddr 0)]) (S := [.int (if vz14.1 = 0 then 0 else 1 : Int32)]) ?_ (fun hK => ?_)
          · have hF := Option.some.inj hF
            subst hF
            exact kg_iret hk_45 rfl (Or.inr (w_boi rfl rfl)) rfl
          · by_cases cz15 : vz14.1 = 0
            · have hK := kv_T cz15 hK
              refine kg_ifT hk_45 rfl (jc_T0 cz15) ?_
              refine kg_push (x := 0) hk_45 rfl (by decide) rfl ?_
              exact hK
            · have hK := kv_F cz15 hK
              refine kg_ifF hk_45 rfl (jc_F0 cz15) rfl ?_
              refine kg_push (x := 1) hk_45 rfl (by decide) rfl ?_
              refine kg_goto hk_45 rfl ?_
              exact hK
    · refine kg_ifF hk_45 rfl (jc_F0 cz3) rfl ?_
      refine kg_aload hk_45 rfl rfl rfl ?_
      refine kg_iload hk_45 rfl rfl rfl ?_
      refine kg_push (x := 1) hk_45 rfl (by decide) rfl ?_
      refine kg_bin (z := (x1 + 1)) hk_45 rfl rfl rfl ?_
      refine wf_bind hF (fun vz16 hvz16 hF => ?_)
      refine kg_call (as := [.ref (17 + 1), .int (x1 + 1)]) (rest := []) hk_45 rfl (Or.inr (Or.inr (Or.inr ⟨Or.inl rfl, _, _, rfl, wc_17⟩))) rfl rfl rfl (Nat.not_lt.mpr (Nat.le_of_ble_eq_true rfl)) (hR0 _ _ _ _ hvz16) (Nat.le_refl _) rfl ?_
      refine kg_istore (L2 := [.ref (17 + 1), .int x1, .int vz16.1]) hk_45 rfl (Nat.le_of_ble_eq_true rfl) rfl rfl ?_
      refine kg_aload hk_45 rfl rfl rfl ?_
      refine wf_gd hF (fun gz17 hF => ?_)
      refine kg_get (v := .ref (24 + 1)) hk_45 rfl wk_17_1 (by rw [beq_iff_eq.mp gz17]; rfl) rfl ?_
      refine kg_push (x := 8) hk_45 rfl (by decide) rfl ?_
      refine kg_push (x := 0) hk_45 rfl (by decide) rfl ?_
      refine kg_aload hk_45 rfl rfl rfl ?_
      refine kg_get (v := .int (vz16.2 17 3)) hk_45 rfl wk_17_3 rfl rfl ?_
      refine wf_bind hF (fun vz18 hvz18 hF => ?_)
      refine kg_call (as := [.ref (24 + 1), .int 8, .int 0, .int (vz16.2 17 3)]) (rest := []) hk_45 rfl (Or.inr (Or.inr (Or.inr ⟨Or.inl rfl, _, _, rfl, wc_24⟩))) rfl rfl rfl (Nat.not_lt.mpr (Nat.le_of_ble_eq_true rfl)) (p_10_ok wc_24 hvz18) (Nat.le_trans (by decide) hD) rfl ?_
      refine kg_iload hk_45 rfl rfl rfl ?_
      refine wf_gd hF (fun gz19 hF => ?_)
      have hF := Option.some.inj hF
      subst hF
      exact kg_iret hk_45 rfl (Or.inr gz19) rfl
  · refine kg_icF hk_45 rfl (jc_F5 cz1) rfl ?_
    refine kg_push (x := 0) hk_45 rfl (by decide) rfl ?_
    have hF := Option.some.inj hF
    subst hF
    exact kg_iret hk_45 rfl (Or.inr rfl) rfl
-- NotebookWeir$Reader.readFactor(I)Z
theorem hk_44 : jP[44]? = some (jc_44, 3, [], []) := by rfl
def l_44_8 (R : Nat → Int32 → Hp → Option (Int32 × Hp)) (x2 : Int32) (h : Hp) : Option ((Int32 × Hp) ⊕ Int32 × Hp) :=
  if x2 < 40 then
    ((p_36 h 46).bind fun vz4 =>
    if vz4.1 = 0 then
      (some (.inr (1, vz4.2)))
    else
      (w_gd (w_tag (vz4.2 17 0).toNatClampNeg == 7 && 7 != 999) <|
      w_gd (g_58 vz4.2 ((vz4.2 17 0).toNatClampNeg) (vz4.2 17 2)) <|
      if (v_124 (v_58 vz4.2 ((vz4.2 17 0).toNatClampNeg) (vz4.2 17 2))) = 0 then
        (some (.inr (0, vz4.2)))
      else
        (w_gd ((vz4.2 17 1) == 24) <|
        w_gd (w_tag (vz4.2 17 0).toNatClampNeg == 7 && 7 != 999) <|
        w_gd (g_58 vz4.2 ((vz4.2 17 0).toNatClampNeg) (vz4.2 17 2)) <|
        (p_10 vz4.2 24 7 ((v_58 vz4.2 ((vz4.2 17 0).toNatClampNeg) (vz4.2 17 2)) - 48) (vz4.2 17 3)).bind fun vz12 =>
        w_let (w_up vz12 17 2 ((vz12 17 2) + 1)) fun hz13 =>
        some (.inl ((x2 + 1), hz13)))))
  else
    (some (.inr (1, h)))
theorem l_44_8_st {X : List Int32} {o : kO} {D : Nat} {R : Nat → Int32 → Hp → Option (Int32 × Hp)} (hD : 3 ≤ D) (hR0 : ∀ w d h r, R w d h = some r → k_Ev X D w [.ref (17 + 1), .int d] h (.inl (some (.int r.1)), r.2)) {h : Hp} {x2 : Int32}  {r : (Int32 × Hp) ⊕ Int32 × Hp} (hF : l_44_8 R x2 h = some r) (hK : ∀ s' : Int32 × Hp, r = .inl s' → ∀ (u1 : Value), k_Go X (D + 1) 44 (8, [.ref (17 + 1), u1, .int (s'.1)], []) s'.2 o) (hX0 : ∀ e : Int32 × Hp, r = .inr e → (.inl (some (.int e.1)), e.2) = o) : ∀ (u1 : Value), k_Go X (D + 1) 44 (8, [.ref (17 + 1), u1, .int x2], []) h o := by
  intro u1
  refine kg_iload hk_44 rfl rfl rfl ?_
  refine kg_push (x := 40) hk_44 rfl (by decide) rfl ?_
  refine wf_if hF (fun cz3 hF => ?_) (fun cz3 hF => ?_)
  · refine kg_icF hk_44 rfl (jc_F3 cz3) rfl ?_
    refine kg_aload hk_44 rfl rfl rfl ?_
    refine kg_push (x := 46) hk_44 rfl (by decide) rfl ?_
    refine wf_bind hF (fun vz4 hvz4 hF => ?_)
    refine kg_call (as := [.ref (17 + 1), .int 46]) (rest := []) hk_44 rfl (Or.inr (Or.inr (Or.inr ⟨Or.inl rfl, _, _, rfl, wc_17⟩))) rfl rfl rfl (Nat.not_lt.mpr (Nat.le_of_ble_eq_true rfl)) (p_36_ok hvz4) (Nat.le_trans (by decide) hD) rfl ?_
    refine wf_if hF (fun cz5 hF => ?_) (fun cz5 hF => ?_)
    · refine kg_ifT hk_44 rfl (jc_T0 cz5) ?_
      refine kg_push (x := 1) hk_44 rfl (by decide) rfl ?_
      have hF := Option.some.inj hF
      exact kg_iret hk_44 rfl (Or.inr rfl) (hX0 _ hF.symm)
    · refine kg_ifF hk_44 rfl (jc_F0 cz5) rfl ?_
      refine kg_aload hk_44 rfl rfl rfl ?_
      refine wf_gd hF (fun gz6 hF => ?_)
      refine kg_get (v := .ref (((vz4.2 17 0).toNatClampNeg) + 1)) hk_44 rfl wk_17_0 rfl rfl ?_
      refine kg_aload hk_44 rfl rfl rfl ?_
      refine kg_get (v := .int (vz4.2 17 2)) hk_44 rfl wk_17_2 rfl rfl ?_
      refine wf_gd hF (fun gz7 hF => ?_)
      refine kg_call (as := [.ref (((vz4.2 17 0).toNatClampNeg) + 1), .int (vz4.2 17 2)]) (rest := []) hk_44 rfl (Or.inr (Or.inr (Or.inr ⟨Or.inl rfl, _, _, rfl, (w_tagE gz6)⟩))) rfl rfl rfl (Nat.not_lt.mpr (Nat.le_of_ble_eq_true rfl)) (v_58_ok (w_tagE gz6) gz7) (Nat.le_trans (by decide) hD) rfl ?_
      refine kg_call (as := [.int (v_58 vz4.2 ((vz4.2 17 0).toNatClampNeg) (vz4.2 17 2))]) (rest := []) hk_44 rfl (Or.inr (Or.inl rfl)) rfl rfl rfl (Nat.not_lt.mpr (Nat.le_of_ble_eq_true rfl)) (v_124_ok) (Nat.le_trans (by decide) hD) rfl ?_
      refine wf_if hF (fun cz8 hF => ?_) (fun cz8 hF => ?_)
      · refine kg_ifF hk_44 rfl (jc_F1 cz8) rfl ?_
        refine kg_push (x := 0) hk_44 rfl (by decide) rfl ?_
        have hF := Option.some.inj hF
        exact kg_iret hk_44 rfl (Or.inr rfl) (hX0 _ hF.symm)
      · refine kg_ifT hk_44 rfl (jc_T1 cz8) ?_
        refine kg_aload hk_44 rfl rfl rfl ?_
        refine wf_gd hF (fun gz9 hF => ?_)
        refine kg_get (v := .ref (24 + 1)) hk_44 rfl wk_17_1 (by rw [beq_iff_eq.mp gz9]; rfl) rfl ?_
        refine kg_push (x := 7) hk_44 rfl (by decide) rfl ?_
        refine kg_aload hk_44 rfl rfl rfl ?_
        refine wf_gd hF (fun gz10 hF => ?_)
        refine kg_get (v := .ref (((vz4.2 17 0).toNatClampNeg) + 1)) hk_44 rfl wk_17_0 rfl rfl ?_
        refine kg_aload hk_44 rfl rfl rfl ?_
        refine kg_get (v := .int (vz4.2 17 2)) hk_44 rfl wk_17_2 rfl rfl ?_
        refine wf_gd hF (fun gz11 hF => ?_)
        refine kg_call (as := [.ref (((vz4.2 17 0).toNatClampNeg) + 1), .int (vz4.2 17 2)]) (rest := [.int 7, .ref (24 + 1)]) hk_44 rfl (Or.inr (Or.inr (Or.inr ⟨Or.inl rfl, _, _, rfl, (w_tagE gz10)⟩))) rfl rfl rfl (Nat.not_lt.mpr (Nat.le_of_ble_eq_true rfl)) (v_58_ok (w_tagE gz10) gz11) (Nat.le_trans (by decide) hD) rfl ?_
        refine kg_push (x := 48) hk_44 rfl (by decide) rfl ?_
        refine kg_bin (z := ((v_58 vz4.2 ((vz4.2 17 0).toNatClampNeg) (vz4.2 17 2)) - 48)) hk_44 rfl rfl rfl ?_
        refine kg_aload hk_44 rfl rfl rfl ?_
        refine kg_get (v := .int (vz4.2 17 3)) hk_44 rfl wk_17_3 rfl rfl ?_
        refine wf_bind hF (fun vz12 hvz12 hF => ?_)
        refine kg_call (as := [.ref (24 + 1), .int 7, .int ((v_58 vz4.2 ((vz4.2 17 0).toNatClampNeg) (vz4.2 17 2)) - 48), .int (vz4.2 17 3)]) (rest := []) hk_44 rfl (Or.inr (Or.inr (Or.inr ⟨Or.inl rfl, _, _, rfl, wc_24⟩))) rfl rfl rfl (Nat.not_lt.mpr (Nat.le_of_ble_eq_true rfl)) (p_10_ok wc_24 hvz12) (Nat.le_trans (by decide) hD) rfl ?_
        refine kg_aload hk_44 rfl rfl rfl ?_
        refine kg_dup hk_44 rfl rfl rfl ?_
        refine kg_get (v := .int (vz12 17 2)) hk_44 rfl wk_17_2 rfl rfl ?_
        refine kg_push (x := 1) hk_44 rfl (by decide) rfl ?_
        refine kg_bin (z := ((vz12 17 2) + 1)) hk_44 rfl rfl rfl ?_
        refine wf_let hF (fun hz13 hhz13 hF => ?_)
        refine kg_put hk_44 rfl wk_17_2 rfl rfl hhz13 rfl ?_
        refine kg_iinc (y := (x2 + 1)) (L2 := [.ref (17 + 1), u1, .int (x2 + 1)]) hk_44 rfl rfl rfl rfl rfl ?_
        refine kg_goto hk_44 rfl ?_
        have hF := Option.some.inj hF
        exact hK _ hF.symm _
  · refine kg_icT hk_44 rfl (jc_T3 cz3) ?_
    refine kg_push (x := 1) hk_44 rfl (by decide) rfl ?_
    have hF := Option.some.inj hF
    exact kg_iret hk_44 rfl (Or.inr rfl) (hX0 _ hF.symm)
theorem l_44_8_ok {X : List Int32} {o : kO} {D : Nat} {R : Nat → Int32 → Hp → Option (Int32 × Hp)} (hD : 3 ≤ D) (hR0 : ∀ w d h r, R w d h = some r → k_Ev X D w [.ref (17 + 1), .int d] h (.inl (some (.int r.1)), r.2))   {n : Nat} {s : Int32 × Hp} {e : Int32 × Hp} (hF : w_lp (fun (s : Int32 × Hp) => l_44_8 R s.1 s.2) n s = some e) (hX0 : (.inl (some (.int e.1)), e.2) = o) : ∀ (u1 : Value), k_Go X (D + 1) 44 (8, [.ref (17 + 1), u1, .int s.1], []) s.2 o := by
  exact w_lp_ok (P := (fun (s : Int32 × Hp) => ∀ (u1 : Value), k_Go X (D + 1) 44 (8, [.ref (17 + 1), u1, .int s.1], []) s.2 o)) (Q := (fun (e : Int32 × Hp) => ((.inl (some (.int e.1)), e.2) = o))) (fun s r hF hK hX => l_44_8_st hD hR0 hF hK (fun x hx => (hX _ hx))) n s e hF hX0
def p_44 (R : Nat → Int32 → Hp → Option (Int32 × Hp)) (h : Hp) (x1 : Int32) : Option (Int32 × Hp) :=
  (R 45 x1 h).bind fun vz1 =>
  if vz1.1 = 0 then
    (some (0, vz1.2))
  else
    (w_lp (fun (s : Int32 × Hp) => l_44_8 R s.1 s.2) w_N (0, vz1.2))
theorem p_44_ok {X : List Int32} {D : Nat} {R : Nat → Int32 → Hp → Option (Int32 × Hp)} (hD : 3 ≤ D) (hR0 : ∀ w d h r, R w d h = some r → k_Ev X D w [.ref (17 + 1), .int d] h (.inl (some (.int r.1)), r.2)) {h : Hp} {x1 : Int32}  {r : Int32 × Hp} (hF : p_44 R h x1 = some r) : k_Ev X (D + 1) 44 [.ref (17 + 1), .int x1] h (.inl (some (.int r.1)), r.2) := by
  refine k_of hk_44 ?_
  show k_Go X (D + 1) 44 (0, [.ref (17 + 1), .int x1, (.retAddr 0)], []) h _
  unfold p_44 at hF
  refine kg_aload hk_44 rfl rfl rfl ?_
  refine kg_iload hk_44 rfl rfl rfl ?_
  refine wf_bind hF (fun vz1 hvz1 hF => ?_)
  refine kg_call (as := [.ref (17 + 1), .int x1]) (rest := []) hk_44 rfl (Or.inr (Or.inr (Or.inr ⟨Or.inl rfl, _, _, rfl, wc_17⟩))) rfl rfl rfl (Nat.not_lt.mpr (Nat.le_of_ble_eq_true rfl)) (hR0 _ _ _ _ hvz1) (Nat.le_refl _) rfl ?_
  refine wf_if hF (fun cz2 hF => ?_) (fun cz2 hF => ?_)
  · refine kg_ifF hk_44 rfl (jc_F1 cz2) rfl ?_
    refine kg_push (x := 0) hk_44 rfl (by decide) rfl ?_
    have hF := Option.some.inj hF
    subst hF
    exact kg_iret hk_44 rfl (Or.inr rfl) rfl
  · refine kg_ifT hk_44 rfl (jc_T1 cz2) ?_
    refine kg_push (x := 0) hk_44 rfl (by decide) rfl ?_
    refine kg_istore (L2 := [.ref (17 + 1), .int x1, .int 0]) hk_44 rfl (Nat.le_of_ble_eq_true rfl) rfl rfl ?_
    exact l_44_8_ok hD hR0 hF rfl _
-- NotebookWeir$Reader.readTerm(I)Z
theorem hk_43 : jP[43]? = some (jc_43, 3, [], []) := by rfl
def l_43_8 (R : Nat → Int32 → Hp → Option (Int32 × Hp)) (x1 : Int32) (x2 : Int32) (h : Hp) : Option ((Int32 × Hp) ⊕ Int32 × Hp) :=
  if x2 < 40 then
    ((p_36 h 42).bind fun vz4 =>
    if vz4.1 = 0 then
      (some (.inr (1, vz4.2)))
    else
      ((R 44 x1 vz4.2).bind fun vz6 =>
      if vz6.1 = 0 then
        (some (.inr (0, vz6.2)))
      else
        (w_gd ((vz6.2 17 1) == 24) <|
        (p_10 vz6.2 24 6 0 (vz6.2 17 3)).bind fun vz9 =>
        some (.inl ((x2 + 1), vz9)))))
  else
    (some (.inr (1, h)))
theorem l_43_8_st {X : List Int32} {o : kO} {D : Nat} {R : Nat → Int32 → Hp → Option (Int32 × Hp)} (hD : 3 ≤ D) (hR0 : ∀ w d h r, R w d h = some r → k_Ev X D w [.ref (17 + 1), .int d] h (.inl (some (.int r.1)), r.2)) {h : Hp} {x1 : Int32} {x2 : Int32}  {r : (Int32 × Hp) ⊕ Int32 × Hp} (hF : l_43_8 R x1 x2 h = some r) (hK : ∀ s' : Int32 × Hp, r = .inl s' → k_Go X (D + 1) 43 (8, [.ref (17 + 1), .int x1, .int (s'.1)], []) s'.2 o) (hX0 : ∀ e : Int32 × Hp, r = .inr e → (.inl (some (.int e.1)), e.2) = o) : k_Go X (D + 1) 43 (8, [.ref (17 + 1), .int x1, .int x2], []) h o := by
  refine kg_iload hk_43 rfl rfl rfl ?_
  refine kg_push (x := 40) hk_43 rfl (by decide) rfl ?_
  refine wf_if hF (fun cz3 hF => ?_) (fun cz3 hF => ?_)
  · refine kg_icF hk_43 rfl (jc_F3 cz3) rfl ?_
    refine kg_aload hk_43 rfl rfl rfl ?_
    refine kg_push (x := 42) hk_43 rfl (by decide) rfl ?_
    refine wf_bind hF (fun vz4 hvz4 hF => ?_)
    refine kg_call (as := [.ref (17 + 1), .int 42]) (rest := []) hk_43 rfl (Or.inr (Or.inr (Or.inr ⟨Or.inl rfl, _, _, rfl, wc_17⟩))) rfl rfl rfl (Nat.not_lt.mpr (Nat.le_of_ble_eq_true rfl)) (p_36_ok hvz4) (Nat.le_trans (by decide) hD) rfl ?_
    refine wf_if hF (fun cz5 hF => ?_) (fun cz5 hF => ?_)
    · refine kg_ifT hk_43 rfl (jc_T0 cz5) ?_
      refine kg_push (x := 1) hk_43 rfl (by decide) rfl ?_
      have hF := Option.some.inj hF
      exact kg_iret hk_43 rfl (Or.inr rfl) (hX0 _ hF.symm)
    · refine kg_ifF hk_43 rfl (jc_F0 cz5) rfl ?_
      refine kg_aload hk_43 rfl rfl rfl ?_
      refine kg_iload hk_43 rfl rfl rfl ?_
      refine wf_bind hF (fun vz6 hvz6 hF => ?_)
      refine kg_call (as := [.ref (17 + 1), .int x1]) (rest := []) hk_43 rfl (Or.inr (Or.inr (Or.inr ⟨Or.inl rfl, _, _, rfl, wc_17⟩))) rfl rfl rfl (Nat.not_lt.mpr (Nat.le_of_ble_eq_true rfl)) (hR0 _ _ _ _ hvz6) (Nat.le_refl _) rfl ?_
      refine wf_if hF (fun cz7 hF => ?_) (fun cz7 hF => ?_)
      · refine kg_ifF hk_43 rfl (jc_F1 cz7) rfl ?_
        refine kg_push (x := 0) hk_43 rfl (by decide) rfl ?_
        have hF := Option.some.inj hF
        exact kg_iret hk_43 rfl (Or.inr rfl) (hX0 _ hF.symm)
      · refine kg_ifT hk_43 rfl (jc_T1 cz7) ?_
        refine kg_aload hk_43 rfl rfl rfl ?_
        refine wf_gd hF (fun gz8 hF => ?_)
        refine kg_get (v := .ref (24 + 1)) hk_43 rfl wk_17_1 (by rw [beq_iff_eq.mp gz8]; rfl) rfl ?_
        refine kg_push (x := 6) hk_43 rfl (by decide) rfl ?_
        refine kg_push (x := 0) hk_43 rfl (by decide) rfl ?_
        refine kg_aload hk_43 rfl rfl rfl ?_
        refine kg_get (v := .int (vz6.2 17 3)) hk_43 rfl wk_17_3 rfl rfl ?_
        refine wf_bind hF (fun vz9 hvz9 hF => ?_)
        refine kg_call (as := [.ref (24 + 1), .int 6, .int 0, .int (vz6.2 17 3)]) (rest := []) hk_43 rfl (Or.inr (Or.inr (Or.inr ⟨Or.inl rfl, _, _, rfl, wc_24⟩))) rfl rfl rfl (Nat.not_lt.mpr (Nat.le_of_ble_eq_true rfl)) (p_10_ok wc_24 hvz9) (Nat.le_trans (by decide) hD) rfl ?_
        refine kg_iinc (y := (x2 + 1)) (L2 := [.ref (17 + 1), .int x1, .int (x2 + 1)]) hk_43 rfl rfl rfl rfl rfl ?_
        refine kg_goto hk_43 rfl ?_
        have hF := Option.some.inj hF
        exact hK _ hF.symm
  · refine kg_icT hk_43 rfl (jc_T3 cz3) ?_
    refine kg_push (x := 1) hk_43 rfl (by decide) rfl ?_
    have hF := Option.some.inj hF
    exact kg_iret hk_43 rfl (Or.inr rfl) (hX0 _ hF.symm)
theorem l_43_8_ok {X : List Int32} {o : kO} {D : Nat} {R : Nat → Int32 → Hp → Option (Int32 × Hp)} (hD : 3 ≤ D) (hR0 : ∀ w d h r, R w d h = some r → k_Ev X D w [.ref (17 + 1), .int d] h (.inl (some (.int r.1)), r.2)) {x1 : Int32}  {n : Nat} {s : Int32 × Hp} {e : Int32 × Hp} (hF : w_lp (fun (s : Int32 × Hp) => l_43_8 R x1 s.1 s.2) n s = some e) (hX0 : (.inl (some (.int e.1)), e.2) = o) : k_Go X (D + 1) 43 (8, [.ref (17 + 1), .int x1, .int s.1], []) s.2 o := by
  exact w_lp_ok (P := (fun (s : Int32 × Hp) => k_Go X (D + 1) 43 (8, [.ref (17 + 1), .int x1, .int s.1], []) s.2 o)) (Q := (fun (e : Int32 × Hp) => ((.inl (some (.int e.1)), e.2) = o))) (fun s r hF hK hX => l_43_8_st hD hR0 hF hK (fun x hx => (hX _ hx))) n s e hF hX0
def p_43 (R : Nat → Int32 → Hp → Option (Int32 × Hp)) (h : Hp) (x1 : Int32) : Option (Int32 × Hp) :=
  (R 44 x1 h).bind fun vz1 =>
  if vz1.1 = 0 then
    (some (0, vz1.2))
  else
    (w_lp (fun (s : Int32 × Hp) => l_43_8 R x1 s.1 s.2) w_N (0, vz1.2))
theorem p_43_ok {X : List Int32} {D : Nat} {R : Nat → Int32 → Hp → Option (Int32 × Hp)} (hD : 3 ≤ D) (hR0 : ∀ w d h r, R w d h = some r → k_Ev X D w [.ref (17 + 1), .int d] h (.inl (some (.int r.1)), r.2)) {h : Hp} {x1 : Int32}  {r : Int32 × Hp} (hF : p_43 R h x1 = some r) : k_Ev X (D + 1) 43 [.ref (17 + 1), .int x1] h (.inl (some (.int r.1)), r.2) := by
  refine k_of hk_43 ?_
  show k_Go X (D + 1) 43 (0, [.ref (17 + 1), .int x1, (.retAddr 0)], []) h _
  unfold p_43 at hF
  refine kg_aload hk_43 rfl rfl rfl ?_
  refine kg_iload hk_43 rfl rfl rfl ?_
  refine wf_bind hF (fun vz1 hvz1 hF => ?_)
  refine kg_call (as := [.ref (17 + 1), .int x1]) (rest := []) hk_43 rfl (Or.inr (Or.inr (Or.inr ⟨Or.inl rfl, _, _, rfl, wc_17⟩))) rfl rfl rfl (Nat.not_lt.mpr (Nat.le_of_ble_eq_true rfl)) (hR0 _ _ _ _ hvz1) (Nat.le_refl _) rfl ?_
  refine wf_if hF (fun cz2 hF => ?_) (fun cz2 hF => ?_)
  · refine kg_ifF hk_43 rfl (jc_F1 cz2) rfl ?_
    refine kg_push (x := 0) hk_43 rfl (by decide) rfl ?_
    have hF := Option.some.inj hF
    subst hF
    exact kg_iret hk_43 rfl (Or.inr rfl) rfl
  · refine kg_ifT hk_43 rfl (jc_T1 cz2) ?_
    refine kg_push (x := 0) hk_43 rfl (by decide) rfl ?_
    refine kg_istore (L2 := [.ref (17 + 1), .int x1, .int 0]) hk_43 rfl (Nat.le_of_ble_eq_true rfl) rfl rfl ?_
    exact l_43_8_ok hD hR0 hF rfl
-- NotebookWeir$Reader.readExpression(I)Z
theorem hk_42 : jP[42]? = some (jc_42, 4, [], []) := by rfl
def q_42_30 (R : Nat → Int32 → Hp → Option (Int32 × Hp)) (h : Hp) (x1 : Int32) (x2 : Int32) (s0 : Int32) : Option ((Int32 × Hp) ⊕ Int32 × Hp) :=
  if s0 = (-1) then
    (some (.inr (1, h)))
  else
    (w_let (w_up h 17 2 ((h 17 2) + 1)) fun hz8 =>
    (R 43 x1 hz8).bind fun vz9 =>
    if vz9.1 = 0 then
      (some (.inr (0, vz9.2)))
    else
      (w_gd ((vz9.2 17 1) == 24) <|
      (p_10 vz9.2 24 s0 0 (vz9.2 17 3)).bind fun vz12 =>
      some (.inl ((x2 + 1), vz12))))
theorem q_42_30_ok {X : List Int32} {o : kO} {D : Nat} {R : Nat → Int32 → Hp → Option (Int32 × Hp)} (hD : 3 ≤ D) (hR0 : ∀ w d h r, R w d h = some r → k_Ev X D w [.ref (17 + 1), .int d] h (.inl (some (.int r.1)), r.2)) {h : Hp} {s0 : Int32} {x1 : Int32} {x2 : Int32}  {r : (Int32 × Hp) ⊕ Int32 × Hp} (hF : q_42_30 R h x1 x2 s0 = some r) (hK : ∀ s' : Int32 × Hp, r = .inl s' → ∀ (u3 : Value), k_Go X (D + 1) 42 (8, [.ref (17 + 1), .int x1, .int (s'.1), u3], []) s'.2 o) (hX0 : ∀ e : Int32 × Hp, r = .inr e → (.inl (some (.int e.1)), e.2) = o) : ∀ (u3 : Value), k_Go X (D + 1) 42 (30, [.ref (17 + 1), .int x1, .int x2, u3], [.int s0]) h o := by
  intro u3
  unfold q_42_30 at hF
  refine kg_istore (L2 := [.ref (17 + 1), .int x1, .int x2, .int s0]) hk_42 rfl (Nat.le_of_ble_eq_true rfl) rfl rfl ?_
  refine kg_iload hk_42 rfl rfl rfl ?_
  refine kg_push (x := (-1)) hk_42 rfl (by decide) rfl ?_
  refine wf_if hF (fun cz7 hF => ?_) (fun cz7 hF => ?_)
  · refine kg_icF hk_42 rfl (jc_F1 cz7) rfl ?_
    refine kg_push (x := 1) hk_42 rfl (by decide) rfl ?_
    have hF := Option.some.inj hF
    exact kg_iret hk_42 rfl (Or.inr rfl) (hX0 _ hF.symm)
  · refine kg_icT hk_42 rfl (jc_T1 cz7) ?_
    refine kg_aload hk_42 rfl rfl rfl ?_
    refine kg_dup hk_42 rfl rfl rfl ?_
    refine kg_get (v := .int (h 17 2)) hk_42 rfl wk_17_2 rfl rfl ?_
    refine kg_push (x := 1) hk_42 rfl (by decide) rfl ?_
    refine kg_bin (z := ((h 17 2) + 1)) hk_42 rfl rfl rfl ?_
    refine wf_let hF (fun hz8 hhz8 hF => ?_)
    refine kg_put hk_42 rfl wk_17_2 rfl rfl hhz8 rfl ?_
    refine kg_aload hk_42 rfl rfl rfl ?_
    refine kg_iload hk_42 rfl rfl rfl ?_
    refine wf_bind hF (fun vz9 hvz9 hF => ?_)
    refine kg_call (as := [.ref (17 + 1), .int x1]) (rest := []) hk_42 rfl (Or.inr (Or.inr (Or.inr ⟨Or.inl rfl, _, _, rfl, wc_17⟩))) rfl rfl rfl (Nat.not_lt.mpr (Nat.le_of_ble_eq_true rfl)) (hR0 _ _ _ _ hvz9) (Nat.le_refl _) rfl ?_
    refine wf_if hF (fun cz10 hF => ?_) (fun cz10 hF => ?_)
    · refine kg_ifF hk_42 rfl (jc_F1 cz10) rfl ?_
      refine kg_push (x := 0) hk_42 rfl (by decide) rfl ?_
      have hF := Option.some.inj hF
      exact kg_iret hk_42 rfl (Or.inr rfl) (hX0 _ hF.symm)
    · refine kg_ifT hk_42 rfl (jc_T1 cz10) ?_
      refine kg_aload hk_42 rfl rfl rfl ?_
      refine wf_gd hF (fun gz11 hF => ?_)
      refine kg_get (v := .ref (24 + 1)) hk_42 rfl wk_17_1 (by rw [beq_iff_eq.mp gz11]; rfl) rfl ?_
      refine kg_iload hk_42 rfl rfl rfl ?_
      refine kg_push (x := 0) hk_42 rfl (by decide) rfl ?_
      refine kg_aload hk_42 rfl rfl rfl ?_
      refine kg_get (v := .int (vz9.2 17 3)) hk_42 rfl wk_17_3 rfl rfl ?_
      refine wf_bind hF (fun vz12 hvz12 hF => ?_)
      refine kg_call (as := [.ref (24 + 1), .int s0, .int 0, .int (vz9.2 17 3)]) (rest := []) hk_42 rfl (Or.inr (Or.inr (Or.inr ⟨Or.inl rfl, _, _, rfl, wc_24⟩))) rfl rfl rfl (Nat.not_lt.mpr (Nat.le_of_ble_eq_true rfl)) (p_10_ok wc_24 hvz12) (Nat.le_trans (by decide) hD) rfl ?_
      refine kg_iinc (y := (x2 + 1)) (L2 := [.ref (17 + 1), .int x1, .int (x2 + 1), .int s0]) hk_42 rfl rfl rfl rfl rfl ?_
      refine kg_goto hk_42 rfl ?_
      have hF := Option.some.inj hF
      exact hK _ hF.symm _
def l_42_8 (R : Nat → Int32 → Hp → Option (Int32 × Hp)) (x1 : Int32) (x2 : Int32) (h : Hp) : Option ((Int32 × Hp) ⊕ Int32 × Hp) :=
  if x2 < 40 then
    (w_gd (w_tag (h 17 0).toNatClampNeg == 7 && 7 != 999) <|
    w_gd (g_58 h ((h 17 0).toNatClampNeg) (h 17 2)) <|
    if (v_58 h ((h 17 0).toNatClampNeg) (h 17 2)) = 43 then
      (q_42_30 R h x1 x2 4)
    else
      (w_gd (w_tag (h 17 0).toNatClampNeg == 7 && 7 != 999) <|
      w_gd (g_58 h ((h 17 0).toNatClampNeg) (h 17 2)) <|
      q_42_30 R h x1 x2 (if (v_58 h ((h 17 0).toNatClampNeg) (h 17 2)) = 45 then 5 else (-1) : Int32)))
  else
    (some (.inr (1, h)))
theorem l_42_8_st {X : List Int32} {o : kO} {D : Nat} {R : Nat → Int32 → Hp → Option (Int32 × Hp)} (hD : 3 ≤ D) (hR0 : ∀ w d h r, R w d h = some r → k_Ev X D w [.ref (17 + 1), .int d] h (.inl (some (.int r.1)), r.2)) {h : Hp} {x1 : Int32} {x2 : Int32}  {r : (Int32 × Hp) ⊕ Int32 × Hp} (hF : l_42_8 R x1 x2 h = some r) (hK : ∀ s' : Int32 × Hp, r = .inl s' → ∀ (u3 : Value), k_Go X (D + 1) 42 (8, [.ref (17 + 1), .int x1, .int (s'.1), u3], []) s'.2 o) (hX0 : ∀ e : Int32 × Hp, r = .inr e → (.inl (some (.int e.1)), e.2) = o) : ∀ (u3 : Value), k_Go X (D + 1) 42 (8, [.ref (17 + 1), .int x1, .int x2, u3], []) h o := by
  intro u3
  refine kg_iload hk_42 rfl rfl rfl ?_
  refine kg_push (x := 40) hk_42 rfl (by decide) rfl ?_
  refine wf_if hF (fun cz3 hF => ?_) (fun cz3 hF => ?_)
  · refine kg_icF hk_42 rfl (jc_F3 cz3) rfl ?_
    refine kg_aload hk_42 rfl rfl rfl ?_
    refine wf_gd hF (fun gz4 hF => ?_)
    refine kg_get (v := .ref (((h 17 0).toNatClampNeg) + 1)) hk_42 rfl wk_17_0 rfl rfl ?_
    refine kg_aload hk_42 rfl rfl rfl ?_
    refine kg_get (v := .int (h 17 2)) hk_42 rfl wk_17_2 rfl rfl ?_
    refine wf_gd hF (fun gz5 hF => ?_)
    refine kg_call (as := [.ref (((h 17 0).toNatClampNeg) + 1), .int (h 17 2)]) (rest := []) hk_42 rfl (Or.inr (Or.inr (Or.inr ⟨Or.inl rfl, _, _, rfl, (w_tagE gz4)⟩))) rfl rfl rfl (Nat.not_lt.mpr (Nat.le_of_ble_eq_true rfl)) (v_58_ok (w_tagE gz4) gz5) (Nat.le_trans (by decide) hD) rfl ?_
    refine kg_push (x := 43) hk_42 rfl (by decide) rfl ?_
    refine wf_if hF (fun cz6 hF => ?_) (fun cz6 hF => ?_)
    · refine kg_icF hk_42 rfl (jc_F1 cz6) rfl ?_
      refine kg_push (x := 4) hk_42 rfl (by decide) rfl ?_
      refine kg_goto hk_42 rfl ?_
      exact q_42_30_ok hD hR0 hF hK hX0 _
    · refine kg_icT hk_42 rfl (jc_T1 cz6) ?_
      refine kg_aload hk_42 rfl rfl rfl ?_
      refine wf_gd hF (fun gz13 hF => ?_)
      refine kg_get (v := .ref (((h 17 0).toNatClampNeg) + 1)) hk_42 rfl wk_17_0 rfl rfl ?_
      refine kg_aload hk_42 rfl rfl rfl ?_
      refine kg_get (v := .int (h 17 2)) hk_42 rfl wk_17_2 rfl rfl ?_
      refine wf_gd hF (fun gz14 hF => ?_)
      refine kg_call (as := [.ref (((h 17 0).toNatClampNeg) + 1), .int (h 17 2)]) (rest := []) hk_42 rfl (Or.inr (Or.inr (Or.inr ⟨Or.inl rfl, _, _, rfl, (w_tagE gz13)⟩))) rfl rfl rfl (Nat.not_lt.mpr (Nat.le_of_ble_eq_true rfl)) (v_58_ok (w_tagE gz13) gz14) (Nat.le_trans (by decide) hD) rfl ?_
      refine kg_push (x := 45) hk_42 rfl (by decide) rfl ?_
      refine kv_mid (p := 30) (L := [.ref (17 + 1), .int x1, .int x2, u3]) (S := [.int (if (v_58 h ((h 17 0).toNatClampNeg) (h 17 2)) = 45 then 5 else (-1) : Int32)]) ?_ (fun hK => ?_)
      · exact q_42_30_ok hD hR0 hF hK hX0 _
      · by_cases cz15 : (v_58 h ((h 17 0).toNatClampNeg) (h 17 2)) = 45
        · have hK := kv_T cz15 hK
          refine kg_icF hk_42 rfl (jc_F1 cz15) rfl ?_
          refine kg_push (x := 5) hk_42 rfl (by decide) rfl ?_
          refine kg_goto hk_42 rfl ?_
          exact hK
        · have hK := kv_F cz15 hK
          refine kg_icT hk_42 rfl (jc_T1 cz15) ?_
          refine kg_push (x := (-1)) hk_42 rfl (by decide) rfl ?_
          exact hK
  · refine kg_icT hk_42 rfl (jc_T3 cz3) ?_
    refine kg_push (x := 1) hk_42 rfl (by decide) rfl ?_
    have hF := Option.some.inj hF
    exact kg_iret hk_42 rfl (Or.inr rfl) (hX0 _ hF.symm)
theorem l_42_8_ok {X : List Int32} {o : kO} {D : Nat} {R : Nat → Int32 → Hp → Option (Int32 × Hp)} (hD : 3 ≤ D) (hR0 : ∀ w d h r, R w d h = some r → k_Ev X D w [.ref (17 + 1), .int d] h (.inl (some (.int r.1)), r.2)) {x1 : Int32}  {n : Nat} {s : Int32 × Hp} {e : Int32 × Hp} (hF : w_lp (fun (s : Int32 × Hp) => l_42_8 R x1 s.1 s.2) n s = some e) (hX0 : (.inl (some (.int e.1)), e.2) = o) : ∀ (u3 : Value), k_Go X (D + 1) 42 (8, [.ref (17 + 1), .int x1, .int s.1, u3], []) s.2 o := by
  exact w_lp_ok (P := (fun (s : Int32 × Hp) => ∀ (u3 : Value), k_Go X (D + 1) 42 (8, [.ref (17 + 1), .int x1, .int s.1, u3], []) s.2 o)) (Q := (fun (e : Int32 × Hp) => ((.inl (some (.int e.1)), e.2) = o))) (fun s r hF hK hX => l_42_8_st hD hR0 hF hK (fun x hx => (hX _ hx))) n s e hF hX0
def p_42 (R : Nat → Int32 → Hp → Option (Int32 × Hp)) (h : Hp) (x1 : Int32) : Option (Int32 × Hp) :=
  (R 43 x1 h).bind fun vz1 =>
  if vz1.1 = 0 then
    (some (0, vz1.2))
  else
    (w_lp (fun (s : Int32 × Hp) => l_42_8 R x1 s.1 s.2) w_N (0, vz1.2))
theorem p_42_ok {X : List Int32} {D : Nat} {R : Nat → Int32 → Hp → Option (Int32 × Hp)} (hD : 3 ≤ D) (hR0 : ∀ w d h r, R w d h = some r → k_Ev X D w [.ref (17 + 1), .int d] h (.inl (some (.int r.1)), r.2)) {h : Hp} {x1 : Int32}  {r : Int32 × Hp} (hF : p_42 R h x1 = some r) : k_Ev X (D + 1) 42 [.ref (17 + 1), .int x1] h (.inl (some (.int r.1)), r.2) := by
  refine k_of hk_42 ?_
  show k_Go X (D + 1) 42 (0, [.ref (17 + 1), .int x1, (.retAddr 0), (.retAddr 0)], []) h _
  unfold p_42 at hF
  refine kg_aload hk_42 rfl rfl rfl ?_
  refine kg_iload hk_42 rfl rfl rfl ?_
  refine wf_bind hF (fun vz1 hvz1 hF => ?_)
  refine kg_call (as := [.ref (17 + 1), .int x1]) (rest := []) hk_42 rfl (Or.inr (Or.inr (Or.inr ⟨Or.inl rfl, _, _, rfl, wc_17⟩))) rfl rfl rfl (Nat.not_lt.mpr (Nat.le_of_ble_eq_true rfl)) (hR0 _ _ _ _ hvz1) (Nat.le_refl _) rfl ?_
  refine wf_if hF (fun cz2 hF => ?_) (fun cz2 hF => ?_)
  · refine kg_ifF hk_42 rfl (jc_F1 cz2) rfl ?_
    refine kg_push (x := 0) hk_42 rfl (by decide) rfl ?_
    have hF := Option.some.inj hF
    subst hF
    exact kg_iret hk_42 rfl (Or.inr rfl) rfl
  · refine kg_ifT hk_42 rfl (jc_T1 cz2) ?_
    refine kg_push (x := 0) hk_42 rfl (by decide) rfl ?_
    refine kg_istore (L2 := [.ref (17 + 1), .int x1, .int 0, (.retAddr 0)]) hk_42 rfl (Nat.le_of_ble_eq_true rfl) rfl rfl ?_
    exact l_42_8_ok hD hR0 hF rfl _
def w_R : Nat := 250
def p_R : Nat → Nat → Int32 → Hp → Option (Int32 × Hp)
  | 0, _, _, _ => none
  | n + 1, w, d, h => if w = 42 then p_42 (p_R n) h d else if w = 43 then p_43 (p_R n) h d else if w = 44 then p_44 (p_R n) h d else if w = 45 then p_45 (p_R n) h d else if w = 47 then p_47 (p_R n) h d else none
theorem p_R_ok {X : List Int32} : ∀ (n w : Nat) (d : Int32) (h : Hp) (r : Int32 × Hp), p_R n w d h = some r → k_Ev X (n + 3) w [.ref (17 + 1), .int d] h (.inl (some (.int r.1)), r.2) := by
  intro n
  induction n with
  | zero => intro w d h r hF; cases hF
  | succ n ih =>
    intro w d h r hF
    unfold p_R at hF
    refine wf_if hF (fun hw hF => ?_) (fun hw hF => ?_)
    · subst hw; exact k_e_up (p_42_ok (D := n + 3) (by omega) ih hF) (by omega)
    refine wf_if hF (fun hw hF => ?_) (fun hw hF => ?_)
    · subst hw; exact k_e_up (p_43_ok (D := n + 3) (by omega) ih hF) (by omega)
    refine wf_if hF (fun hw hF => ?_) (fun hw hF => ?_)
    · subst hw; exact k_e_up (p_44_ok (D := n + 3) (by omega) ih hF) (by omega)
    refine wf_if hF (fun hw hF => ?_) (fun hw hF => ?_)
    · subst hw; exact k_e_up (p_45_ok (D := n + 3) (by omega) ih hF) (by omega)
    refine wf_if hF (fun hw hF => ?_) (fun hw hF => ?_)
    · subst hw; exact k_e_up (p_47_ok (D := n + 3) (by omega) ih hF) (by omega)
    cases hF
-- NotebookWeir$Reader.readStatement()Z
theorem hk_40 : jP[40]? = some (jc_40, 3, [], []) := by rfl
def q_40_95 (h : Hp) (x2 : Int32) : Option (Int32 × Hp) :=
  w_let (w_up h 17 4 ((h 17 4) ||| (1 <<< (x2 &&& 31)))) fun hz18 =>
  some (1, hz18)
theorem q_40_95_ok {X : List Int32}   {h : Hp} {x2 : Int32}  {r : Int32 × Hp} (hF : q_40_95 h x2 = some r)  : ∀ (u1 : Value), k_Go X 254 40 (95, [.ref (17 + 1), u1, .int x2], []) h (.inl (some (.int r.1)), r.2) := by
  intro u1
  unfold q_40_95 at hF
  refine kg_aload hk_40 rfl rfl rfl ?_
  refine kg_dup hk_40 rfl rfl rfl ?_
  refine kg_get (v := .int (h 17 4)) hk_40 rfl wk_17_4 rfl rfl ?_
  refine kg_push (x := 1) hk_40 rfl (by decide) rfl ?_
  refine kg_iload hk_40 rfl rfl rfl ?_
  refine kg_bin (z := (1 <<< (x2 &&& 31))) hk_40 rfl rfl rfl ?_
  refine kg_bin (z := ((h 17 4) ||| (1 <<< (x2 &&& 31)))) hk_40 rfl rfl rfl ?_
  refine wf_let hF (fun hz18 hhz18 hF => ?_)
  refine kg_put hk_40 rfl wk_17_4 rfl rfl hhz18 rfl ?_
  refine kg_push (x := 1) hk_40 rfl (by decide) rfl ?_
  have hF := Option.some.inj hF
  subst hF
  exact kg_iret hk_40 rfl (Or.inr rfl) rfl
def q_40_59 (h : Hp) (x1 : Int32) (x2 : Int32) : Option (Int32 × Hp) :=
  (p_R w_R 42 0 h).bind fun vz11 =>
  if vz11.1 = 0 then
    (some (0, vz11.2))
  else
    (if x1 = 61 then
      (w_gd ((vz11.2 17 1) == 24) <|
      (p_10 vz11.2 24 12 x2 (vz11.2 17 3)).bind fun vz15 =>
      w_gd ((vz15 17 1) == 24) <|
      w_let (w_up vz15 24 5 ((vz15 24 5) ||| (1 <<< (x2 &&& 31)))) fun hz17 =>
      q_40_95 hz17 x2)
    else
      (w_gd ((vz11.2 17 1) == 24) <|
      (p_10 vz11.2 24 13 x2 (vz11.2 17 3)).bind fun vz20 =>
      (p_41 vz20 x2).bind fun vz21 =>
      q_40_95 vz21 x2))
theorem q_40_59_ok {X : List Int32}   {h : Hp} {x1 : Int32} {x2 : Int32}  {r : Int32 × Hp} (hF : q_40_59 h x1 x2 = some r)  : k_Go X 254 40 (59, [.ref (17 + 1), .int x1, .int x2], []) h (.inl (some (.int r.1)), r.2) := by
  unfold q_40_59 at hF
  refine kg_aload hk_40 rfl rfl rfl ?_
  refine kg_push (x := 0) hk_40 rfl (by decide) rfl ?_
  refine wf_bind hF (fun vz11 hvz11 hF => ?_)
  refine kg_call (as := [.ref (17 + 1), .int 0]) (rest := []) hk_40 rfl (Or.inr (Or.inr (Or.inr ⟨Or.inl rfl, _, _, rfl, wc_17⟩))) rfl rfl rfl (Nat.not_lt.mpr (Nat.le_of_ble_eq_true rfl)) (p_R_ok _ _ _ _ _ hvz11) (by decide) rfl ?_
  refine wf_if hF (fun cz12 hF => ?_) (fun cz12 hF => ?_)
  · refine kg_ifF hk_40 rfl (jc_F1 cz12) rfl ?_
    refine kg_push (x := 0) hk_40 rfl (by decide) rfl ?_
    have hF := Option.some.inj hF
    subst hF
    exact kg_iret hk_40 rfl (Or.inr rfl) rfl
  · refine kg_ifT hk_40 rfl (jc_T1 cz12) ?_
    refine kg_iload hk_40 rfl rfl rfl ?_
    refine kg_push (x := 61) hk_40 rfl (by decide) rfl ?_
    refine wf_if hF (fun cz13 hF => ?_) (fun cz13 hF => ?_)
    · refine kg_icF hk_40 rfl (jc_F1 cz13) rfl ?_
      refine kg_aload hk_40 rfl rfl rfl ?_
      refine wf_gd hF (fun gz14 hF => ?_)
      refine kg_get (v := .ref (24 + 1)) hk_40 rfl wk_17_1 (by rw [beq_iff_eq.mp gz14]; rfl) rfl ?_
      refine kg_push (x := 12) hk_40 rfl (by decide) rfl ?_
      refine kg_iload hk_40 rfl rfl rfl ?_
      refine kg_aload hk_40 rfl rfl rfl ?_
      refine kg_get (v := .int (vz11.2 17 3)) hk_40 rfl wk_17_3 rfl rfl ?_
      refine wf_bind hF (fun vz15 hvz15 hF => ?_)
      refine kg_call (as := [.ref (24 + 1), .int 12, .int x2, .int (vz11.2 17 3)]) (rest := []) hk_40 rfl (Or.inr (Or.inr (Or.inr ⟨Or.inl rfl, _, _, rfl, wc_24⟩))) rfl rfl rfl (Nat.not_lt.mpr (Nat.le_of_ble_eq_true rfl)) (p_10_ok wc_24 hvz15) (by decide) rfl ?_
      refine kg_aload hk_40 rfl rfl rfl ?_
      refine wf_gd hF (fun gz16 hF => ?_)
      refine kg_get (v := .ref (24 + 1)) hk_40 rfl wk_17_1 (by rw [beq_iff_eq.mp gz16]; rfl) rfl ?_
      refine kg_dup hk_40 rfl rfl rfl ?_
      refine kg_get (v := .int (vz15 24 5)) hk_40 rfl wk_24_5 rfl rfl ?_
      refine kg_push (x := 1) hk_40 rfl (by decide) rfl ?_
      refine kg_iload hk_40 rfl rfl rfl ?_
      refine kg_bin (z := (1 <<< (x2 &&& 31))) hk_40 rfl rfl rfl ?_
      refine kg_bin (z := ((vz15 24 5) ||| (1 <<< (x2 &&& 31)))) hk_40 rfl rfl rfl ?_
      refine wf_let hF (fun hz17 hhz17 hF => ?_)
      refine kg_put hk_40 rfl wk_24_5 rfl rfl hhz17 rfl ?_
      refine kg_goto hk_40 rfl ?_
      exact q_40_95_ok hF _
    · refine kg_icT hk_40 rfl (jc_T1 cz13) ?_
      refine kg_aload hk_40 rfl rfl rfl ?_
      refine wf_gd hF (fun gz19 hF => ?_)
      refine kg_get (v := .ref (24 + 1)) hk_40 rfl wk_17_1 (by rw [beq_iff_eq.mp gz19]; rfl) rfl ?_
      refine kg_push (x := 13) hk_40 rfl (by decide) rfl ?_
      refine kg_iload hk_40 rfl rfl rfl ?_
      refine kg_aload hk_40 rfl rfl rfl ?_
      refine kg_get (v := .int (vz11.2 17 3)) hk_40 rfl wk_17_3 rfl rfl ?_
      refine wf_bind hF (fun vz20 hvz20 hF => ?_)
      refine kg_call (as := [.ref (24 + 1), .int 13, .int x2, .int (vz11.2 17 3)]) (rest := []) hk_40 rfl (Or.inr (Or.inr (Or.inr ⟨Or.inl rfl, _, _, rfl, wc_24⟩))) rfl rfl rfl (Nat.not_lt.mpr (Nat.le_of_ble_eq_true rfl)) (p_10_ok wc_24 hvz20) (by decide) rfl ?_
      refine kg_aload hk_40 rfl rfl rfl ?_
      refine kg_iload hk_40 rfl rfl rfl ?_
      refine wf_bind hF (fun vz21 hvz21 hF => ?_)
      refine kg_call (as := [.ref (17 + 1), .int x2]) (rest := []) hk_40 rfl (Or.inr (Or.inr (Or.inr ⟨Or.inl rfl, _, _, rfl, wc_17⟩))) rfl rfl rfl (Nat.not_lt.mpr (Nat.le_of_ble_eq_true rfl)) (p_41_ok hvz21) (by decide) rfl ?_
      exact q_40_95_ok hF _
def q_40_40 (h : Hp) (x1 : Int32) : Option (Int32 × Hp) :=
  (p_37 h).bind fun vz6 =>
  w_let (w_up vz6.2 17 2 ((vz6.2 17 2) + 1)) fun hz7 =>
  if x1 = 33 then
    (w_gd ((hz7 17 1) == 24) <|
    (p_10 hz7 24 11 vz6.1 (hz7 17 3)).bind fun vz10 =>
    q_40_59 vz10 x1 vz6.1)
  else
    (q_40_59 hz7 x1 vz6.1)
theorem q_40_40_ok {X : List Int32}   {h : Hp} {x1 : Int32}  {r : Int32 × Hp} (hF : q_40_40 h x1 = some r)  : ∀ (u2 : Value), k_Go X 254 40 (40, [.ref (17 + 1), .int x1, u2], []) h (.inl (some (.int r.1)), r.2) := by
  intro u2
  unfold q_40_40 at hF
  refine kg_aload hk_40 rfl rfl rfl ?_
  refine wf_bind hF (fun vz6 hvz6 hF => ?_)
  refine kg_call (as := [.ref (17 + 1)]) (rest := []) hk_40 rfl (Or.inr (Or.inr (Or.inr ⟨Or.inl rfl, _, _, rfl, wc_17⟩))) rfl rfl rfl (Nat.not_lt.mpr (Nat.le_of_ble_eq_true rfl)) (p_37_ok hvz6) (by decide) rfl ?_
  refine kg_istore (L2 := [.ref (17 + 1), .int x1, .int vz6.1]) hk_40 rfl (Nat.le_of_ble_eq_true rfl) rfl rfl ?_
  refine kg_aload hk_40 rfl rfl rfl ?_
  refine kg_dup hk_40 rfl rfl rfl ?_
  refine kg_get (v := .int (vz6.2 17 2)) hk_40 rfl wk_17_2 rfl rfl ?_
  refine kg_push (x := 1) hk_40 rfl (by decide) rfl ?_
  refine kg_bin (z := ((vz6.2 17 2) + 1)) hk_40 rfl rfl rfl ?_
  refine wf_let hF (fun hz7 hhz7 hF => ?_)
  refine kg_put hk_40 rfl wk_17_2 rfl rfl hhz7 rfl ?_
  refine kg_iload hk_40 rfl rfl rfl ?_
  refine kg_push (x := 33) hk_40 rfl (by decide) rfl ?_
  refine wf_if hF (fun cz8 hF => ?_) (fun cz8 hF => ?_)
  · refine kg_icF hk_40 rfl (jc_F1 cz8) rfl ?_
    refine kg_aload hk_40 rfl rfl rfl ?_
    refine wf_gd hF (fun gz9 hF => ?_)
    refine kg_get (v := .ref (24 + 1)) hk_40 rfl wk_17_1 (by rw [beq_iff_eq.mp gz9]; rfl) rfl ?_
    refine kg_push (x := 11) hk_40 rfl (by decide) rfl ?_
    refine kg_iload hk_40 rfl rfl rfl ?_
    refine kg_aload hk_40 rfl rfl rfl ?_
    refine kg_get (v := .int (hz7 17 3)) hk_40 rfl wk_17_3 rfl rfl ?_
    refine wf_bind hF (fun vz10 hvz10 hF => ?_)
    refine kg_call (as := [.ref (24 + 1), .int 11, .int vz6.1, .int (hz7 17 3)]) (rest := []) hk_40 rfl (Or.inr (Or.inr (Or.inr ⟨Or.inl rfl, _, _, rfl, wc_24⟩))) rfl rfl rfl (Nat.not_lt.mpr (Nat.le_of_ble_eq_true rfl)) (p_10_ok wc_24 hvz10) (by decide) rfl ?_
    exact q_40_59_ok hF
  · refine kg_icT hk_40 rfl (jc_T1 cz8) ?_
    exact q_40_59_ok hF
def q_40_20 (h : Hp) (s0 : Int32) : Option (Int32 × Hp) :=
  if s0 = 61 then
    (q_40_40 h s0)
  else
    (if s0 = 33 then
      (q_40_40 h s0)
    else
      ((p_R w_R 42 0 h).bind fun vz23 =>
      w_gd ((vz23.2 17 1) == 24) <|
      (p_10 vz23.2 24 14 0 (vz23.2 17 3)).bind fun vz25 =>
      w_gd (w_bo vz23.1) <|
      some (vz23.1, vz25)))
theorem q_40_20_ok {X : List Int32}   {h : Hp} {s0 : Int32}  {r : Int32 × Hp} (hF : q_40_20 h s0 = some r)  : ∀ (u1 : Value) (u2 : Value), k_Go X 254 40 (20, [.ref (17 + 1), u1, u2], [.int s0]) h (.inl (some (.int r.1)), r.2) := by
  intro u1 u2
  unfold q_40_20 at hF
  refine kg_istore (L2 := [.ref (17 + 1), .int s0, u2]) hk_40 rfl (Nat.le_of_ble_eq_true rfl) rfl rfl ?_
  refine kg_iload hk_40 rfl rfl rfl ?_
  refine kg_push (x := 61) hk_40 rfl (by decide) rfl ?_
  refine wf_if hF (fun cz5 hF => ?_) (fun cz5 hF => ?_)
  · refine kg_icT hk_40 rfl (jc_T0 cz5) ?_
    exact q_40_40_ok hF _
  · refine kg_icF hk_40 rfl (jc_F0 cz5) rfl ?_
    refine kg_iload hk_40 rfl rfl rfl ?_
    refine kg_push (x := 33) hk_40 rfl (by decide) rfl ?_
    refine wf_if hF (fun cz22 hF => ?_) (fun cz22 hF => ?_)
    · refine kg_icT hk_40 rfl (jc_T0 cz22) ?_
      exact q_40_40_ok hF _
    · refine kg_icF hk_40 rfl (jc_F0 cz22) rfl ?_
      refine kg_aload hk_40 rfl rfl rfl ?_
      refine kg_push (x := 0) hk_40 rfl (by decide) rfl ?_
      refine wf_bind hF (fun vz23 hvz23 hF => ?_)
      refine kg_call (as := [.ref (17 + 1), .int 0]) (rest := []) hk_40 rfl (Or.inr (Or.inr (Or.inr ⟨Or.inl rfl, _, _, rfl, wc_17⟩))) rfl rfl rfl (Nat.not_lt.mpr (Nat.le_of_ble_eq_true rfl)) (p_R_ok _ _ _ _ _ hvz23) (by decide) rfl ?_
      refine kg_istore (L2 := [.ref (17 + 1), .int s0, .int vz23.1]) hk_40 rfl (Nat.le_of_ble_eq_true rfl) rfl rfl ?_
      refine kg_aload hk_40 rfl rfl rfl ?_
      refine wf_gd hF (fun gz24 hF => ?_)
      refine kg_get (v := .ref (24 + 1)) hk_40 rfl wk_17_1 (by rw [beq_iff_eq.mp gz24]; rfl) rfl ?_
      refine kg_push (x := 14) hk_40 rfl (by decide) rfl ?_
      refine kg_push (x := 0) hk_40 rfl (by decide) rfl ?_
      refine kg_aload hk_40 rfl rfl rfl ?_
      refine kg_get (v := .int (vz23.2 17 3)) hk_40 rfl wk_17_3 rfl rfl ?_
      refine wf_bind hF (fun vz25 hvz25 hF => ?_)
      refine kg_call (as := [.ref (24 + 1), .int 14, .int 0, .int (vz23.2 17 3)]) (rest := []) hk_40 rfl (Or.inr (Or.inr (Or.inr ⟨Or.inl rfl, _, _, rfl, wc_24⟩))) rfl rfl rfl (Nat.not_lt.mpr (Nat.le_of_ble_eq_true rfl)) (p_10_ok wc_24 hvz25) (by decide) rfl ?_
      refine kg_iload hk_40 rfl rfl rfl ?_
      refine wf_gd hF (fun gz26 hF => ?_)
      have hF := Option.some.inj hF
      subst hF
      exact kg_iret hk_40 rfl (Or.inr gz26) rfl
def p_40 (h : Hp) : Option (Int32 × Hp) :=
  w_let (w_up h 17 3 (h 17 2)) fun hz1 =>
  w_gd (w_tag (hz1 17 0).toNatClampNeg == 7 && 7 != 999) <|
  w_gd (g_58 hz1 ((hz1 17 0).toNatClampNeg) (hz1 17 2)) <|
  if (v_123 (v_58 hz1 ((hz1 17 0).toNatClampNeg) (hz1 17 2))) = 0 then
    (q_40_20 hz1 (-1))
  else
    (w_gd (w_tag (hz1 17 0).toNatClampNeg == 7 && 7 != 999) <|
    w_gd (g_58 hz1 ((hz1 17 0).toNatClampNeg) ((hz1 17 2) + 1)) <|
    q_40_20 hz1 (v_58 hz1 ((hz1 17 0).toNatClampNeg) ((hz1 17 2) + 1)))
theorem p_40_ok {X : List Int32}  {h : Hp}   {r : Int32 × Hp} (hF : p_40 h = some r) : k_Ev X 254 40 [.ref (17 + 1)] h (.inl (some (.int r.1)), r.2) := by
  refine k_of hk_40 ?_
  show k_Go X 254 40 (0, [.ref (17 + 1), (.retAddr 0), (.retAddr 0)], []) h _
  unfold p_40 at hF
  refine kg_aload hk_40 rfl rfl rfl ?_
  refine kg_aload hk_40 rfl rfl rfl ?_
  refine kg_get (v := .int (h 17 2)) hk_40 rfl wk_17_2 rfl rfl ?_
  refine wf_let hF (fun hz1 hhz1 hF => ?_)
  refine kg_put hk_40 rfl wk_17_3 rfl rfl hhz1 rfl ?_
  refine kg_aload hk_40 rfl rfl rfl ?_
  refine wf_gd hF (fun gz2 hF => ?_)
  refine kg_get (v := .ref (((hz1 17 0).toNatClampNeg) + 1)) hk_40 rfl wk_17_0 rfl rfl ?_
  refine kg_aload hk_40 rfl rfl rfl ?_
  refine kg_get (v := .int (hz1 17 2)) hk_40 rfl wk_17_2 rfl rfl ?_
  refine wf_gd hF (fun gz3 hF => ?_)
  refine kg_call (as := [.ref (((hz1 17 0).toNatClampNeg) + 1), .int (hz1 17 2)]) (rest := []) hk_40 rfl (Or.inr (Or.inr (Or.inr ⟨Or.inl rfl, _, _, rfl, (w_tagE gz2)⟩))) rfl rfl rfl (Nat.not_lt.mpr (Nat.le_of_ble_eq_true rfl)) (v_58_ok (w_tagE gz2) gz3) (by decide) rfl ?_
  refine kg_call (as := [.int (v_58 hz1 ((hz1 17 0).toNatClampNeg) (hz1 17 2))]) (rest := []) hk_40 rfl (Or.inr (Or.inl rfl)) rfl rfl rfl (Nat.not_lt.mpr (Nat.le_of_ble_eq_true rfl)) (v_123_ok) (by decide) rfl ?_
  refine wf_if hF (fun cz4 hF => ?_) (fun cz4 hF => ?_)
  · refine kg_ifT hk_40 rfl (jc_T0 cz4) ?_
    refine kg_push (x := (-1)) hk_40 rfl (by decide) rfl ?_
    exact q_40_20_ok hF _ _
  · refine kg_ifF hk_40 rfl (jc_F0 cz4) rfl ?_
    refine kg_aload hk_40 rfl rfl rfl ?_
    refine wf_gd hF (fun gz27 hF => ?_)
    refine kg_get (v := .ref (((hz1 17 0).toNatClampNeg) + 1)) hk_40 rfl wk_17_0 rfl rfl ?_
    refine kg_aload hk_40 rfl rfl rfl ?_
    refine kg_get (v := .int (hz1 17 2)) hk_40 rfl wk_17_2 rfl rfl ?_
    refine kg_push (x := 1) hk_40 rfl (by decide) rfl ?_
    refine kg_bin (z := ((hz1 17 2) + 1)) hk_40 rfl rfl rfl ?_
    refine wf_gd hF (fun gz28 hF => ?_)
    refine kg_call (as := [.ref (((hz1 17 0).toNatClampNeg) + 1), .int ((hz1 17 2) + 1)]) (rest := []) hk_40 rfl (Or.inr (Or.inr (Or.inr ⟨Or.inl rfl, _, _, rfl, (w_tagE gz27)⟩))) rfl rfl rfl (Nat.not_lt.mpr (Nat.le_of_ble_eq_true rfl)) (v_58_ok (w_tagE gz27) gz28) (by decide) rfl ?_
    refine kg_goto hk_40 rfl ?_
    exact q_40_20_ok hF _ _
-- NotebookWeir$Reader.readStatements()Z
theorem hk_39 : jP[39]? = some (jc_39, 2, [], []) := by rfl
def l_39_2 (x1 : Int32) (h : Hp) : Option ((Int32 × Hp) ⊕ Int32 × Hp) :=
  if x1 < 40 then
    ((p_40 h).bind fun vz2 =>
    if vz2.1 = 0 then
      (some (.inr (0, vz2.2)))
    else
      ((p_36 vz2.2 59).bind fun vz4 =>
      if vz4.1 = 0 then
        (some (.inr (1, vz4.2)))
      else
        (some (.inl ((x1 + 1), vz4.2)))))
  else
    (some (.inr (0, h)))
theorem l_39_2_st {X : List Int32} {o : kO}  {h : Hp} {x1 : Int32}  {r : (Int32 × Hp) ⊕ Int32 × Hp} (hF : l_39_2 x1 h = some r) (hK : ∀ s' : Int32 × Hp, r = .inl s' → k_Go X 255 39 (2, [.ref (17 + 1), .int (s'.1)], []) s'.2 o) (hX0 : ∀ e : Int32 × Hp, r = .inr e → (.inl (some (.int e.1)), e.2) = o) : k_Go X 255 39 (2, [.ref (17 + 1), .int x1], []) h o := by
  refine kg_iload hk_39 rfl rfl rfl ?_
  refine kg_push (x := 40) hk_39 rfl (by decide) rfl ?_
  refine wf_if hF (fun cz1 hF => ?_) (fun cz1 hF => ?_)
  · refine kg_icF hk_39 rfl (jc_F3 cz1) rfl ?_
    refine kg_aload hk_39 rfl rfl rfl ?_
    refine wf_bind hF (fun vz2 hvz2 hF => ?_)
    refine kg_call (as := [.ref (17 + 1)]) (rest := []) hk_39 rfl (Or.inr (Or.inr (Or.inr ⟨Or.inl rfl, _, _, rfl, wc_17⟩))) rfl rfl rfl (Nat.not_lt.mpr (Nat.le_of_ble_eq_true rfl)) (p_40_ok hvz2) (by decide) rfl ?_
    refine wf_if hF (fun cz3 hF => ?_) (fun cz3 hF => ?_)
    · refine kg_ifF hk_39 rfl (jc_F1 cz3) rfl ?_
      refine kg_push (x := 0) hk_39 rfl (by decide) rfl ?_
      have hF := Option.some.inj hF
      exact kg_iret hk_39 rfl (Or.inr rfl) (hX0 _ hF.symm)
    · refine kg_ifT hk_39 rfl (jc_T1 cz3) ?_
      refine kg_aload hk_39 rfl rfl rfl ?_
      refine kg_push (x := 59) hk_39 rfl (by decide) rfl ?_
      refine wf_bind hF (fun vz4 hvz4 hF => ?_)
      refine kg_call (as := [.ref (17 + 1), .int 59]) (rest := []) hk_39 rfl (Or.inr (Or.inr (Or.inr ⟨Or.inl rfl, _, _, rfl, wc_17⟩))) rfl rfl rfl (Nat.not_lt.mpr (Nat.le_of_ble_eq_true rfl)) (p_36_ok hvz4) (by decide) rfl ?_
      refine wf_if hF (fun cz5 hF => ?_) (fun cz5 hF => ?_)
      · refine kg_ifF hk_39 rfl (jc_F1 cz5) rfl ?_
        refine kg_push (x := 1) hk_39 rfl (by decide) rfl ?_
        have hF := Option.some.inj hF
        exact kg_iret hk_39 rfl (Or.inr rfl) (hX0 _ hF.symm)
      · refine kg_ifT hk_39 rfl (jc_T1 cz5) ?_
        refine kg_iinc (y := (x1 + 1)) (L2 := [.ref (17 + 1), .int (x1 + 1)]) hk_39 rfl rfl rfl rfl rfl ?_
        refine kg_goto hk_39 rfl ?_
        have hF := Option.some.inj hF
        exact hK _ hF.symm
  · refine kg_icT hk_39 rfl (jc_T3 cz1) ?_
    refine kg_push (x := 0) hk_39 rfl (by decide) rfl ?_
    have hF := Option.some.inj hF
    exact kg_iret hk_39 rfl (Or.inr rfl) (hX0 _ hF.symm)
theorem l_39_2_ok {X : List Int32} {o : kO}    {n : Nat} {s : Int32 × Hp} {e : Int32 × Hp} (hF : w_lp (fun (s : Int32 × Hp) => l_39_2 s.1 s.2) n s = some e) (hX0 : (.inl (some (.int e.1)), e.2) = o) : k_Go X 255 39 (2, [.ref (17 + 1), .int s.1], []) s.2 o := by
  exact w_lp_ok (P := (fun (s : Int32 × Hp) => k_Go X 255 39 (2, [.ref (17 + 1), .int s.1], []) s.2 o)) (Q := (fun (e : Int32 × Hp) => ((.inl (some (.int e.1)), e.2) = o))) (fun s r hF hK hX => l_39_2_st hF hK (fun x hx => (hX _ hx))) n s e hF hX0
def p_39 (h : Hp) : Option (Int32 × Hp) :=
  w_lp (fun (s : Int32 × Hp) => l_39_2 s.1 s.2) w_N (0, h)
theorem p_39_ok {X : List Int32}  {h : Hp}   {r : Int32 × Hp} (hF : p_39 h = some r) : k_Ev X 255 39 [.ref (17 + 1)] h (.inl (some (.int r.1)), r.2) := by
  refine k_of hk_39 ?_
  show k_Go X 255 39 (0, [.ref (17 + 1), (.retAddr 0)], []) h _
  unfold p_39 at hF
  refine kg_push (x := 0) hk_39 rfl (by decide) rfl ?_
  refine kg_istore (L2 := [.ref (17 + 1), .int 0]) hk_39 rfl (Nat.le_of_ble_eq_true rfl) rfl rfl ?_
  exact l_39_2_ok hF rfl
-- NotebookWeir$Reader.readSummary()Z
theorem hk_49 : jP[49]? = some (jc_49, 1, [], []) := by rfl
def p_49 (h : Hp) : Option (Int32 × Hp) :=
  (p_36 h 115).bind fun vz1 =>
  if vz1.1 = 0 then
    ((p_36 vz1.2 99).bind fun vz3 =>
    if vz3.1 = 0 then
      ((p_36 vz3.2 109).bind fun vz5 =>
      if vz5.1 = 0 then
        ((p_36 vz5.2 108).bind fun vz7 =>
        w_gd (w_bo vz7.1) <|
        some (vz7.1, vz7.2))
      else
        (w_gd ((vz5.2 17 1) == 24) <|
        (p_10 vz5.2 24 19 0 (vz5.2 17 3)).bind fun vz10 =>
        some (1, vz10)))
    else
      (w_gd ((vz3.2 17 1) == 24) <|
      (p_10 vz3.2 24 8 0 (vz3.2 17 3)).bind fun vz12 =>
      some (1, vz12)))
  else
    (w_gd ((vz1.2 17 1) == 24) <|
    (p_10 vz1.2 24 18 0 (vz1.2 17 3)).bind fun vz14 =>
    some (1, vz14))
theorem p_49_ok {X : List Int32}  {h : Hp}   {r : Int32 × Hp} (hF : p_49 h = some r) : k_Ev X 2 49 [.ref (17 + 1)] h (.inl (some (.int r.1)), r.2) := by
  refine k_of hk_49 ?_
  show k_Go X 2 49 (0, [.ref (17 + 1)], []) h _
  unfold p_49 at hF
  refine kg_aload hk_49 rfl rfl rfl ?_
  refine kg_push (x := 115) hk_49 rfl (by decide) rfl ?_
  refine wf_bind hF (fun vz1 hvz1 hF => ?_)
  refine kg_call (as := [.ref (17 + 1), .int 115]) (rest := []) hk_49 rfl (Or.inr (Or.inr (Or.inr ⟨Or.inl rfl, _, _, rfl, wc_17⟩))) rfl rfl rfl (Nat.not_lt.mpr (Nat.le_of_ble_eq_true rfl)) (p_36_ok hvz1) (by decide) rfl ?_
  refine wf_if hF (fun cz2 hF => ?_) (fun cz2 hF => ?_)
  · refine kg_ifT hk_49 rfl (jc_T0 cz2) ?_
    refine kg_aload hk_49 rfl rfl rfl ?_
    refine kg_push (x := 99) hk_49 rfl (by decide) rfl ?_
    refine wf_bind hF (fun vz3 hvz3 hF => ?_)
    refine kg_call (as := [.ref (17 + 1), .int 99]) (rest := []) hk_49 rfl (Or.inr (Or.inr (Or.inr ⟨Or.inl rfl, _, _, rfl, wc_17⟩))) rfl rfl rfl (Nat.not_lt.mpr (Nat.le_of_ble_eq_true rfl)) (p_36_ok hvz3) (by decide) rfl ?_
    refine wf_if hF (fun cz4 hF => ?_) (fun cz4 hF => ?_)
    · refine kg_ifT hk_49 rfl (jc_T0 cz4) ?_
      refine kg_aload hk_49 rfl rfl rfl ?_
      refine kg_push (x := 109) hk_49 rfl (by decide) rfl ?_
      refine wf_bind hF (fun vz5 hvz5 hF => ?_)
      refine kg_call (as := [.ref (17 + 1), .int 109]) (rest := []) hk_49 rfl (Or.inr (Or.inr (Or.inr ⟨Or.inl rfl, _, _, rfl, wc_17⟩))) rfl rfl rfl (Nat.not_lt.mpr (Nat.le_of_ble_eq_true rfl)) (p_36_ok hvz5) (by decide) rfl ?_
      refine wf_if hF (fun cz6 hF => ?_) (fun cz6 hF => ?_)
      · refine kg_ifT hk_49 rfl (jc_T0 cz6) ?_
        refine kg_aload hk_49 rfl rfl rfl ?_
        refine kg_push (x := 108) hk_49 rfl (by decide) rfl ?_
        refine wf_bind hF (fun vz7 hvz7 hF => ?_)
        refine kg_call (as := [.ref (17 + 1), .int 108]) (rest := []) hk_49 rfl (Or.inr (Or.inr (Or.inr ⟨Or.inl rfl, _, _, rfl, wc_17⟩))) rfl rfl rfl (Nat.not_lt.mpr (Nat.le_of_ble_eq_true rfl)) (p_36_ok hvz7) (by decide) rfl ?_
        refine wf_gd hF (fun gz8 hF => ?_)
        have hF := Option.some.inj hF
        subst hF
        exact kg_iret hk_49 rfl (Or.inr gz8) rfl
      · refine kg_ifF hk_49 rfl (jc_F0 cz6) rfl ?_
        refine kg_aload hk_49 rfl rfl rfl ?_
        refine wf_gd hF (fun gz9 hF => ?_)
        refine kg_get (v := .ref (24 + 1)) hk_49 rfl wk_17_1 (by rw [beq_iff_eq.mp gz9]; rfl) rfl ?_
        refine kg_push (x := 19) hk_49 rfl (by decide) rfl ?_
        refine kg_push (x := 0) hk_49 rfl (by decide) rfl ?_
        refine kg_aload hk_49 rfl rfl rfl ?_
        refine kg_get (v := .int (vz5.2 17 3)) hk_49 rfl wk_17_3 rfl rfl ?_
        refine wf_bind hF (fun vz10 hvz10 hF => ?_)
        refine kg_call (as := [.ref (24 + 1), .int 19, .int 0, .int (vz5.2 17 3)]) (rest := []) hk_49 rfl (Or.inr (Or.inr (Or.inr ⟨Or.inl rfl, _, _, rfl, wc_24⟩))) rfl rfl rfl (Nat.not_lt.mpr (Nat.le_of_ble_eq_true rfl)) (p_10_ok wc_24 hvz10) (by decide) rfl ?_
        refine kg_push (x := 1) hk_49 rfl (by decide) rfl ?_
        have hF := Option.some.inj hF
        subst hF
        exact kg_iret hk_49 rfl (Or.inr rfl) rfl
    · refine kg_ifF hk_49 rfl (jc_F0 cz4) rfl ?_
      refine kg_aload hk_49 rfl rfl rfl ?_
      refine wf_gd hF (fun gz11 hF => ?_)
      refine kg_get (v := .ref (24 + 1)) hk_49 rfl wk_17_1 (by rw [beq_iff_eq.mp gz11]; rfl) rfl ?_
      refine kg_push (x := 8) hk_49 rfl (by decide) rfl ?_
      refine kg_push (x := 0) hk_49 rfl (by decide) rfl ?_
      refine kg_aload hk_49 rfl rfl rfl ?_
      refine kg_get (v := .int (vz3.2 17 3)) hk_49 rfl wk_17_3 rfl rfl ?_
      refine wf_bind hF (fun vz12 hvz12 hF => ?_)
      refine kg_call (as := [.ref (24 + 1), .int 8, .int 0, .int (vz3.2 17 3)]) (rest := []) hk_49 rfl (Or.inr (Or.inr (Or.inr ⟨Or.inl rfl, _, _, rfl, wc_24⟩))) rfl rfl rfl (Nat.not_lt.mpr (Nat.le_of_ble_eq_true rfl)) (p_10_ok wc_24 hvz12) (by decide) rfl ?_
      refine kg_push (x := 1) hk_49 rfl (by decide) rfl ?_
      have hF := Option.some.inj hF
      subst hF
      exact kg_iret hk_49 rfl (Or.inr rfl) rfl
  · refine kg_ifF hk_49 rfl (jc_F0 cz2) rfl ?_
    refine kg_aload hk_49 rfl rfl rfl ?_
    refine wf_gd hF (fun gz13 hF => ?_)
    refine kg_get (v := .ref (24 + 1)) hk_49 rfl wk_17_1 (by rw [beq_iff_eq.mp gz13]; rfl) rfl ?_
    refine kg_push (x := 18) hk_49 rfl (by decide) rfl ?_
    refine kg_push (x := 0) hk_49 rfl (by decide) rfl ?_
    refine kg_aload hk_49 rfl rfl rfl ?_
    refine kg_get (v := .int (vz1.2 17 3)) hk_49 rfl wk_17_3 rfl rfl ?_
    refine wf_bind hF (fun vz14 hvz14 hF => ?_)
    refine kg_call (as := [.ref (24 + 1), .int 18, .int 0, .int (vz1.2 17 3)]) (rest := []) hk_49 rfl (Or.inr (Or.inr (Or.inr ⟨Or.inl rfl, _, _, rfl, wc_24⟩))) rfl rfl rfl (Nat.not_lt.mpr (Nat.le_of_ble_eq_true rfl)) (p_10_ok wc_24 hvz14) (by decide) rfl ?_
    refine kg_push (x := 1) hk_49 rfl (by decide) rfl ?_
    have hF := Option.some.inj hF
    subst hF
    exact kg_iret hk_49 rfl (Or.inr rfl) rfl
-- NotebookWeir$Reader.readQuery()Z
theorem hk_48 : jP[48]? = some (jc_48, 6, [], []) := by rfl
def q_48_79 (h : Hp) (x1 : Int32) (s0 : Int32) (s1 : Int32) : Option (Int32 × Hp) :=
  (p_10 h 24 s1 s0 (h 17 3)).bind fun vz23 =>
  (p_49 vz23).bind fun vz24 =>
  if vz24.1 = 0 then
    (some (0, vz24.2))
  else
    (w_gd ((vz24.2 17 1) == 24) <|
    (p_10 vz24.2 24 12 x1 (vz24.2 17 3)).bind fun vz27 =>
    w_gd ((vz27 17 1) == 24) <|
    (p_10 vz27 24 1 x1 (vz27 17 3)).bind fun vz29 =>
    w_gd ((vz29 17 1) == 24) <|
    (p_10 vz29 24 14 0 (vz29 17 3)).bind fun vz31 =>
    w_gd ((vz31 17 1) == 24) <|
    w_let (w_up vz31 24 5 (1 <<< (x1 &&& 31))) fun hz33 =>
    some (1, hz33))
theorem q_48_79_ok {X : List Int32}   {h : Hp} {s0 : Int32} {s1 : Int32} {x1 : Int32}  {r : Int32 × Hp} (hF : q_48_79 h x1 s0 s1 = some r)  : ∀ (u2 : Value) (u3 : Value) (u4 : Value) (u5 : Value), k_Go X 3 48 (79, [.ref (17 + 1), .int x1, u2, u3, u4, u5], [.int s0, .int s1, .ref (24 + 1)]) h (.inl (some (.int r.1)), r.2) := by
  intro u2 u3 u4 u5
  unfold q_48_79 at hF
  refine kg_aload hk_48 rfl rfl rfl ?_
  refine kg_get (v := .int (h 17 3)) hk_48 rfl wk_17_3 rfl rfl ?_
  refine wf_bind hF (fun vz23 hvz23 hF => ?_)
  refine kg_call (as := [.ref (24 + 1), .int s1, .int s0, .int (h 17 3)]) (rest := []) hk_48 rfl (Or.inr (Or.inr (Or.inr ⟨Or.inl rfl, _, _, rfl, wc_24⟩))) rfl rfl rfl (Nat.not_lt.mpr (Nat.le_of_ble_eq_true rfl)) (p_10_ok wc_24 hvz23) (by decide) rfl ?_
  refine kg_aload hk_48 rfl rfl rfl ?_
  refine wf_bind hF (fun vz24 hvz24 hF => ?_)
  refine kg_call (as := [.ref (17 + 1)]) (rest := []) hk_48 rfl (Or.inr (Or.inr (Or.inr ⟨Or.inl rfl, _, _, rfl, wc_17⟩))) rfl rfl rfl (Nat.not_lt.mpr (Nat.le_of_ble_eq_true rfl)) (p_49_ok hvz24) (by decide) rfl ?_
  refine wf_if hF (fun cz25 hF => ?_) (fun cz25 hF => ?_)
  · refine kg_ifF hk_48 rfl (jc_F1 cz25) rfl ?_
    refine kg_push (x := 0) hk_48 rfl (by decide) rfl ?_
    have hF := Option.some.inj hF
    subst hF
    exact kg_iret hk_48 rfl (Or.inr rfl) rfl
  · refine kg_ifT hk_48 rfl (jc_T1 cz25) ?_
    refine kg_aload hk_48 rfl rfl rfl ?_
    refine wf_gd hF (fun gz26 hF => ?_)
    refine kg_get (v := .ref (24 + 1)) hk_48 rfl wk_17_1 (by rw [beq_iff_eq.mp gz26]; rfl) rfl ?_
    refine kg_push (x := 12) hk_48 rfl (by decide) rfl ?_
    refine kg_iload hk_48 rfl rfl rfl ?_
    refine kg_aload hk_48 rfl rfl rfl ?_
    refine kg_get (v := .int (vz24.2 17 3)) hk_48 rfl wk_17_3 rfl rfl ?_
    refine wf_bind hF (fun vz27 hvz27 hF => ?_)
    refine kg_call (as := [.ref (24 + 1), .int 12, .int x1, .int (vz24.2 17 3)]) (rest := []) hk_48 rfl (Or.inr (Or.inr (Or.inr ⟨Or.inl rfl, _, _, rfl, wc_24⟩))) rfl rfl rfl (Nat.not_lt.mpr (Nat.le_of_ble_eq_true rfl)) (p_10_ok wc_24 hvz27) (by decide) rfl ?_
    refine kg_aload hk_48 rfl rfl rfl ?_
    refine wf_gd hF (fun gz28 hF => ?_)
    refine kg_get (v := .ref (24 + 1)) hk_48 rfl wk_17_1 (by rw [beq_iff_eq.mp gz28]; rfl) rfl ?_
    refine kg_push (x := 1) hk_48 rfl (by decide) rfl ?_
    refine kg_iload hk_48 rfl rfl rfl ?_
    refine kg_aload hk_48 rfl rfl rfl ?_
    refine kg_get (v := .int (vz27 17 3)) hk_48 rfl wk_17_3 rfl rfl ?_
    refine wf_bind hF (fun vz29 hvz29 hF => ?_)
    refine kg_call (as := [.ref (24 + 1), .int 1, .int x1, .int (vz27 17 3)]) (rest := []) hk_48 rfl (Or.inr (Or.inr (Or.inr ⟨Or.inl rfl, _, _, rfl, wc_24⟩))) rfl rfl rfl (Nat.not_lt.mpr (Nat.le_of_ble_eq_true rfl)) (p_10_ok wc_24 hvz29) (by decide) rfl ?_
    refine kg_aload hk_48 rfl rfl rfl ?_
    refine wf_gd hF (fun gz30 hF => ?_)
    refine kg_get (v := .ref (24 + 1)) hk_48 rfl wk_17_1 (by rw [beq_iff_eq.mp gz30]; rfl) rfl ?_
    refine kg_push (x := 14) hk_48 rfl (by decide) rfl ?_
    refine kg_push (x := 0) hk_48 rfl (by decide) rfl ?_
    refine kg_aload hk_48 rfl rfl rfl ?_
    refine kg_get (v := .int (vz29 17 3)) hk_48 rfl wk_17_3 rfl rfl ?_
    refine wf_bind hF (fun vz31 hvz31 hF => ?_)
    refine kg_call (as := [.ref (24 + 1), .int 14, .int 0, .int (vz29 17 3)]) (rest := []) hk_48 rfl (Or.inr (Or.inr (Or.inr ⟨Or.inl rfl, _, _, rfl, wc_24⟩))) rfl rfl rfl (Nat.not_lt.mpr (Nat.le_of_ble_eq_true rfl)) (p_10_ok wc_24 hvz31) (by decide) rfl ?_
    refine kg_aload hk_48 rfl rfl rfl ?_
    refine wf_gd hF (fun gz32 hF => ?_)
    refine kg_get (v := .ref (24 + 1)) hk_48 rfl wk_17_1 (by rw [beq_iff_eq.mp gz32]; rfl) rfl ?_
    refine kg_push (x := 1) hk_48 rfl (by decide) rfl ?_
    refine kg_iload hk_48 rfl rfl rfl ?_
    refine kg_bin (z := (1 <<< (x1 &&& 31))) hk_48 rfl rfl rfl ?_
    refine wf_let hF (fun hz33 hhz33 hF => ?_)
    refine kg_put hk_48 rfl wk_24_5 rfl rfl hhz33 rfl ?_
    refine kg_push (x := 1) hk_48 rfl (by decide) rfl ?_
    have hF := Option.some.inj hF
    subst hF
    exact kg_iret hk_48 rfl (Or.inr rfl) rfl
def q_48_52 (h : Hp) (x1 : Int32) (s0 : Int32) : Option (Int32 × Hp) :=
  if s0 = (-1) then
    (some (0, h))
  else
    ((p_36 h 45).bind fun vz18 =>
    (p_38 vz18.2).bind fun vz19 =>
    if vz19.1 = (-1) then
      (some (0, vz19.2))
    else
      (w_gd ((vz19.2 17 1) == 24) <|
      q_48_79 vz19.2 x1 (if vz18.1 = 0 then vz19.1 else (-vz19.1) : Int32) s0))
theorem q_48_52_ok {X : List Int32}   {h : Hp} {s0 : Int32} {x1 : Int32}  {r : Int32 × Hp} (hF : q_48_52 h x1 s0 = some r)  : ∀ (u2 : Value) (u3 : Value) (u4 : Value) (u5 : Value), k_Go X 3 48 (52, [.ref (17 + 1), .int x1, u2, u3, u4, u5], [.int s0]) h (.inl (some (.int r.1)), r.2) := by
  intro u2 u3 u4 u5
  unfold q_48_52 at hF
  refine kg_istore (L2 := [.ref (17 + 1), .int x1, u2, .int s0, u4, u5]) hk_48 rfl (Nat.le_of_ble_eq_true rfl) rfl rfl ?_
  refine kg_iload hk_48 rfl rfl rfl ?_
  refine kg_push (x := (-1)) hk_48 rfl (by decide) rfl ?_
  refine wf_if hF (fun cz17 hF => ?_) (fun cz17 hF => ?_)
  · refine kg_icF hk_48 rfl (jc_F1 cz17) rfl ?_
    refine kg_push (x := 0) hk_48 rfl (by decide) rfl ?_
    have hF := Option.some.inj hF
    subst hF
    exact kg_iret hk_48 rfl (Or.inr rfl) rfl
  · refine kg_icT hk_48 rfl (jc_T1 cz17) ?_
    refine kg_aload hk_48 rfl rfl rfl ?_
    refine kg_push (x := 45) hk_48 rfl (by decide) rfl ?_
    refine wf_bind hF (fun vz18 hvz18 hF => ?_)
    refine kg_call (as := [.ref (17 + 1), .int 45]) (rest := []) hk_48 rfl (Or.inr (Or.inr (Or.inr ⟨Or.inl rfl, _, _, rfl, wc_17⟩))) rfl rfl rfl (Nat.not_lt.mpr (Nat.le_of_ble_eq_true rfl)) (p_36_ok hvz18) (by decide) rfl ?_
    refine kg_istore (L2 := [.ref (17 + 1), .int x1, u2, .int s0, .int vz18.1, u5]) hk_48 rfl (Nat.le_of_ble_eq_true rfl) rfl rfl ?_
    refine kg_aload hk_48 rfl rfl rfl ?_
    refine wf_bind hF (fun vz19 hvz19 hF => ?_)
    refine kg_call (as := [.ref (17 + 1)]) (rest := []) hk_48 rfl (Or.inr (Or.inr (Or.inr ⟨Or.inl rfl, _, _, rfl, wc_17⟩))) rfl rfl rfl (Nat.not_lt.mpr (Nat.le_of_ble_eq_true rfl)) (p_38_ok hvz19) (by decide) rfl ?_
    refine kg_istore (L2 := [.ref (17 + 1), .int x1, u2, .int s0, .int vz18.1, .int vz19.1]) hk_48 rfl (Nat.le_of_ble_eq_true rfl) rfl rfl ?_
    refine kg_iload hk_48 rfl rfl rfl ?_
    refine kg_push (x := (-1)) hk_48 rfl (by decide) rfl ?_
    refine wf_if hF (fun cz20 hF => ?_) (fun cz20 hF => ?_)
    · refine kg_icF hk_48 rfl (jc_F1 cz20) rfl ?_
      refine kg_push (x := 0) hk_48 rfl (by decide) rfl ?_
      have hF := Option.some.inj hF
      subst hF
      exact kg_iret hk_48 rfl (Or.inr rfl) rfl
    · refine kg_icT hk_48 rfl (jc_T1 cz20) ?_
      refine kg_aload hk_48 rfl rfl rfl ?_
      refine wf_gd hF (fun gz21 hF => ?_)
      refine kg_get (v := .ref (24 + 1)) hk_48 rfl wk_17_1 (by rw [beq_iff_eq.mp gz21]; rfl) rfl ?_
      refine kg_iload hk_48 rfl rfl rfl ?_
      refine kg_iload hk_48 rfl rfl rfl ?_
      refine kv_mid (p := 79) (L := [.ref (17 + 1), .int x1, u2, .int s0, .int vz18.1, .int vz19.1]) (S := [.int (if vz18.1 = 0 then vz19.1 else (-vz19.1) : Int32), .int s0, .ref (24 + 1)]) ?_ (fun hK => ?_)
      · exact q_48_79_ok hF _ _ _ _
      · by_cases cz22 : vz18.1 = 0
        · have hK := kv_T cz22 hK
          refine kg_ifT hk_48 rfl (jc_T0 cz22) ?_
          refine kg_iload hk_48 rfl rfl rfl ?_
          exact hK
        · have hK := kv_F cz22 hK
          refine kg_ifF hk_48 rfl (jc_F0 cz22) rfl ?_
          refine kg_iload hk_48 rfl rfl rfl ?_
          refine kg_un (z := (-vz19.1)) hk_48 rfl rfl rfl ?_
          refine kg_goto hk_48 rfl ?_
          exact hK
def p_48 (h : Hp) : Option (Int32 × Hp) :=
  (p_37 h).bind fun vz1 =>
  if vz1.1 = (-1) then
    (some (0, vz1.2))
  else
    ((p_36 vz1.2 61).bind fun vz3 =>
    if vz3.1 = 0 then
      (some (0, vz3.2))
    else
      ((p_37 vz3.2).bind fun vz5 =>
      if vz5.1 = (-1) then
        (some (0, vz5.2))
      else
        (w_gd ((vz5.2 17 1) == 24) <|
        (p_10 vz5.2 24 1 vz5.1 (vz5.2 17 3)).bind fun vz8 =>
        w_gd ((vz8 17 1) == 24) <|
        w_let (w_up vz8 24 7 (1 <<< (vz5.1 &&& 31))) fun hz10 =>
        (p_36 hz10 60).bind fun vz11 =>
        if vz11.1 = 0 then
          ((p_36 vz11.2 62).bind fun vz13 =>
          if vz13.1 = 0 then
            ((p_36 vz13.2 61).bind fun vz15 =>
            q_48_52 vz15.2 vz1.1 (if vz15.1 = 0 then (-1) else 17 : Int32))
          else
            (q_48_52 vz13.2 vz1.1 16))
        else
          (q_48_52 vz11.2 vz1.1 15))))
theorem p_48_ok {X : List Int32}  {h : Hp}   {r : Int32 × Hp} (hF : p_48 h = some r) : k_Ev X 3 48 [.ref (17 + 1)] h (.inl (some (.int r.1)), r.2) := by
  refine k_of hk_48 ?_
  show k_Go X 3 48 (0, [.ref (17 + 1), (.retAddr 0), (.retAddr 0), (.retAddr 0), (.retAddr 0), (.retAddr 0)], []) h _
  unfold p_48 at hF
  refine kg_aload hk_48 rfl rfl rfl ?_
  refine wf_bind hF (fun vz1 hvz1 hF => ?_)
  refine kg_call (as := [.ref (17 + 1)]) (rest := []) hk_48 rfl (Or.inr (Or.inr (Or.inr ⟨Or.inl rfl, _, _, rfl, wc_17⟩))) rfl rfl rfl (Nat.not_lt.mpr (Nat.le_of_ble_eq_true rfl)) (p_37_ok hvz1) (by decide) rfl ?_
  refine kg_istore (L2 := [.ref (17 + 1), .int vz1.1, (.retAddr 0), (.retAddr 0), (.retAddr 0), (.retAddr 0)]) hk_48 rfl (Nat.le_of_ble_eq_true rfl) rfl rfl ?_
  refine kg_iload hk_48 rfl rfl rfl ?_
  refine kg_push (x := (-1)) hk_48 rfl (by decide) rfl ?_
  refine wf_if hF (fun cz2 hF => ?_) (fun cz2 hF => ?_)
  · refine kg_icT hk_48 rfl (jc_T0 cz2) ?_
    refine kg_push (x := 0) hk_48 rfl (by decide) rfl ?_
    have hF := Option.some.inj hF
    subst hF
    exact kg_iret hk_48 rfl (Or.inr rfl) rfl
  · refine kg_icF hk_48 rfl (jc_F0 cz2) rfl ?_
    refine kg_aload hk_48 rfl rfl rfl ?_
    refine kg_push (x := 61) hk_48 rfl (by decide) rfl ?_
    refine wf_bind hF (fun vz3 hvz3 hF => ?_)
    refine kg_call (as := [.ref (17 + 1), .int 61]) (rest := []) hk_48 rfl (Or.inr (Or.inr (Or.inr ⟨Or.inl rfl, _, _, rfl, wc_17⟩))) rfl rfl rfl (Nat.not_lt.mpr (Nat.le_of_ble_eq_true rfl)) (p_36_ok hvz3) (by decide) rfl ?_
    refine wf_if hF (fun cz4 hF => ?_) (fun cz4 hF => ?_)
    · refine kg_ifF hk_48 rfl (jc_F1 cz4) rfl ?_
      refine kg_push (x := 0) hk_48 rfl (by decide) rfl ?_
      have hF := Option.some.inj hF
      subst hF
      exact kg_iret hk_48 rfl (Or.inr rfl) rfl
    · refine kg_ifT hk_48 rfl (jc_T1 cz4) ?_
      refine kg_aload hk_48 rfl rfl rfl ?_
      refine wf_bind hF (fun vz5 hvz5 hF => ?_)
      refine kg_call (as := [.ref (17 + 1)]) (rest := []) hk_48 rfl (Or.inr (Or.inr (Or.inr ⟨Or.inl rfl, _, _, rfl, wc_17⟩))) rfl rfl rfl (Nat.not_lt.mpr (Nat.le_of_ble_eq_true rfl)) (p_37_ok hvz5) (by decide) rfl ?_
      refine kg_istore (L2 := [.ref (17 + 1), .int vz1.1, .int vz5.1, (.retAddr 0), (.retAddr 0), (.retAddr 0)]) hk_48 rfl (Nat.le_of_ble_eq_true rfl) rfl rfl ?_
      refine kg_iload hk_48 rfl rfl rfl ?_
      refine kg_push (x := (-1)) hk_48 rfl (by decide) rfl ?_
      refine wf_if hF (fun cz6 hF => ?_) (fun cz6 hF => ?_)
      · refine kg_icF hk_48 rfl (jc_F1 cz6) rfl ?_
        refine kg_push (x := 0) hk_48 rfl (by decide) rfl ?_
        have hF := Option.some.inj hF
        subst hF
        exact kg_iret hk_48 rfl (Or.inr rfl) rfl
      · refine kg_icT hk_48 rfl (jc_T1 cz6) ?_
        refine kg_aload hk_48 rfl rfl rfl ?_
        refine wf_gd hF (fun gz7 hF => ?_)
        refine kg_get (v := .ref (24 + 1)) hk_48 rfl wk_17_1 (by rw [beq_iff_eq.mp gz7]; rfl) rfl ?_
        refine kg_push (x := 1) hk_48 rfl (by decide) rfl ?_
        refine kg_iload hk_48 rfl rfl rfl ?_
        refine kg_aload hk_48 rfl rfl rfl ?_
        refine kg_get (v := .int (vz5.2 17 3)) hk_48 rfl wk_17_3 rfl rfl ?_
        refine wf_bind hF (fun vz8 hvz8 hF => ?_)
        refine kg_call (as := [.ref (24 + 1), .int 1, .int vz5.1, .int (vz5.2 17 3)]) (rest := []) hk_48 rfl (Or.inr (Or.inr (Or.inr ⟨Or.inl rfl, _, _, rfl, wc_24⟩))) rfl rfl rfl (Nat.not_lt.mpr (Nat.le_of_ble_eq_true rfl)) (p_10_ok wc_24 hvz8) (by decide) rfl ?_
        refine kg_aload hk_48 rfl rfl rfl ?_
        refine wf_gd hF (fun gz9 hF => ?_)
        refine kg_get (v := .ref (24 + 1)) hk_48 rfl wk_17_1 (by rw [beq_iff_eq.mp gz9]; rfl) rfl ?_
        refine kg_push (x := 1) hk_48 rfl (by decide) rfl ?_
        refine kg_iload hk_48 rfl rfl rfl ?_
        refine kg_bin (z := (1 <<< (vz5.1 &&& 31))) hk_48 rfl rfl rfl ?_
        refine wf_let hF (fun hz10 hhz10 hF => ?_)
        refine kg_put hk_48 rfl wk_24_7 rfl rfl hhz10 rfl ?_
        refine kg_aload hk_48 rfl rfl rfl ?_
        refine kg_push (x := 60) hk_48 rfl (by decide) rfl ?_
        refine wf_bind hF (fun vz11 hvz11 hF => ?_)
        refine kg_call (as := [.ref (17 + 1), .int 60]) (rest := []) hk_48 rfl (Or.inr (Or.inr (Or.inr ⟨Or.inl rfl, _, _, rfl, wc_17⟩))) rfl rfl rfl (Nat.not_lt.mpr (Nat.le_of_ble_eq_true rfl)) (p_36_ok hvz11) (by decide) rfl ?_
        refine wf_if hF (fun cz12 hF => ?_) (fun cz12 hF => ?_)
        · refine kg_ifT hk_48 rfl (jc_T0 cz12) ?_
          refine kg_aload hk_48 rfl rfl rfl ?_
          refine kg_push (x := 62) hk_48 rfl (by decide) rfl ?_
          refine wf_bind hF (fun vz13 hvz13 hF => ?_)
          refine kg_call (as := [.ref (17 + 1), .int 62]) (rest := []) hk_48 rfl (Or.inr (Or.inr (Or.inr ⟨Or.inl rfl, _, _, rfl, wc_17⟩))) rfl rfl rfl (Nat.not_lt.mpr (Nat.le_of_ble_eq_true rfl)) (p_36_ok hvz13) (by decide) rfl ?_
          refine wf_if hF (fun cz14 hF => ?_) (fun cz14 hF => ?_)
          · refine kg_ifT hk_48 rfl (jc_T0 cz14) ?_
            refine kg_aload hk_48 rfl rfl rfl ?_
            refine kg_push (x := 61) hk_48 rfl (by decide) rfl ?_
            refine wf_bind hF (fun vz15 hvz15 hF => ?_)
            refine kg_call (as := [.ref (17 + 1), .int 61]) (rest := []) hk_48 rfl (Or.inr (Or.inr (Or.inr ⟨Or.inl rfl, _, _, rfl, wc_17⟩))) rfl rfl rfl (Nat.not_lt.mpr (Nat.le_of_ble_eq_true rfl)) (p_36_ok hvz15) (by decide) rfl ?_
            refine kv_mid (p := 52) (L := [.ref (17 + 1), .int vz1.1, .int vz5.1, (.retAddr 0), (.retAddr 0), (.retAddr 0)]) (S := [.int (if vz15.1 = 0 then (-1) else 17 : Int32)]) ?_ (fun hK => ?_)
            · exact q_48_52_ok hF _ _ _ _
            · by_cases cz16 : vz15.1 = 0
              · have hK := kv_T cz16 hK
                refine kg_ifT hk_48 rfl (jc_T0 cz16) ?_
                refine kg_push (x := (-1)) hk_48 rfl (by decide) rfl ?_
                exact hK
              · have hK := kv_F cz16 hK
                refine kg_ifF hk_48 rfl (jc_F0 cz16) rfl ?_
                refine kg_push (x := 17) hk_48 rfl (by decide) rfl ?_
                refine kg_goto hk_48 rfl ?_
                exact hK
          · refine kg_ifF hk_48 rfl (jc_F0 cz14) rfl ?_
            refine kg_push (x := 16) hk_48 rfl (by decide) rfl ?_
            refine kg_goto hk_48 rfl ?_
            exact q_48_52_ok hF _ _ _ _
        · refine kg_ifF hk_48 rfl (jc_F0 cz12) rfl ?_
          refine kg_push (x := 15) hk_48 rfl (by decide) rfl ?_
          refine kg_goto hk_48 rfl ?_
          exact q_48_52_ok hF _ _ _ _
