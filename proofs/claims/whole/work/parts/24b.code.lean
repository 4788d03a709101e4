/-! ===== the methods as functions over the flat heap, and that the interpreter does what they say (printed by wip/whole/dec.py) ===== -/
-- NotebookWeir$Machine.makeRow(I)I
theorem hk_26 : jP[26]? = some (jc_26, 4, [], []) := by rfl
def l_26_11 (x1 : Int32) (x2 : Int32) (x3 : Int32) (h : Hp) : Option ((Int32 × Hp) ⊕ Hp) :=
  if x3 < x1 then
    (w_gd (g_66 32 (x2 + x3) 0) <|
    (p_70 h 32 x2 (v_66 h 32 (x2 + x3) 0)).bind fun vz4 =>
    some (.inl ((x3 + 1), vz4)))
  else
    (some (.inr h))
theorem l_26_11_st {X : List Int32} {o : kO}  {h : Hp} {x1 : Int32} {x2 : Int32} {x3 : Int32}  {r : (Int32 × Hp) ⊕ Hp} (hF : l_26_11 x1 x2 x3 h = some r) (hK : ∀ s' : Int32 × Hp, r = .inl s' → k_Go X 1 26 (11, [.ref (28 + 1), .int x1, .int x2, .int (s'.1)], []) s'.2 o) (hX0 : ∀ e : Hp, r = .inr e → ∀ (u1 : Value) (u3 : Value), k_Go X 1 26 (27, [.ref (28 + 1), u1, .int x2, u3], []) e o) : k_Go X 1 26 (11, [.ref (28 + 1), .int x1, .int x2, .int x3], []) h o := by
  refine kg_iload hk_26 rfl rfl rfl ?_
  refine kg_iload hk_26 rfl rfl rfl ?_
  refine wf_if hF (fun cz2 hF => ?_) (fun cz2 hF => ?_)
  · refine kg_icF hk_26 rfl (jc_F3 cz2) rfl ?_
    refine kg_aload hk_26 rfl rfl rfl ?_
    refine kg_get (v := .ref (32 + 1)) hk_26 rfl wk_28_1 rfl rfl ?_
    refine kg_iload hk_26 rfl rfl rfl ?_
    refine kg_aload hk_26 rfl rfl rfl ?_
    refine kg_get (v := .ref (32 + 1)) hk_26 rfl wk_28_1 rfl rfl ?_
    refine kg_iload hk_26 rfl rfl rfl ?_
    refine kg_iload hk_26 rfl rfl rfl ?_
    refine kg_bin (z := (x2 + x3)) hk_26 rfl rfl rfl ?_
    refine kg_push (x := 0) hk_26 rfl (by decide) rfl ?_
    refine wf_gd hF (fun gz3 hF => ?_)
    refine kg_call (as := [.ref (32 + 1), .int (x2 + x3), .int 0]) (rest := [.int x2, .ref (32 + 1)]) hk_26 rfl (Or.inr (Or.inr (Or.inr ⟨Or.inl rfl, _, _, rfl, wc_32⟩))) rfl rfl rfl (Nat.not_lt.mpr (Nat.le_of_ble_eq_true rfl)) (v_66_ok wc_32 gz3) (by decide) rfl ?_
    refine wf_bind hF (fun vz4 hvz4 hF => ?_)
    refine kg_call (as := [.ref (32 + 1), .int x2, .int (v_66 h 32 (x2 + x3) 0)]) (rest := []) hk_26 rfl (Or.inr (Or.inr (Or.inr ⟨Or.inl rfl, _, _, rfl, wc_32⟩))) rfl rfl rfl (Nat.not_lt.mpr (Nat.le_of_ble_eq_true rfl)) (p_70_ok wc_32 hvz4) (by decide) rfl ?_
    refine kg_iinc (y := (x3 + 1)) (L2 := [.ref (28 + 1), .int x1, .int x2, .int (x3 + 1)]) hk_26 rfl rfl rfl rfl rfl ?_
    refine kg_goto hk_26 rfl ?_
    have hF := Option.some.inj hF
    exact hK _ hF.symm
  · refine kg_icT hk_26 rfl (jc_T3 cz2) ?_
    have hF := Option.some.inj hF
    exact hX0 _ hF.symm _ _
theorem l_26_11_ok {X : List Int32} {o : kO}  {x1 : Int32} {x2 : Int32}  {n : Nat} {s : Int32 × Hp} {e : Hp} (hF : w_lp (fun (s : Int32 × Hp) => l_26_11 x1 x2 s.1 s.2) n s = some e) (hX0 : ∀ (u1 : Value) (u3 : Value), k_Go X 1 26 (27, [.ref (28 + 1), u1, .int x2, u3], []) e o) : k_Go X 1 26 (11, [.ref (28 + 1), .int x1, .int x2, .int s.1], []) s.2 o := by
  exact w_lp_ok (P := (fun (s : Int32 × Hp) => k_Go X 1 26 (11, [.ref (28 + 1), .int x1, .int x2, .int s.1], []) s.2 o)) (Q := (fun (e : Hp) => (∀ (u1 : Value) (u3 : Value), k_Go X 1 26 (27, [.ref (28 + 1), u1, .int x2, u3], []) e o))) (fun s r hF hK hX => l_26_11_st hF hK (fun x hx => (hX _ hx))) n s e hF hX0
def p_26 (h : Hp) (x1 : Int32) : Option (Int32 × Hp) :=
  (p_69 h 32 ((h 28 2) - x1)).bind fun vz1 =>
  (w_lp (fun (s : Int32 × Hp) => l_26_11 x1 ((h 28 2) - x1) s.1 s.2) w_N (0, vz1)).bind fun ez5 =>
  w_let (w_up ez5 28 2 (((h 28 2) - x1) + 1)) fun hz6 =>
  some (0, hz6)
theorem p_26_ok {X : List Int32}  {h : Hp} {x1 : Int32}  {r : Int32 × Hp} (hF : p_26 h x1 = some r) : k_Ev X 1 26 [.ref (28 + 1), .int x1] h (.inl (some (.int r.1)), r.2) := by
  refine k_of hk_26 ?_
  show k_Go X 1 26 (0, [.ref (28 + 1), .int x1, (.retAddr 0), (.retAddr 0)], []) h _
  unfold p_26 at hF
  refine kg_aload hk_26 rfl rfl rfl ?_
  refine kg_get (v := .int (h 28 2)) hk_26 rfl wk_28_2 rfl rfl ?_
  refine kg_iload hk_26 rfl rfl rfl ?_
  refine kg_bin (z := ((h 28 2) - x1)) hk_26 rfl rfl rfl ?_
  refine kg_istore (L2 := [.ref (28 + 1), .int x1, .int ((h 28 2) - x1), (.retAddr 0)]) hk_26 rfl (Nat.le_of_ble_eq_true rfl) rfl rfl ?_
  refine kg_aload hk_26 rfl rfl rfl ?_
  refine kg_get (v := .ref (32 + 1)) hk_26 rfl wk_28_1 rfl rfl ?_
  refine kg_iload hk_26 rfl rfl rfl ?_
  refine wf_bind hF (fun vz1 hvz1 hF => ?_)
  refine kg_call (as := [.ref (32 + 1), .int ((h 28 2) - x1)]) (rest := []) hk_26 rfl (Or.inr (Or.inr (Or.inr ⟨Or.inl rfl, _, _, rfl, wc_32⟩))) rfl rfl rfl (Nat.not_lt.mpr (Nat.le_of_ble_eq_true rfl)) (p_69_ok wc_32 hvz1) (by decide) rfl ?_
  refine kg_push (x := 0) hk_26 rfl (by decide) rfl ?_
  refine kg_istore (L2 := [.ref (28 + 1), .int x1, .int ((h 28 2) - x1), .int 0]) hk_26 rfl (Nat.le_of_ble_eq_true rfl) rfl rfl ?_
  refine wf_bind hF (fun ez5 hez5 hF => ?_)
  refine l_26_11_ok hez5 ?_
  intro u1 u3
  refine kg_aload hk_26 rfl rfl rfl ?_
  refine kg_iload hk_26 rfl rfl rfl ?_
  refine kg_push (x := 1) hk_26 rfl (by decide) rfl ?_
  refine kg_bin (z := (((h 28 2) - x1) + 1)) hk_26 rfl rfl rfl ?_
  refine wf_let hF (fun hz6 hhz6 hF => ?_)
  refine kg_put hk_26 rfl wk_28_2 rfl rfl hhz6 rfl ?_
  refine kg_push (x := 0) hk_26 rfl (by decide) rfl ?_
  have hF := Option.some.inj hF
  subst hF
  exact kg_iret hk_26 rfl (Or.inl rfl) rfl
-- NotebookWeir$Machine.isKept(III)Z
theorem hk_28 : jP[28]? = some (jc_28, 3, [], []) := by rfl
def v_28 (x0 : Int32) (x1 : Int32) (x2 : Int32) : Int32 := (if x0 = 15 then (if x1 < x2 then 1 else 0 : Int32) else (if x0 = 16 then (if x1 ≤ x2 then 0 else 1 : Int32) else (if x1 = x2 then 1 else 0 : Int32) : Int32) : Int32)
theorem v_28_bo (x0 : Int32) (x1 : Int32) (x2 : Int32) : w_bo (v_28 x0 x1 x2) = true := by
  unfold v_28
  exact (w_boi (w_boi rfl rfl) (w_boi (w_boi rfl rfl) (w_boi rfl rfl)))
theorem v_28_ok {X : List Int32} {h : Hp} {x0 : Int32} {x1 : Int32} {x2 : Int32}  : k_Ev X 0 28 [.int x0, .int x1, .int x2] h (.inl (some (.int (v_28 x0 x1 x2))), h) := by
  refine k_of hk_28 ?_
  show k_Go X 0 28 (0, [.int x0, .int x1, .int x2], []) h _
  generalize hv : v_28 x0 x1 x2 = z
  unfold v_28 at hv
  refine kg_iload hk_28 rfl rfl rfl ?_
  refine kg_push (x := 15) hk_28 rfl (by decide) rfl ?_
  by_cases cz1 : x0 = 15
  · have hv := wv_T cz1 hv
    refine kg_icF hk_28 rfl (jc_F1 cz1) rfl ?_
    refine kg_iload hk_28 rfl rfl rfl ?_
    refine kg_iload hk_28 rfl rfl rfl ?_
    refine kv_mid (p := 9) (L := [.int x0, .int x1, .int x2]) (S := [.int (if x1 < x2 then 1 else 0 : Int32)]) ?_ (fun hK => ?_)
    · exact kg_iret hk_28 rfl (Or.inr (w_boi rfl rfl)) (by rw [hv])
    · by_cases cz2 : x1 < x2
      · have hK := kv_T cz2 hK
        refine kg_icF hk_28 rfl (jc_F3 cz2) rfl ?_
        refine kg_push (x := 1) hk_28 rfl (by decide) rfl ?_
        refine kg_goto hk_28 rfl ?_
        exact hK
      · have hK := kv_F cz2 hK
        refine kg_icT hk_28 rfl (jc_T3 cz2) ?_
        refine kg_push (x := 0) hk_28 rfl (by decide) rfl ?_
        exact hK
  · have hv := wv_F cz1 hv
    refine kg_icT hk_28 rfl (jc_T1 cz1) ?_
    refine kg_iload hk_28 rfl rfl rfl ?_
    refine kg_push (x := 16) hk_28 rfl (by decide) rfl ?_
    refine kv_mid (p := 26) (L := [.int x0, .int x1, .int x2]) (S := [.int (if x0 = 16 then (if x1 ≤ x2 then 0 else 1 : Int32) else (if x1 = x2 then 1 else 0 : Int32) : Int32)]) ?_ (fun hK => ?_)
    · exact kg_iret hk_28 rfl (Or.inr (w_boi (w_boi rfl rfl) (w_boi rfl rfl))) (by rw [hv])
    · by_cases cz3 : x0 = 16
      · have hK := kv_T cz3 hK
        refine kg_icF hk_28 rfl (jc_F1 cz3) rfl ?_
        refine kg_iload hk_28 rfl rfl rfl ?_
        refine kg_iload hk_28 rfl rfl rfl ?_
        by_cases cz4 : x1 ≤ x2
        · have hK := kv_T cz4 hK
          refine kg_icT hk_28 rfl (jc_T5 cz4) ?_
          refine kg_push (x := 0) hk_28 rfl (by decide) rfl ?_
          refine kg_goto hk_28 rfl ?_
          exact hK
        · have hK := kv_F cz4 hK
          refine kg_icF hk_28 rfl (jc_F5 cz4) rfl ?_
          refine kg_push (x := 1) hk_28 rfl (by decide) rfl ?_
          refine kg_goto hk_28 rfl ?_
          exact hK
      · have hK := kv_F cz3 hK
        refine kg_icT hk_28 rfl (jc_T1 cz3) ?_
        refine kg_iload hk_28 rfl rfl rfl ?_
        refine kg_iload hk_28 rfl rfl rfl ?_
        by_cases cz5 : x1 = x2
        · have hK := kv_T cz5 hK
          refine kg_icF hk_28 rfl (jc_F1 cz5) rfl ?_
          refine kg_push (x := 1) hk_28 rfl (by decide) rfl ?_
          refine kg_goto hk_28 rfl ?_
          exact hK
        · have hK := kv_F cz5 hK
          refine kg_icT hk_28 rfl (jc_T1 cz5) ?_
          refine kg_push (x := 0) hk_28 rfl (by decide) rfl ?_
          exact hK
-- NotebookWeir$Machine.keepItems(II)I
theorem hk_27 : jP[27]? = some (jc_27, 7, [], []) := by rfl
def l_27_23 (x1 : Int32) (x2 : Int32) (x3 : Int32) (x4 : Int32) (x5 : Int32) (h : Hp) : Option ((Int32 × Hp) ⊕ Int32 × Hp) :=
  if x5 < x4 then
    (w_gd (g_66 32 x3 x5) <|
    if (v_28 x1 (v_66 h 32 x3 x5) x2) = 0 then
      (some (.inl ((x5 + 1), h)))
    else
      ((p_70 h 32 x3 (v_66 h 32 x3 x5)).bind fun vz9 =>
      some (.inl ((x5 + 1), vz9))))
  else
    (some (.inr (0, h)))
theorem l_27_23_st {X : List Int32} {o : kO}  {h : Hp} {x1 : Int32} {x2 : Int32} {x3 : Int32} {x4 : Int32} {x5 : Int32}  {r : (Int32 × Hp) ⊕ Int32 × Hp} (hF : l_27_23 x1 x2 x3 x4 x5 h = some r) (hK : ∀ s' : Int32 × Hp, r = .inl s' → ∀ (u6 : Value), k_Go X 1 27 (23, [.ref (28 + 1), .int x1, .int x2, .int x3, .int x4, .int (s'.1), u6], []) s'.2 o) (hX0 : ∀ e : Int32 × Hp, r = .inr e → (.inl (some (.int e.1)), e.2) = o) : ∀ (u6 : Value), k_Go X 1 27 (23, [.ref (28 + 1), .int x1, .int x2, .int x3, .int x4, .int x5, u6], []) h o := by
  intro u6
  refine kg_iload hk_27 rfl rfl rfl ?_
  refine kg_iload hk_27 rfl rfl rfl ?_
  refine wf_if hF (fun cz6 hF => ?_) (fun cz6 hF => ?_)
  · refine kg_icF hk_27 rfl (jc_F3 cz6) rfl ?_
    refine kg_aload hk_27 rfl rfl rfl ?_
    refine kg_get (v := .ref (32 + 1)) hk_27 rfl wk_28_1 rfl rfl ?_
    refine kg_iload hk_27 rfl rfl rfl ?_
    refine kg_iload hk_27 rfl rfl rfl ?_
    refine wf_gd hF (fun gz7 hF => ?_)
    refine kg_call (as := [.ref (32 + 1), .int x3, .int x5]) (rest := []) hk_27 rfl (Or.inr (Or.inr (Or.inr ⟨Or.inl rfl, _, _, rfl, wc_32⟩))) rfl rfl rfl (Nat.not_lt.mpr (Nat.le_of_ble_eq_true rfl)) (v_66_ok wc_32 gz7) (by decide) rfl ?_
    refine kg_istore (L2 := [.ref (28 + 1), .int x1, .int x2, .int x3, .int x4, .int x5, .int (v_66 h 32 x3 x5)]) hk_27 rfl (Nat.le_of_ble_eq_true rfl) rfl rfl ?_
    refine kg_iload hk_27 rfl rfl rfl ?_
    refine kg_iload hk_27 rfl rfl rfl ?_
    refine kg_iload hk_27 rfl rfl rfl ?_
    refine kg_call (as := [.int x1, .int (v_66 h 32 x3 x5), .int x2]) (rest := []) hk_27 rfl (Or.inl rfl) rfl rfl rfl (Nat.not_lt.mpr (Nat.le_of_ble_eq_true rfl)) (v_28_ok) (by decide) rfl ?_
    refine wf_if hF (fun cz8 hF => ?_) (fun cz8 hF => ?_)
    · refine kg_ifT hk_27 rfl (jc_T0 cz8) ?_
      refine kg_iinc (y := (x5 + 1)) (L2 := [.ref (28 + 1), .int x1, .int x2, .int x3, .int x4, .int (x5 + 1), .int (v_66 h 32 x3 x5)]) hk_27 rfl rfl rfl rfl rfl ?_
      refine kg_goto hk_27 rfl ?_
      have hF := Option.some.inj hF
      exact hK _ hF.symm _
    · refine kg_ifF hk_27 rfl (jc_F0 cz8) rfl ?_
      refine kg_aload hk_27 rfl rfl rfl ?_
      refine kg_get (v := .ref (32 + 1)) hk_27 rfl wk_28_1 rfl rfl ?_
      refine kg_iload hk_27 rfl rfl rfl ?_
      refine kg_iload hk_27 rfl rfl rfl ?_
      refine wf_bind hF (fun vz9 hvz9 hF => ?_)
      refine kg_call (as := [.ref (32 + 1), .int x3, .int (v_66 h 32 x3 x5)]) (rest := []) hk_27 rfl (Or.inr (Or.inr (Or.inr ⟨Or.inl rfl, _, _, rfl, wc_32⟩))) rfl rfl rfl (Nat.not_lt.mpr (Nat.le_of_ble_eq_true rfl)) (p_70_ok wc_32 hvz9) (by decide) rfl ?_
      refine kg_iinc (y := (x5 + 1)) (L2 := [.ref (28 + 1), .int x1, .int x2, .int x3, .int x4, .int (x5 + 1), .int (v_66 h 32 x3 x5)]) hk_27 rfl rfl rfl rfl rfl ?_
      refine kg_goto hk_27 rfl ?_
      have hF := Option.some.inj hF
      exact hK _ hF.symm _
  · refine kg_icT hk_27 rfl (jc_T3 cz6) ?_
    refine kg_push (x := 0) hk_27 rfl (by decide) rfl ?_
    have hF := Option.some.inj hF
    exact kg_iret hk_27 rfl (Or.inl rfl) (hX0 _ hF.symm)
theorem l_27_23_ok {X : List Int32} {o : kO}  {x1 : Int32} {x2 : Int32} {x3 : Int32} {x4 : Int32}  {n : Nat} {s : Int32 × Hp} {e : Int32 × Hp} (hF : w_lp (fun (s : Int32 × Hp) => l_27_23 x1 x2 x3 x4 s.1 s.2) n s = some e) (hX0 : (.inl (some (.int e.1)), e.2) = o) : ∀ (u6 : Value), k_Go X 1 27 (23, [.ref (28 + 1), .int x1, .int x2, .int x3, .int x4, .int s.1, u6], []) s.2 o := by
  exact w_lp_ok (P := (fun (s : Int32 × Hp) => ∀ (u6 : Value), k_Go X 1 27 (23, [.ref (28 + 1), .int x1, .int x2, .int x3, .int x4, .int s.1, u6], []) s.2 o)) (Q := (fun (e : Int32 × Hp) => ((.inl (some (.int e.1)), e.2) = o))) (fun s r hF hK hX => l_27_23_st hF hK (fun x hx => (hX _ hx))) n s e hF hX0
def q_27_16 (h : Hp) (x1 : Int32) (x2 : Int32) (x3 : Int32) (s0 : Int32) : Option (Int32 × Hp) :=
  (p_69 h 32 x3).bind fun vz5 =>
  w_lp (fun (s : Int32 × Hp) => l_27_23 x1 x2 x3 s0 s.1 s.2) w_N (0, vz5)
theorem q_27_16_ok {X : List Int32}   {h : Hp} {s0 : Int32} {x1 : Int32} {x2 : Int32} {x3 : Int32}  {r : Int32 × Hp} (hF : q_27_16 h x1 x2 x3 s0 = some r)  : ∀ (u4 : Value) (u5 : Value) (u6 : Value), k_Go X 1 27 (16, [.ref (28 + 1), .int x1, .int x2, .int x3, u4, u5, u6], [.int s0]) h (.inl (some (.int r.1)), r.2) := by
  intro u4 u5 u6
  unfold q_27_16 at hF
  refine kg_istore (L2 := [.ref (28 + 1), .int x1, .int x2, .int x3, .int s0, u5, u6]) hk_27 rfl (Nat.le_of_ble_eq_true rfl) rfl rfl ?_
  refine kg_aload hk_27 rfl rfl rfl ?_
  refine kg_get (v := .ref (32 + 1)) hk_27 rfl wk_28_1 rfl rfl ?_
  refine kg_iload hk_27 rfl rfl rfl ?_
  refine wf_bind hF (fun vz5 hvz5 hF => ?_)
  refine kg_call (as := [.ref (32 + 1), .int x3]) (rest := []) hk_27 rfl (Or.inr (Or.inr (Or.inr ⟨Or.inl rfl, _, _, rfl, wc_32⟩))) rfl rfl rfl (Nat.not_lt.mpr (Nat.le_of_ble_eq_true rfl)) (p_69_ok wc_32 hvz5) (by decide) rfl ?_
  refine kg_push (x := 0) hk_27 rfl (by decide) rfl ?_
  refine kg_istore (L2 := [.ref (28 + 1), .int x1, .int x2, .int x3, .int s0, .int 0, u6]) hk_27 rfl (Nat.le_of_ble_eq_true rfl) rfl rfl ?_
  exact l_27_23_ok hF rfl _
def p_27 (h : Hp) (x1 : Int32) (x2 : Int32) : Option (Int32 × Hp) :=
  w_gd (g_64 32 ((h 28 2) - 1)) <|
  w_gd ((if (v_64 h 32 ((h 28 2) - 1)) = 0 then g_65 h 32 ((h 28 2) - 1) else true)) <|
  q_27_16 h x1 x2 ((h 28 2) - 1) (if (v_64 h 32 ((h 28 2) - 1)) = 0 then (v_65 h 32 ((h 28 2) - 1)) else 1 : Int32)
theorem p_27_ok {X : List Int32}  {h : Hp} {x1 : Int32} {x2 : Int32}  {r : Int32 × Hp} (hF : p_27 h x1 x2 = some r) : k_Ev X 1 27 [.ref (28 + 1), .int x1, .int x2] h (.inl (some (.int r.1)), r.2) := by
  refine k_of hk_27 ?_
  show k_Go X 1 27 (0, [.ref (28 + 1), .int x1, .int x2, (.retAddr 0), (.retAddr 0), (.retAddr 0), (.retAddr 0)], []) h _
  unfold p_27 at hF
  refine kg_aload hk_27 rfl rfl rfl ?_
  refine kg_get (v := .int (h 28 2)) hk_27 rfl wk_28_2 rfl rfl ?_
  refine kg_push (x := 1) hk_27 rfl (by decide) rfl ?_
  refine kg_bin (z := ((h 28 2) - 1)) hk_27 rfl rfl rfl ?_
  refine kg_istore (L2 := [.ref (28 + 1), .int x1, .int x2, .int ((h 28 2) - 1), (.retAddr 0), (.retAddr 0), (.retAddr 0)]) hk_27 rfl (Nat.le_of_ble_eq_true rfl) rfl rfl ?_
  refine kg_aload hk_27 rfl rfl rfl ?_
  refine kg_get (v := .ref (32 + 1)) hk_27 rfl wk_28_1 rfl rfl ?_
  refine kg_iload hk_27 rfl rfl rfl ?_
  refine wf_gd hF (fun gz1 hF => ?_)
  refine kg_call (as := [.ref (32 + 1), .int ((h 28 2) - 1)]) (rest := []) hk_27 rfl (Or.inr (Or.inr (Or.inr ⟨Or.inl rfl, _, _, rfl, wc_32⟩))) rfl rfl rfl (Nat.not_lt.mpr (Nat.le_of_ble_eq_true rfl)) (v_64_ok wc_32 gz1) (by decide) rfl ?_
  refine wf_gd hF (fun gz4 hF => ?_)
  refine kv_mid (p := 16) (L := [.ref (28 + 1), .int x1, .int x2, .int ((h 28 2) - 1), (.retAddr 0), (.retAddr 0), (.retAddr 0)]) (S := [.int (if (v_64 h 32 ((h 28 2) - 1)) = 0 then (v_65 h 32 ((h 28 2) - 1)) else 1 : Int32)]) ?_ (fun hK => ?_)
  · exact q_27_16_ok hF _ _ _
  · have hg := gz4
    by_cases cz2 : (v_64 h 32 ((h 28 2) - 1)) = 0
    · have hg := wv_T cz2 hg
      have hK := kv_T cz2 hK
      have gz3 := hg
      refine kg_ifT hk_27 rfl (jc_T0 cz2) ?_
      refine kg_aload hk_27 rfl rfl rfl ?_
      refine kg_get (v := .ref (32 + 1)) hk_27 rfl wk_28_1 rfl rfl ?_
      refine kg_iload hk_27 rfl rfl rfl ?_
      refine kg_call (as := [.ref (32 + 1), .int ((h 28 2) - 1)]) (rest := []) hk_27 rfl (Or.inr (Or.inr (Or.inr ⟨Or.inl rfl, _, _, rfl, wc_32⟩))) rfl rfl rfl (Nat.not_lt.mpr (Nat.le_of_ble_eq_true rfl)) (v_65_ok wc_32 gz3) (by decide) rfl ?_
      exact hK
    · have hK := kv_F cz2 hK
      refine kg_ifF hk_27 rfl (jc_F0 cz2) rfl ?_
      refine kg_push (x := 1) hk_27 rfl (by decide) rfl ?_
      refine kg_goto hk_27 rfl ?_
      exact hK
-- NotebookWeir$Machine.sumUp(I)I
theorem hk_29 : jP[29]? = some (jc_29, 6, [], []) := by rfl
def l_29_15 (h : Hp) (x2 : Int32) (x3 : Int32) (x4 : Int32) (x5 : Int32) : Option ((Int32 × Int32 × Int32) ⊕ Int32 × Int32) :=
  w_gd (g_65 h 32 x2) <|
  if x5 < (v_65 h 32 x2) then
    (w_gd (g_66 32 x2 x5) <|
    w_gd (g_66 32 x2 x5) <|
    some (.inl ((x3 + (v_66 h 32 x2 x5)), (if x4 < (v_66 h 32 x2 x5) then (v_66 h 32 x2 x5) else x4 : Int32), (x5 + 1))))
  else
    (some (.inr (x3, x4)))
theorem l_29_15_st {X : List Int32} {o : kO}  {h : Hp} {x1 : Int32} {x2 : Int32} {x3 : Int32} {x4 : Int32} {x5 : Int32}  {r : (Int32 × Int32 × Int32) ⊕ Int32 × Int32} (hF : l_29_15 h x2 x3 x4 x5 = some r) (hK : ∀ s' : Int32 × Int32 × Int32, r = .inl s' → k_Go X 1 29 (15, [.ref (28 + 1), .int x1, .int x2, .int (s'.1), .int (s'.2.1), .int (s'.2.2)], []) h o) (hX0 : ∀ e : Int32 × Int32, r = .inr e → ∀ (u5 : Value), k_Go X 1 29 (39, [.ref (28 + 1), .int x1, .int x2, .int e.1, .int e.2, u5], []) h o) : k_Go X 1 29 (15, [.ref (28 + 1), .int x1, .int x2, .int x3, .int x4, .int x5], []) h o := by
  refine kg_iload hk_29 rfl rfl rfl ?_
  refine kg_aload hk_29 rfl rfl rfl ?_
  refine kg_get (v := .ref (32 + 1)) hk_29 rfl wk_28_1 rfl rfl ?_
  refine kg_iload hk_29 rfl rfl rfl ?_
  refine wf_gd hF (fun gz2 hF => ?_)
  refine kg_call (as := [.ref (32 + 1), .int x2]) (rest := [.int x5]) hk_29 rfl (Or.inr (Or.inr (Or.inr ⟨Or.inl rfl, _, _, rfl, wc_32⟩))) rfl rfl rfl (Nat.not_lt.mpr (Nat.le_of_ble_eq_true rfl)) (v_65_ok wc_32 gz2) (by decide) rfl ?_
  refine wf_if hF (fun cz3 hF => ?_) (fun cz3 hF => ?_)
  · refine kg_icF hk_29 rfl (jc_F3 cz3) rfl ?_
    refine kg_iload hk_29 rfl rfl rfl ?_
    refine kg_aload hk_29 rfl rfl rfl ?_
    refine kg_get (v := .ref (32 + 1)) hk_29 rfl wk_28_1 rfl rfl ?_
    refine kg_iload hk_29 rfl rfl rfl ?_
    refine kg_iload hk_29 rfl rfl rfl ?_
    refine wf_gd hF (fun gz4 hF => ?_)
    refine kg_call (as := [.ref (32 + 1), .int x2, .int x5]) (rest := [.int x3]) hk_29 rfl (Or.inr (Or.inr (Or.inr ⟨Or.inl rfl, _, _, rfl, wc_32⟩))) rfl rfl rfl (Nat.not_lt.mpr (Nat.le_of_ble_eq_true rfl)) (v_66_ok wc_32 gz4) (by decide) rfl ?_
    refine kg_bin (z := (x3 + (v_66 h 32 x2 x5))) hk_29 rfl rfl rfl ?_
    refine kg_istore (L2 := [.ref (28 + 1), .int x1, .int x2, .int (x3 + (v_66 h 32 x2 x5)), .int x4, .int x5]) hk_29 rfl (Nat.le_of_ble_eq_true rfl) rfl rfl ?_
    refine kg_iload hk_29 rfl rfl rfl ?_
    refine kg_aload hk_29 rfl rfl rfl ?_
    refine kg_get (v := .ref (32 + 1)) hk_29 rfl wk_28_1 rfl rfl ?_
    refine kg_iload hk_29 rfl rfl rfl ?_
    refine kg_iload hk_29 rfl rfl rfl ?_
    refine wf_gd hF (fun gz5 hF => ?_)
    refine kg_call (as := [.ref (32 + 1), .int x2, .int x5]) (rest := [.int x4]) hk_29 rfl (Or.inr (Or.inr (Or.inr ⟨Or.inl rfl, _, _, rfl, wc_32⟩))) rfl rfl rfl (Nat.not_lt.mpr (Nat.le_of_ble_eq_true rfl)) (v_66_ok wc_32 gz5) (by decide) rfl ?_
    refine kg_max hk_29 rfl (Nat.not_lt.mpr (Nat.le_of_ble_eq_true rfl)) rfl ?_
    refine kg_istore (L2 := [.ref (28 + 1), .int x1, .int x2, .int (x3 + (v_66 h 32 x2 x5)), .int (if x4 < (v_66 h 32 x2 x5) then (v_66 h 32 x2 x5) else x4 : Int32), .int x5]) hk_29 rfl (Nat.le_of_ble_eq_true rfl) rfl rfl ?_
    refine kg_iinc (y := (x5 + 1)) (L2 := [.ref (28 + 1), .int x1, .int x2, .int (x3 + (v_66 h 32 x2 x5)), .int (if x4 < (v_66 h 32 x2 x5) then (v_66 h 32 x2 x5) else x4 : Int32), .int (x5 + 1)]) hk_29 rfl rfl rfl rfl rfl ?_
    refine kg_goto hk_29 rfl ?_
    have hF := Option.some.inj hF
    exact hK _ hF.symm
  · refine kg_icT hk_29 rfl (jc_T3 cz3) ?_
    have hF := Option.some.inj hF
    exact hX0 _ hF.symm _
theorem l_29_15_ok {X : List Int32} {o : kO}  {h : Hp} {x1 : Int32} {x2 : Int32}  {n : Nat} {s : Int32 × Int32 × Int32} {e : Int32 × Int32} (hF : w_lp (fun (s : Int32 × Int32 × Int32) => l_29_15 h x2 s.1 s.2.1 s.2.2) n s = some e) (hX0 : ∀ (u5 : Value), k_Go X 1 29 (39, [.ref (28 + 1), .int x1, .int x2, .int e.1, .int e.2, u5], []) h o) : k_Go X 1 29 (15, [.ref (28 + 1), .int x1, .int x2, .int s.1, .int s.2.1, .int s.2.2], []) h o := by
  exact w_lp_ok (P := (fun (s : Int32 × Int32 × Int32) => k_Go X 1 29 (15, [.ref (28 + 1), .int x1, .int x2, .int s.1, .int s.2.1, .int s.2.2], []) h o)) (Q := (fun (e : Int32 × Int32) => (∀ (u5 : Value), k_Go X 1 29 (39, [.ref (28 + 1), .int x1, .int x2, .int e.1, .int e.2, u5], []) h o))) (fun s r hF hK hX => l_29_15_st hF hK (fun x hx => (hX _ hx))) n s e hF hX0
def q_29_55 (h : Hp) (s0 : Int32) (s1 : Int32) : Option (Int32 × Hp) :=
  (p_68 h 32 s1 s0).bind fun vz10 =>
  some (0, vz10)
theorem q_29_55_ok {X : List Int32}   {h : Hp} {s0 : Int32} {s1 : Int32}  {r : Int32 × Hp} (hF : q_29_55 h s0 s1 = some r)  : ∀ (u0 : Value) (u1 : Value) (u2 : Value) (u3 : Value) (u4 : Value) (u5 : Value), k_Go X 1 29 (55, [u0, u1, u2, u3, u4, u5], [.int s0, .int s1, .ref (32 + 1)]) h (.inl (some (.int r.1)), r.2) := by
  intro u0 u1 u2 u3 u4 u5
  unfold q_29_55 at hF
  refine wf_bind hF (fun vz10 hvz10 hF => ?_)
  refine kg_call (as := [.ref (32 + 1), .int s1, .int s0]) (rest := []) hk_29 rfl (Or.inr (Or.inr (Or.inr ⟨Or.inl rfl, _, _, rfl, wc_32⟩))) rfl rfl rfl (Nat.not_lt.mpr (Nat.le_of_ble_eq_true rfl)) (p_68_ok wc_32 hvz10) (by decide) rfl ?_
  refine kg_push (x := 0) hk_29 rfl (by decide) rfl ?_
  have hF := Option.some.inj hF
  subst hF
  exact kg_iret hk_29 rfl (Or.inl rfl) rfl
def q_29_46 (h : Hp) (x1 : Int32) (x2 : Int32) (x3 : Int32) (x4 : Int32) : Option (Int32 × Hp) :=
  q_29_55 h (if x1 = 18 then x3 else x4 : Int32) x2
theorem q_29_46_ok {X : List Int32}   {h : Hp} {x1 : Int32} {x2 : Int32} {x3 : Int32} {x4 : Int32}  {r : Int32 × Hp} (hF : q_29_46 h x1 x2 x3 x4 = some r)  : ∀ (u5 : Value), k_Go X 1 29 (46, [.ref (28 + 1), .int x1, .int x2, .int x3, .int x4, u5], []) h (.inl (some (.int r.1)), r.2) := by
  intro u5
  unfold q_29_46 at hF
  refine kg_aload hk_29 rfl rfl rfl ?_
  refine kg_get (v := .ref (32 + 1)) hk_29 rfl wk_28_1 rfl rfl ?_
  refine kg_iload hk_29 rfl rfl rfl ?_
  refine kg_iload hk_29 rfl rfl rfl ?_
  refine kg_push (x := 18) hk_29 rfl (by decide) rfl ?_
  refine kv_mid (p := 55) (L := [.ref (28 + 1), .int x1, .int x2, .int x3, .int x4, u5]) (S := [.int (if x1 = 18 then x3 else x4 : Int32), .int x2, .ref (32 + 1)]) ?_ (fun hK => ?_)
  · exact q_29_55_ok hF _ _ _ _ _ _
  · by_cases cz9 : x1 = 18
    · have hK := kv_T cz9 hK
      refine kg_icF hk_29 rfl (jc_F1 cz9) rfl ?_
      refine kg_iload hk_29 rfl rfl rfl ?_
      refine kg_goto hk_29 rfl ?_
      exact hK
    · have hK := kv_F cz9 hK
      refine kg_icT hk_29 rfl (jc_T1 cz9) ?_
      refine kg_iload hk_29 rfl rfl rfl ?_
      exact hK
def p_29 (h : Hp) (x1 : Int32) : Option (Int32 × Hp) :=
  w_gd (g_66 32 ((h 28 2) - 1) 0) <|
  (w_lp (fun (s : Int32 × Int32 × Int32) => l_29_15 h ((h 28 2) - 1) s.1 s.2.1 s.2.2) w_N (0, (v_66 h 32 ((h 28 2) - 1) 0), 0)).bind fun ez6 =>
  w_gd (g_65 h 32 ((h 28 2) - 1)) <|
  if (v_65 h 32 ((h 28 2) - 1)) = 0 then
    (q_29_46 h x1 ((h 28 2) - 1) ez6.1 0)
  else
    (q_29_46 h x1 ((h 28 2) - 1) ez6.1 ez6.2)
theorem p_29_ok {X : List Int32}  {h : Hp} {x1 : Int32}  {r : Int32 × Hp} (hF : p_29 h x1 = some r) : k_Ev X 1 29 [.ref (28 + 1), .int x1] h (.inl (some (.int r.1)), r.2) := by
  refine k_of hk_29 ?_
  show k_Go X 1 29 (0, [.ref (28 + 1), .int x1, (.retAddr 0), (.retAddr 0), (.retAddr 0), (.retAddr 0)], []) h _
  unfold p_29 at hF
  refine kg_aload hk_29 rfl rfl rfl ?_
  refine kg_get (v := .int (h 28 2)) hk_29 rfl wk_28_2 rfl rfl ?_
  refine kg_push (x := 1) hk_29 rfl (by decide) rfl ?_
  refine kg_bin (z := ((h 28 2) - 1)) hk_29 rfl rfl rfl ?_
  refine kg_istore (L2 := [.ref (28 + 1), .int x1, .int ((h 28 2) - 1), (.retAddr 0), (.retAddr 0), (.retAddr 0)]) hk_29 rfl (Nat.le_of_ble_eq_true rfl) rfl rfl ?_
  refine kg_push (x := 0) hk_29 rfl (by decide) rfl ?_
  refine kg_istore (L2 := [.ref (28 + 1), .int x1, .int ((h 28 2) - 1), .int 0, (.retAddr 0), (.retAddr 0)]) hk_29 rfl (Nat.le_of_ble_eq_true rfl) rfl rfl ?_
  refine kg_aload hk_29 rfl rfl rfl ?_
  refine kg_get (v := .ref (32 + 1)) hk_29 rfl wk_28_1 rfl rfl ?_
  refine kg_iload hk_29 rfl rfl rfl ?_
  refine kg_push (x := 0) hk_29 rfl (by decide) rfl ?_
  refine wf_gd hF (fun gz1 hF => ?_)
  refine kg_call (as := [.ref (32 + 1), .int ((h 28 2) - 1), .int 0]) (rest := []) hk_29 rfl (Or.inr (Or.inr (Or.inr ⟨Or.inl rfl, _, _, rfl, wc_32⟩))) rfl rfl rfl (Nat.not_lt.mpr (Nat.le_of_ble_eq_true rfl)) (v_66_ok wc_32 gz1) (by decide) rfl ?_
  refine kg_istore (L2 := [.ref (28 + 1), .int x1, .int ((h 28 2) - 1), .int 0, .int (v_66 h 32 ((h 28 2) - 1) 0), (.retAddr 0)]) hk_29 rfl (Nat.le_of_ble_eq_true rfl) rfl rfl ?_
  refine kg_push (x := 0) hk_29 rfl (by decide) rfl ?_
  refine kg_istore (L2 := [.ref (28 + 1), .int x1, .int ((h 28 2) - 1), .int 0, .int (v_66 h 32 ((h 28 2) - 1) 0), .int 0]) hk_29 rfl (Nat.le_of_ble_eq_true rfl) rfl rfl ?_
  refine wf_bind hF (fun ez6 hez6 hF => ?_)
  refine l_29_15_ok hez6 ?_
  intro u5
  refine kg_aload hk_29 rfl rfl rfl ?_
  refine kg_get (v := .ref (32 + 1)) hk_29 rfl wk_28_1 rfl rfl ?_
  refine kg_iload hk_29 rfl rfl rfl ?_
  refine wf_gd hF (fun gz7 hF => ?_)
  refine kg_call (as := [.ref (32 + 1), .int ((h 28 2) - 1)]) (rest := []) hk_29 rfl (Or.inr (Or.inr (Or.inr ⟨Or.inl rfl, _, _, rfl, wc_32⟩))) rfl rfl rfl (Nat.not_lt.mpr (Nat.le_of_ble_eq_true rfl)) (v_65_ok wc_32 gz7) (by decide) rfl ?_
  refine wf_if hF (fun cz8 hF => ?_) (fun cz8 hF => ?_)
  · refine kg_ifF hk_29 rfl (jc_F1 cz8) rfl ?_
    refine kg_push (x := 0) hk_29 rfl (by decide) rfl ?_
    refine kg_istore (L2 := [.ref (28 + 1), .int x1, .int ((h 28 2) - 1), .int ez6.1, .int 0, u5]) hk_29 rfl (Nat.le_of_ble_eq_true rfl) rfl rfl ?_
    exact q_29_46_ok hF _
  · refine kg_ifT hk_29 rfl (jc_T1 cz8) ?_
    exact q_29_46_ok hF _
-- NotebookWeir$Source.draw(Z)I
theorem hk_54 : jP[54]? = some (jc_54, 3, [], []) := by rfl
def q_54_64 (h : Hp) (x2 : Int32) : Option (Int32 × Hp) :=
  w_let (w_up h 40 3 ((h 40 3) + 1)) fun hz6 =>
  some (x2, hz6)
theorem q_54_64_ok {X : List Int32}   {h : Hp} {x2 : Int32}  {r : Int32 × Hp} (hF : q_54_64 h x2 = some r)  : ∀ (u1 : Value), k_Go X 0 54 (64, [.ref (40 + 1), u1, .int x2], []) h (.inl (some (.int r.1)), r.2) := by
  intro u1
  unfold q_54_64 at hF
  refine kg_aload hk_54 rfl rfl rfl ?_
  refine kg_dup hk_54 rfl rfl rfl ?_
  refine kg_get (v := .int (h 40 3)) hk_54 rfl wk_40_3 rfl rfl ?_
  refine kg_push (x := 1) hk_54 rfl (by decide) rfl ?_
  refine kg_bin (z := ((h 40 3) + 1)) hk_54 rfl rfl rfl ?_
  refine wf_let hF (fun hz6 hhz6 hF => ?_)
  refine kg_put hk_54 rfl wk_40_3 rfl rfl hhz6 rfl ?_
  refine kg_iload hk_54 rfl rfl rfl ?_
  have hF := Option.some.inj hF
  subst hF
  exact kg_iret hk_54 rfl (Or.inl rfl) rfl
def q_54_47 (h : Hp) (x2 : Int32) : Option (Int32 × Hp) :=
  if (h 40 5) = 0 then
    (q_54_64 h x2)
  else
    (w_gd (w_tag (h 40 2).toNatClampNeg == 2 && 2 != 999) <|
    w_gd (w_ix (h 40 3) 40) <|
    w_let (w_up h ((h 40 2).toNatClampNeg + 3) ((h 40 3).toNatClampNeg) x2) fun hz9 =>
    w_gd (w_tag (hz9 40 2).toNatClampNeg == 2 && 2 != 999) <|
    w_let (w_up hz9 ((hz9 40 2).toNatClampNeg) 2 ((hz9 40 3) + 1)) fun hz11 =>
    q_54_64 hz11 x2)
theorem q_54_47_ok {X : List Int32}   {h : Hp} {x2 : Int32}  {r : Int32 × Hp} (hF : q_54_47 h x2 = some r)  : ∀ (u1 : Value), k_Go X 0 54 (47, [.ref (40 + 1), u1, .int x2], []) h (.inl (some (.int r.1)), r.2) := by
  intro u1
  unfold q_54_47 at hF
  refine kg_aload hk_54 rfl rfl rfl ?_
  refine kg_get (v := .int (h 40 5)) hk_54 rfl wk_40_5 rfl rfl ?_
  refine wf_if hF (fun cz5 hF => ?_) (fun cz5 hF => ?_)
  · refine kg_ifT hk_54 rfl (jc_T0 cz5) ?_
    exact q_54_64_ok hF _
  · refine kg_ifF hk_54 rfl (jc_F0 cz5) rfl ?_
    refine kg_aload hk_54 rfl rfl rfl ?_
    refine wf_gd hF (fun gz7 hF => ?_)
    refine kg_get (v := .ref (((h 40 2).toNatClampNeg) + 1)) hk_54 rfl wk_40_2 rfl rfl ?_
    refine kg_get (v := .ref (((h 40 2).toNatClampNeg + 3) + 1)) hk_54 rfl (wf_2_1 (w_tagE gz7)) rfl rfl ?_
    refine kg_aload hk_54 rfl rfl rfl ?_
    refine kg_get (v := .int (h 40 3)) hk_54 rfl wk_40_3 rfl rfl ?_
    refine kg_iload hk_54 rfl rfl rfl ?_
    refine wf_gd hF (fun gz8 hF => ?_)
    refine wf_let hF (fun hz9 hhz9 hF => ?_)
    refine kg_ast hk_54 rfl (wo_2_1 (w_tagE gz7)) gz8 hhz9 rfl ?_
    refine kg_aload hk_54 rfl rfl rfl ?_
    refine wf_gd hF (fun gz10 hF => ?_)
    refine kg_get (v := .ref (((hz9 40 2).toNatClampNeg) + 1)) hk_54 rfl wk_40_2 rfl rfl ?_
    refine kg_aload hk_54 rfl rfl rfl ?_
    refine kg_get (v := .int (hz9 40 3)) hk_54 rfl wk_40_3 rfl rfl ?_
    refine kg_push (x := 1) hk_54 rfl (by decide) rfl ?_
    refine kg_bin (z := ((hz9 40 3) + 1)) hk_54 rfl rfl rfl ?_
    refine wf_let hF (fun hz11 hhz11 hF => ?_)
    refine kg_put hk_54 rfl (wf_2_2 (w_tagE gz10)) rfl rfl hhz11 rfl ?_
    exact q_54_64_ok hF _
def q_54_46 (h : Hp) (s0 : Int32) : Option (Int32 × Hp) :=
  q_54_47 h s0
theorem q_54_46_ok {X : List Int32}   {h : Hp} {s0 : Int32}  {r : Int32 × Hp} (hF : q_54_46 h s0 = some r)  : ∀ (u1 : Value) (u2 : Value), k_Go X 0 54 (46, [.ref (40 + 1), u1, u2], [.int s0]) h (.inl (some (.int r.1)), r.2) := by
  intro u1 u2
  unfold q_54_46 at hF
  refine kg_istore (L2 := [.ref (40 + 1), u1, .int s0]) hk_54 rfl (Nat.le_of_ble_eq_true rfl) rfl rfl ?_
  exact q_54_47_ok hF _
def q_54_38 (h : Hp) (x1 : Int32) (s0 : Int32) : Option (Int32 × Hp) :=
  w_let (w_up h 40 0 s0) fun hz14 =>
  q_54_46 hz14 (if x1 = 0 then (hz14 40 0) else (hz14 40 1) : Int32)
theorem q_54_38_ok {X : List Int32}   {h : Hp} {s0 : Int32} {x1 : Int32}  {r : Int32 × Hp} (hF : q_54_38 h x1 s0 = some r)  : ∀ (u2 : Value), k_Go X 0 54 (38, [.ref (40 + 1), .int x1, u2], [.int s0, .ref (40 + 1)]) h (.inl (some (.int r.1)), r.2) := by
  intro u2
  unfold q_54_38 at hF
  refine wf_let hF (fun hz14 hhz14 hF => ?_)
  refine kg_put hk_54 rfl wk_40_0 rfl rfl hhz14 rfl ?_
  refine kg_iload hk_54 rfl rfl rfl ?_
  refine kv_mid (p := 46) (L := [.ref (40 + 1), .int x1, u2]) (S := [.int (if x1 = 0 then (hz14 40 0) else (hz14 40 1) : Int32)]) ?_ (fun hK => ?_)
  · exact q_54_46_ok hF _ _
  · by_cases cz15 : x1 = 0
    · have hK := kv_T cz15 hK
      refine kg_ifT hk_54 rfl (jc_T0 cz15) ?_
      refine kg_aload hk_54 rfl rfl rfl ?_
      refine kg_get (v := .int (hz14 40 0)) hk_54 rfl wk_40_0 rfl rfl ?_
      exact hK
    · have hK := kv_F cz15 hK
      refine kg_ifF hk_54 rfl (jc_F0 cz15) rfl ?_
      refine kg_aload hk_54 rfl rfl rfl ?_
      refine kg_get (v := .int (hz14 40 1)) hk_54 rfl wk_40_1 rfl rfl ?_
      refine kg_goto hk_54 rfl ?_
      exact hK
def p_54 (h : Hp) (x1 : Int32) : Option (Int32 × Hp) :=
  if (h 40 3) < 40 then
    (if (h 40 3) < (h 40 4) then
      (w_gd (w_tag (h 40 2).toNatClampNeg == 2 && 2 != 999) <|
      w_gd (w_ix (h 40 3) 40) <|
      q_54_47 h (h ((h 40 2).toNatClampNeg + 3) (h 40 3).toNatClampNeg))
    else
      (if (h 40 5) = 0 then
        (q_54_47 h 0)
      else
        (q_54_38 h x1 (if x1 = 0 then (((75 * (h 40 0)) + 74) - ((75 * (h 40 0)) + 74) / 65537 * 65537) else (h 40 0) : Int32))))
  else
    (some (0, h))
theorem p_54_ok {X : List Int32}  {h : Hp} {x1 : Int32}  {r : Int32 × Hp} (hF : p_54 h x1 = some r) : k_Ev X 0 54 [.ref (40 + 1), .int x1] h (.inl (some (.int r.1)), r.2) := by
  refine k_of hk_54 ?_
  show k_Go X 0 54 (0, [.ref (40 + 1), .int x1, (.retAddr 0)], []) h _
  unfold p_54 at hF
  refine kg_aload hk_54 rfl rfl rfl ?_
  refine kg_get (v := .int (h 40 3)) hk_54 rfl wk_40_3 rfl rfl ?_
  refine kg_push (x := 40) hk_54 rfl (by decide) rfl ?_
  refine wf_if hF (fun cz1 hF => ?_) (fun cz1 hF => ?_)
  · refine kg_icT hk_54 rfl (jc_T2 cz1) ?_
    refine kg_push (x := 0) hk_54 rfl (by decide) rfl ?_
    refine kg_istore (L2 := [.ref (40 + 1), .int x1, .int 0]) hk_54 rfl (Nat.le_of_ble_eq_true rfl) rfl rfl ?_
    refine kg_aload hk_54 rfl rfl rfl ?_
    refine kg_get (v := .int (h 40 3)) hk_54 rfl wk_40_3 rfl rfl ?_
    refine kg_aload hk_54 rfl rfl rfl ?_
    refine kg_get (v := .int (h 40 4)) hk_54 rfl wk_40_4 rfl rfl ?_
    refine wf_if hF (fun cz2 hF => ?_) (fun cz2 hF => ?_)
    · refine kg_icF hk_54 rfl (jc_F3 cz2) rfl ?_
      refine kg_aload hk_54 rfl rfl rfl ?_
      refine wf_gd hF (fun gz3 hF => ?_)
      refine kg_get (v := .ref (((h 40 2).toNatClampNeg) + 1)) hk_54 rfl wk_40_2 rfl rfl ?_
      refine kg_get (v := .ref (((h 40 2).toNatClampNeg + 3) + 1)) hk_54 rfl (wf_2_1 (w_tagE gz3)) rfl rfl ?_
      refine kg_aload hk_54 rfl rfl rfl ?_
      refine kg_get (v := .int (h 40 3)) hk_54 rfl wk_40_3 rfl rfl ?_
      refine wf_gd hF (fun gz4 hF => ?_)
      refine kg_ald (y := (h ((h 40 2).toNatClampNeg + 3) (h 40 3).toNatClampNeg)) hk_54 rfl (wo_2_1 (w_tagE gz3)) gz4 rfl rfl ?_
      refine kg_istore (L2 := [.ref (40 + 1), .int x1, .int (h ((h 40 2).toNatClampNeg + 3) (h 40 3).toNatClampNeg)]) hk_54 rfl (Nat.le_of_ble_eq_true rfl) rfl rfl ?_
      refine kg_goto hk_54 rfl ?_
      exact q_54_47_ok hF _
    · refine kg_icT hk_54 rfl (jc_T3 cz2) ?_
      refine kg_aload hk_54 rfl rfl rfl ?_
      refine kg_get (v := .int (h 40 5)) hk_54 rfl wk_40_5 rfl rfl ?_
      refine wf_if hF (fun cz12 hF => ?_) (fun cz12 hF => ?_)
      · refine kg_ifT hk_54 rfl (jc_T0 cz12) ?_
        exact q_54_47_ok hF _
      · refine kg_ifF hk_54 rfl (jc_F0 cz12) rfl ?_
        refine kg_aload hk_54 rfl rfl rfl ?_
        refine kg_iload hk_54 rfl rfl rfl ?_
        refine kv_mid (p := 38) (L := [.ref (40 + 1), .int x1, .int 0]) (S := [.int (if x1 = 0 then (((75 * (h 40 0)) + 74) - ((75 * (h 40 0)) + 74) / 65537 * 65537) else (h 40 0) : Int32), .ref (40 + 1)]) ?_ (fun hK => ?_)
        · exact q_54_38_ok hF _
        · by_cases cz13 : x1 = 0
          · have hK := kv_T cz13 hK
            refine kg_ifT hk_54 rfl (jc_T0 cz13) ?_
            refine kg_push (x := 75) hk_54 rfl (by decide) rfl ?_
            refine kg_aload hk_54 rfl rfl rfl ?_
            refine kg_get (v := .int (h 40 0)) hk_54 rfl wk_40_0 rfl rfl ?_
            refine kg_bin (z := (75 * (h 40 0))) hk_54 rfl rfl rfl ?_
            refine kg_push (x := 74) hk_54 rfl (by decide) rfl ?_
            refine kg_bin (z := ((75 * (h 40 0)) + 74)) hk_54 rfl rfl rfl ?_
            refine kg_push (x := 65537) hk_54 rfl (by decide) rfl ?_
            refine kg_bin (z := (((75 * (h 40 0)) + 74) - ((75 * (h 40 0)) + 74) / 65537 * 65537)) hk_54 rfl (j_rem (by decide)) rfl ?_
            exact hK
          · have hK := kv_F cz13 hK
            refine kg_ifF hk_54 rfl (jc_F0 cz13) rfl ?_
            refine kg_aload hk_54 rfl rfl rfl ?_
            refine kg_get (v := .int (h 40 0)) hk_54 rfl wk_40_0 rfl rfl ?_
            refine kg_goto hk_54 rfl ?_
            exact hK
  · refine kg_icF hk_54 rfl (jc_F2 cz1) rfl ?_
    refine kg_push (x := 0) hk_54 rfl (by decide) rfl ?_
    have hF := Option.some.inj hF
    subst hF
    exact kg_iret hk_54 rfl (Or.inl rfl) rfl
-- NotebookWeir$Machine.takeStep(II)I
theorem hk_18 : jP[18]? = some (jc_18, 3, [], [2, 6, 10, 17, 24, 24, 24, 28, 32, 35, 47, 51, 60, 64, 68, 76, 76, 76, 72, 72]) := by rfl
def p_18 (h : Hp) (x1 : Int32) (x2 : Int32) : Option (Int32 × Hp) :=
  if x1 = 0 then
    ((p_19 h x2).bind fun vz2 =>
    some (vz2.1, vz2.2))
  else if x1 = 1 then
    ((p_20 h x2).bind fun vz3 =>
    some (vz3.1, vz3.2))
  else if x1 = 2 then
    (w_gd ((h 28 4) == 40) <|
    (p_54 h 0).bind fun vz5 =>
    (p_19 vz5.2 vz5.1).bind fun vz6 =>
    some (vz6.1, vz6.2))
  else if x1 = 3 then
    (w_gd ((h 28 4) == 40) <|
    (p_54 h 1).bind fun vz8 =>
    (p_19 vz8.2 vz8.1).bind fun vz9 =>
    some (vz9.1, vz9.2))
  else if x1 = 4 then
    ((p_22 h x1).bind fun vz10 =>
    some (vz10.1, vz10.2))
  else if x1 = 5 then
    ((p_22 h x1).bind fun vz11 =>
    some (vz11.1, vz11.2))
  else if x1 = 6 then
    ((p_22 h x1).bind fun vz12 =>
    some (vz12.1, vz12.2))
  else if x1 = 7 then
    ((p_24 h x2).bind fun vz13 =>
    some (vz13.1, vz13.2))
  else if x1 = 8 then
    ((p_25 h).bind fun vz14 =>
    some (vz14.1, vz14.2))
  else if x1 = 9 then
    (w_gd (g_64 32 ((h 28 2) - 1)) <|
    some ((if (v_64 h 32 ((h 28 2) - 1)) = 0 then 2 else 0 : Int32), h))
  else if x1 = 10 then
    ((p_26 h x2).bind fun vz17 =>
    some (vz17.1, vz17.2))
  else if x1 = 11 then
    (w_gd (g_63 29 x2) <|
    some ((if (v_63 h 29 x2) = 0 then 1 else 0 : Int32), h))
  else if x1 = 12 then
    ((p_21 h x2).bind fun vz20 =>
    some (vz20.1, vz20.2))
  else if x1 = 13 then
    ((p_23 h x2).bind fun vz21 =>
    some (vz21.1, vz21.2))
  else if x1 = 14 then
    ((p_21 h 26).bind fun vz22 =>
    some (vz22.1, vz22.2))
  else if x1 = 15 then
    ((p_27 h x1 x2).bind fun vz23 =>
    some (vz23.1, vz23.2))
  else if x1 = 16 then
    ((p_27 h x1 x2).bind fun vz24 =>
    some (vz24.1, vz24.2))
  else if x1 = 17 then
    ((p_27 h x1 x2).bind fun vz25 =>
    some (vz25.1, vz25.2))
  else if x1 = 18 then
    ((p_29 h x1).bind fun vz26 =>
    some (vz26.1, vz26.2))
  else if x1 = 19 then
    ((p_29 h x1).bind fun vz27 =>
    some (vz27.1, vz27.2))
  else (p_27 h x1 x2).bind fun vz28 =>
  some (vz28.1, vz28.2)
theorem p_18_ok {X : List Int32}  {h : Hp} {x1 : Int32} {x2 : Int32}  {r : Int32 × Hp} (hF : p_18 h x1 x2 = some r) : k_Ev X 2 18 [.ref (28 + 1), .int x1, .int x2] h (.inl (some (.int r.1)), r.2) := by
  refine k_of hk_18 ?_
  show k_Go X 2 18 (0, [.ref (28 + 1), .int x1, .int x2], []) h _
  unfold p_18 at hF
  refine kg_iload hk_18 rfl rfl rfl ?_
  refine wf_if hF (fun cwz1_0 hF => ?_) (fun cwz1_0 hF => ?_)
  · refine kg_sw (j := 2) hk_18 rfl (by rw [cwz1_0]; rfl) ?_
    refine kg_aload hk_18 rfl rfl rfl ?_
    refine kg_iload hk_18 rfl rfl rfl ?_
    refine wf_bind hF (fun vz2 hvz2 hF => ?_)
    refine kg_call (as := [.ref (28 + 1), .int x2]) (rest := []) hk_18 rfl (Or.inr (Or.inr (Or.inr ⟨Or.inl rfl, _, _, rfl, wc_28⟩))) rfl rfl rfl (Nat.not_lt.mpr (Nat.le_of_ble_eq_true rfl)) (p_19_ok hvz2) (by decide) rfl ?_
    have hF := Option.some.inj hF
    subst hF
    exact kg_iret hk_18 rfl (Or.inl rfl) rfl
  refine wf_if hF (fun cwz1_1 hF => ?_) (fun cwz1_1 hF => ?_)
  · refine kg_sw (j := 6) hk_18 rfl (by rw [cwz1_1]; rfl) ?_
    refine kg_aload hk_18 rfl rfl rfl ?_
    refine kg_iload hk_18 rfl rfl rfl ?_
    refine wf_bind hF (fun vz3 hvz3 hF => ?_)
    refine kg_call (as := [.ref (28 + 1), .int x2]) (rest := []) hk_18 rfl (Or.inr (Or.inr (Or.inr ⟨Or.inl rfl, _, _, rfl, wc_28⟩))) rfl rfl rfl (Nat.not_lt.mpr (Nat.le_of_ble_eq_true rfl)) (p_20_ok hvz3) (by decide) rfl ?_
    have hF := Option.some.inj hF
    subst hF
    exact kg_iret hk_18 rfl (Or.inl rfl) rfl
  refine wf_if hF (fun cwz1_2 hF => ?_) (fun cwz1_2 hF => ?_)
  · refine kg_sw (j := 10) hk_18 rfl (by rw [cwz1_2]; rfl) ?_
    refine kg_aload hk_18 rfl rfl rfl ?_
    refine kg_aload hk_18 rfl rfl rfl ?_
    refine wf_gd hF (fun gz4 hF => ?_)
    refine kg_get (v := .ref (40 + 1)) hk_18 rfl wk_28_4 (by rw [beq_iff_eq.mp gz4]; rfl) rfl ?_
    refine kg_push (x := 0) hk_18 rfl (by decide) rfl ?_
    refine wf_bind hF (fun vz5 hvz5 hF => ?_)
    refine kg_call (as := [.ref (40 + 1), .int 0]) (rest := [.ref (28 + 1)]) hk_18 rfl (Or.inr (Or.inr (Or.inr ⟨Or.inl rfl, _, _, rfl, wc_40⟩))) rfl rfl rfl (Nat.not_lt.mpr (Nat.le_of_ble_eq_true rfl)) (p_54_ok hvz5) (by decide) rfl ?_
    refine wf_bind hF (fun vz6 hvz6 hF => ?_)
    refine kg_call (as := [.ref (28 + 1), .int vz5.1]) (rest := []) hk_18 rfl (Or.inr (Or.inr (Or.inr ⟨Or.inl rfl, _, _, rfl, wc_28⟩))) rfl rfl rfl (Nat.not_lt.mpr (Nat.le_of_ble_eq_true rfl)) (p_19_ok hvz6) (by decide) rfl ?_
    have hF := Option.some.inj hF
    subst hF
    exact kg_iret hk_18 rfl (Or.inl rfl) rfl
  refine wf_if hF (fun cwz1_3 hF => ?_) (fun cwz1_3 hF => ?_)
  · refine kg_sw (j := 17) hk_18 rfl (by rw [cwz1_3]; rfl) ?_
    refine kg_aload hk_18 rfl rfl rfl ?_
    refine kg_aload hk_18 rfl rfl rfl ?_
    refine wf_gd hF (fun gz7 hF => ?_)
    refine kg_get (v := .ref (40 + 1)) hk_18 rfl wk_28_4 (by rw [beq_iff_eq.mp gz7]; rfl) rfl ?_
    refine kg_push (x := 1) hk_18 rfl (by decide) rfl ?_
    refine wf_bind hF (fun vz8 hvz8 hF => ?_)
    refine kg_call (as := [.ref (40 + 1), .int 1]) (rest := [.ref (28 + 1)]) hk_18 rfl (Or.inr (Or.inr (Or.inr ⟨Or.inl rfl, _, _, rfl, wc_40⟩))) rfl rfl rfl (Nat.not_lt.mpr (Nat.le_of_ble_eq_true rfl)) (p_54_ok hvz8) (by decide) rfl ?_
    refine wf_bind hF (fun vz9 hvz9 hF => ?_)
    refine kg_call (as := [.ref (28 + 1), .int vz8.1]) (rest := []) hk_18 rfl (Or.inr (Or.inr (Or.inr ⟨Or.inl rfl, _, _, rfl, wc_28⟩))) rfl rfl rfl (Nat.not_lt.mpr (Nat.le_of_ble_eq_true rfl)) (p_19_ok hvz9) (by decide) rfl ?_
    have hF := Option.some.inj hF
    subst hF
    exact kg_iret hk_18 rfl (Or.inl rfl) rfl
  refine wf_if hF (fun cwz1_4 hF => ?_) (fun cwz1_4 hF => ?_)
  · refine kg_sw (j := 24) hk_18 rfl (by rw [cwz1_4]; rfl) ?_
    refine kg_aload hk_18 rfl rfl rfl ?_
    refine kg_iload hk_18 rfl rfl rfl ?_
    refine wf_bind hF (fun vz10 hvz10 hF => ?_)
    refine kg_call (as := [.ref (28 + 1), .int x1]) (rest := []) hk_18 rfl (Or.inr (Or.inr (Or.inr ⟨Or.inl rfl, _, _, rfl, wc_28⟩))) rfl rfl rfl (Nat.not_lt.mpr (Nat.le_of_ble_eq_true rfl)) (p_22_ok hvz10) (by decide) rfl ?_
    have hF := Option.some.inj hF
    subst hF
    exact kg_iret hk_18 rfl (Or.inl rfl) rfl
  refine wf_if hF (fun cwz1_5 hF => ?_) (fun cwz1_5 hF => ?_)
  · refine kg_sw (j := 24) hk_18 rfl (by rw [cwz1_5]; rfl) ?_
    refine kg_aload hk_18 rfl rfl rfl ?_
    refine kg_iload hk_18 rfl rfl rfl ?_
    refine wf_bind hF (fun vz11 hvz11 hF => ?_)
    refine kg_call (as := [.ref (28 + 1), .int x1]) (rest := []) hk_18 rfl (Or.inr (Or.inr (Or.inr ⟨Or.inl rfl, _, _, rfl, wc_28⟩))) rfl rfl rfl (Nat.not_lt.mpr (Nat.le_of_ble_eq_true rfl)) (p_22_ok hvz11) (by decide) rfl ?_
    have hF := Option.some.inj hF
    subst hF
    exact kg_iret hk_18 rfl (Or.inl rfl) rfl
  refine wf_if hF (fun cwz1_6 hF => ?_) (fun cwz1_6 hF => ?_)
  · refine kg_sw (j := 24) hk_18 rfl (by rw [cwz1_6]; rfl) ?_
    refine kg_aload hk_18 rfl rfl rfl ?_
    refine kg_iload hk_18 rfl rfl rfl ?_
    refine wf_bind hF (fun vz12 hvz12 hF => ?_)
    refine kg_call (as := [.ref (28 + 1), .int x1]) (rest := []) hk_18 rfl (Or.inr (Or.inr (Or.inr ⟨Or.inl rfl, _, _, rfl, wc_28⟩))) rfl rfl rfl (Nat.not_lt.mpr (Nat.le_of_ble_eq_true rfl)) (p_22_ok hvz12) (by decide) rfl ?_
    have hF := Option.some.inj hF
    subst hF
    exact kg_iret hk_18 rfl (Or.inl rfl) rfl
  refine wf_if hF (fun cwz1_7 hF => ?_) (fun cwz1_7 hF => ?_)
  · refine kg_sw (j := 28) hk_18 rfl (by rw [cwz1_7]; rfl) ?_
    refine kg_aload hk_18 rfl rfl rfl ?_
    refine kg_iload hk_18 rfl rfl rfl ?_
    refine wf_bind hF (fun vz13 hvz13 hF => ?_)
    refine kg_call (as := [.ref (28 + 1), .int x2]) (rest := []) hk_18 rfl (Or.inr (Or.inr (Or.inr ⟨Or.inl rfl, _, _, rfl, wc_28⟩))) rfl rfl rfl (Nat.not_lt.mpr (Nat.le_of_ble_eq_true rfl)) (p_24_ok hvz13) (by decide) rfl ?_
    have hF := Option.some.inj hF
    subst hF
    exact kg_iret hk_18 rfl (Or.inl rfl) rfl
  refine wf_if hF (fun cwz1_8 hF => ?_) (fun cwz1_8 hF => ?_)
  · refine kg_sw (j := 32) hk_18 rfl (by rw [cwz1_8]; rfl) ?_
    refine kg_aload hk_18 rfl rfl rfl ?_
    refine wf_bind hF (fun vz14 hvz14 hF => ?_)
    refine kg_call (as := [.ref (28 + 1)]) (rest := []) hk_18 rfl (Or.inr (Or.inr (Or.inr ⟨Or.inl rfl, _, _, rfl, wc_28⟩))) rfl rfl rfl (Nat.not_lt.mpr (Nat.le_of_ble_eq_true rfl)) (p_25_ok hvz14) (by decide) rfl ?_
    have hF := Option.some.inj hF
    subst hF
    exact kg_iret hk_18 rfl (Or.inl rfl) rfl
  refine wf_if hF (fun cwz1_9 hF => ?_) (fun cwz1_9 hF => ?_)
  · refine kg_sw (j := 35) hk_18 rfl (by rw [cwz1_9]; rfl) ?_
    refine kg_aload hk_18 rfl rfl rfl ?_
    refine kg_get (v := .ref (32 + 1)) hk_18 rfl wk_28_1 rfl rfl ?_
    refine kg_aload hk_18 rfl rfl rfl ?_
    refine kg_get (v := .int (h 28 2)) hk_18 rfl wk_28_2 rfl rfl ?_
    refine kg_push (x := 1) hk_18 rfl (by decide) rfl ?_
    refine kg_bin (z := ((h 28 2) - 1)) hk_18 rfl rfl rfl ?_
    refine wf_gd hF (fun gz15 hF => ?_)
    refine kg_call (as := [.ref (32 + 1), .int ((h 28 2) - 1)]) (rest := []) hk_18 rfl (Or.inr (Or.inr (Or.inr ⟨Or.inl rfl, _, _, rfl, wc_32⟩))) rfl rfl rfl (Nat.not_lt.mpr (Nat.le_of_ble_eq_true rfl)) (v_64_ok wc_32 gz15) (by decide) rfl ?_
    refine kv_mid (p := 46) (L := [.ref (28 + 1), .int x1, .int x2]) (S := [.int (if (v_64 h 32 ((h 28 2) - 1)) = 0 then 2 else 0 : Int32)]) ?_ (fun hK => ?_)
    · have hF := Option.some.inj hF
      subst hF
      exact kg_iret hk_18 rfl (Or.inl rfl) rfl
    · by_cases cz16 : (v_64 h 32 ((h 28 2) - 1)) = 0
      · have hK := kv_T cz16 hK
        refine kg_ifT hk_18 rfl (jc_T0 cz16) ?_
        refine kg_push (x := 2) hk_18 rfl (by decide) rfl ?_
        exact hK
      · have hK := kv_F cz16 hK
        refine kg_ifF hk_18 rfl (jc_F0 cz16) rfl ?_
        refine kg_push (x := 0) hk_18 rfl (by decide) rfl ?_
        refine kg_goto hk_18 rfl ?_
        exact hK
  refine wf_if hF (fun cwz1_10 hF => ?_) (fun cwz1_10 hF => ?_)
  · refine kg_sw (j := 47) hk_18 rfl (by rw [cwz1_10]; rfl) ?_
    refine kg_aload hk_18 rfl rfl rfl ?_
    refine kg_iload hk_18 rfl rfl rfl ?_
    refine wf_bind hF (fun vz17 hvz17 hF => ?_)
    refine kg_call (as := [.ref (28 + 1), .int x2]) (rest := []) hk_18 rfl (Or.inr (Or.inr (Or.inr ⟨Or.inl rfl, _, _, rfl, wc_28⟩))) rfl rfl rfl (Nat.not_lt.mpr (Nat.le_of_ble_eq_true rfl)) (p_26_ok hvz17) (by decide) rfl ?_
    have hF := Option.some.inj hF
    subst hF
    exact kg_iret hk_18 rfl (Or.inl rfl) rfl
  refine wf_if hF (fun cwz1_11 hF => ?_) (fun cwz1_11 hF => ?_)
  · refine kg_sw (j := 51) hk_18 rfl (by rw [cwz1_11]; rfl) ?_
    refine kg_aload hk_18 rfl rfl rfl ?_
    refine kg_get (v := .ref (29 + 1)) hk_18 rfl wk_28_0 rfl rfl ?_
    refine kg_iload hk_18 rfl rfl rfl ?_
    refine wf_gd hF (fun gz18 hF => ?_)
    refine kg_call (as := [.ref (29 + 1), .int x2]) (rest := []) hk_18 rfl (Or.inr (Or.inr (Or.inr ⟨Or.inl rfl, _, _, rfl, wc_29⟩))) rfl rfl rfl (Nat.not_lt.mpr (Nat.le_of_ble_eq_true rfl)) (v_63_ok wc_29 gz18) (by decide) rfl ?_
    refine kv_mid (p := 59) (L := [.ref (28 + 1), .int x1, .int x2]) (S := [.int (if (v_63 h 29 x2) = 0 then 1 else 0 : Int32)]) ?_ (fun hK => ?_)
    · have hF := Option.some.inj hF
      subst hF
      exact kg_iret hk_18 rfl (Or.inl rfl) rfl
    · by_cases cz19 : (v_63 h 29 x2) = 0
      · have hK := kv_T cz19 hK
        refine kg_ifF hk_18 rfl (jc_F1 cz19) rfl ?_
        refine kg_push (x := 1) hk_18 rfl (by decide) rfl ?_
        refine kg_goto hk_18 rfl ?_
        exact hK
      · have hK := kv_F cz19 hK
        refine kg_ifT hk_18 rfl (jc_T1 cz19) ?_
        refine kg_push (x := 0) hk_18 rfl (by decide) rfl ?_
        exact hK
  refine wf_if hF (fun cwz1_12 hF => ?_) (fun cwz1_12 hF => ?_)
  · refine kg_sw (j := 60) hk_18 rfl (by rw [cwz1_12]; rfl) ?_
    refine kg_aload hk_18 rfl rfl rfl ?_
    refine kg_iload hk_18 rfl rfl rfl ?_
    refine wf_bind hF (fun vz20 hvz20 hF => ?_)
    refine kg_call (as := [.ref (28 + 1), .int x2]) (rest := []) hk_18 rfl (Or.inr (Or.inr (Or.inr ⟨Or.inl rfl, _, _, rfl, wc_28⟩))) rfl rfl rfl (Nat.not_lt.mpr (Nat.le_of_ble_eq_true rfl)) (p_21_ok hvz20) (by decide) rfl ?_
    have hF := Option.some.inj hF
    subst hF
    exact kg_iret hk_18 rfl (Or.inl rfl) rfl
  refine wf_if hF (fun cwz1_13 hF => ?_) (fun cwz1_13 hF => ?_)
  · refine kg_sw (j := 64) hk_18 rfl (by rw [cwz1_13]; rfl) ?_
    refine kg_aload hk_18 rfl rfl rfl ?_
    refine kg_iload hk_18 rfl rfl rfl ?_
    refine wf_bind hF (fun vz21 hvz21 hF => ?_)
    refine kg_call (as := [.ref (28 + 1), .int x2]) (rest := []) hk_18 rfl (Or.inr (Or.inr (Or.inr ⟨Or.inl rfl, _, _, rfl, wc_28⟩))) rfl rfl rfl (Nat.not_lt.mpr (Nat.le_of_ble_eq_true rfl)) (p_23_ok hvz21) (by decide) rfl ?_
    have hF := Option.some.inj hF
    subst hF
    exact kg_iret hk_18 rfl (Or.inl rfl) rfl
  refine wf_if hF (fun cwz1_14 hF => ?_) (fun cwz1_14 hF => ?_)
  · refine kg_sw (j := 68) hk_18 rfl (by rw [cwz1_14]; rfl) ?_
    refine kg_aload hk_18 rfl rfl rfl ?_
    refine kg_push (x := 26) hk_18 rfl (by decide) rfl ?_
    refine wf_bind hF (fun vz22 hvz22 hF => ?_)
    refine kg_call (as := [.ref (28 + 1), .int 26]) (rest := []) hk_18 rfl (Or.inr (Or.inr (Or.inr ⟨Or.inl rfl, _, _, rfl, wc_28⟩))) rfl rfl rfl (Nat.not_lt.mpr (Nat.le_of_ble_eq_true rfl)) (p_21_ok hvz22) (by decide) rfl ?_
    have hF := Option.some.inj hF
    subst hF
    exact kg_iret hk_18 rfl (Or.inl rfl) rfl
  refine wf_if hF (fun cwz1_15 hF => ?_) (fun cwz1_15 hF => ?_)
  · refine kg_sw (j := 76) hk_18 rfl (by rw [cwz1_15]; rfl) ?_
    refine kg_aload hk_18 rfl rfl rfl ?_
    refine kg_iload hk_18 rfl rfl rfl ?_
    refine kg_iload hk_18 rfl rfl rfl ?_
    refine wf_bind hF (fun vz23 hvz23 hF => ?_)
    refine kg_call (as := [.ref (28 + 1), .int x1, .int x2]) (rest := []) hk_18 rfl (Or.inr (Or.inr (Or.inr ⟨Or.inl rfl, _, _, rfl, wc_28⟩))) rfl rfl rfl (Nat.not_lt.mpr (Nat.le_of_ble_eq_true rfl)) (p_27_ok hvz23) (by decide) rfl ?_
    have hF := Option.some.inj hF
    subst hF
    exact kg_iret hk_18 rfl (Or.inl rfl) rfl
  refine wf_if hF (fun cwz1_16 hF => ?_) (fun cwz1_16 hF => ?_)
  · refine kg_sw (j := 76) hk_18 rfl (by rw [cwz1_16]; rfl) ?_
    refine kg_aload hk_18 rfl rfl rfl ?_
    refine kg_iload hk_18 rfl rfl rfl ?_
    refine kg_iload hk_18 rfl rfl rfl ?_
    refine wf_bind hF (fun vz24 hvz24 hF => ?_)
    refine kg_call (as := [.ref (28 + 1), .int x1, .int x2]) (rest := []) hk_18 rfl (Or.inr (Or.inr (Or.inr ⟨Or.inl rfl, _, _, rfl, wc_28⟩))) rfl rfl rfl (Nat.not_lt.mpr (Nat.le_of_ble_eq_true rfl)) (p_27_ok hvz24) (by decide) rfl ?_
    have hF := Option.some.inj hF
    subst hF
    exact kg_iret hk_18 rfl (Or.inl rfl) rfl
  refine wf_if hF (fun cwz1_17 hF => ?_) (fun cwz1_17 hF => ?_)
  · refine kg_sw (j := 76) hk_18 rfl (by rw [cwz1_17]; rfl) ?_
    refine kg_aload hk_18 rfl rfl rfl ?_
    refine kg_iload hk_18 rfl rfl rfl ?_
    refine kg_iload hk_18 rfl rfl rfl ?_
    refine wf_bind hF (fun vz25 hvz25 hF => ?_)
    refine kg_call (as := [.ref (28 + 1), .int x1, .int x2]) (rest := []) hk_18 rfl (Or.inr (Or.inr (Or.inr ⟨Or.inl rfl, _, _, rfl, wc_28⟩))) rfl rfl rfl (Nat.not_lt.mpr (Nat.le_of_ble_eq_true rfl)) (p_27_ok hvz25) (by decide) rfl ?_
    have hF := Option.some.inj hF
    subst hF
    exact kg_iret hk_18 rfl (Or.inl rfl) rfl
  refine wf_if hF (fun cwz1_18 hF => ?_) (fun cwz1_18 hF => ?_)
  · refine kg_sw (j := 72) hk_18 rfl (by rw [cwz1_18]; rfl) ?_
    refine kg_aload hk_18 rfl rfl rfl ?_
    refine kg_iload hk_18 rfl rfl rfl ?_
    refine wf_bind hF (fun vz26 hvz26 hF => ?_)
    refine kg_call (as := [.ref (28 + 1), .int x1]) (rest := []) hk_18 rfl (Or.inr (Or.inr (Or.inr ⟨Or.inl rfl, _, _, rfl, wc_28⟩))) rfl rfl rfl (Nat.not_lt.mpr (Nat.le_of_ble_eq_true rfl)) (p_29_ok hvz26) (by decide) rfl ?_
    have hF := Option.some.inj hF
    subst hF
    exact kg_iret hk_18 rfl (Or.inl rfl) rfl
  refine wf_if hF (fun cwz1_19 hF => ?_) (fun cwz1_19 hF => ?_)
  · refine kg_sw (j := 72) hk_18 rfl (by rw [cwz1_19]; rfl) ?_
    refine kg_aload hk_18 rfl rfl rfl ?_
    refine kg_iload hk_18 rfl rfl rfl ?_
    refine wf_bind hF (fun vz27 hvz27 hF => ?_)
    refine kg_call (as := [.ref (28 + 1), .int x1]) (rest := []) hk_18 rfl (Or.inr (Or.inr (Or.inr ⟨Or.inl rfl, _, _, rfl, wc_28⟩))) rfl rfl rfl (Nat.not_lt.mpr (Nat.le_of_ble_eq_true rfl)) (p_29_ok hvz27) (by decide) rfl ?_
    have hF := Option.some.inj hF
    subst hF
    exact kg_iret hk_18 rfl (Or.inl rfl) rfl
  refine kg_sw (j := 76) hk_18 rfl (k_swD (by intro j hj; match j, hj with | 0, _ => exact cwz1_0 | 1, _ => exact cwz1_1 | 2, _ => exact cwz1_2 | 3, _ => exact cwz1_3 | 4, _ => exact cwz1_4 | 5, _ => exact cwz1_5 | 6, _ => exact cwz1_6 | 7, _ => exact cwz1_7 | 8, _ => exact cwz1_8 | 9, _ => exact cwz1_9 | 10, _ => exact cwz1_10 | 11, _ => exact cwz1_11 | 12, _ => exact cwz1_12 | 13, _ => exact cwz1_13 | 14, _ => exact cwz1_14 | 15, _ => exact cwz1_15 | 16, _ => exact cwz1_16 | 17, _ => exact cwz1_17 | 18, _ => exact cwz1_18 | 19, _ => exact cwz1_19 | n + 20, hj => exact absurd hj (Nat.not_lt.mpr (Nat.le_add_left 20 n)))) ?_
  refine kg_aload hk_18 rfl rfl rfl ?_
  refine kg_iload hk_18 rfl rfl rfl ?_
  refine kg_iload hk_18 rfl rfl rfl ?_
  refine wf_bind hF (fun vz28 hvz28 hF => ?_)
  refine kg_call (as := [.ref (28 + 1), .int x1, .int x2]) (rest := []) hk_18 rfl (Or.inr (Or.inr (Or.inr ⟨Or.inl rfl, _, _, rfl, wc_28⟩))) rfl rfl rfl (Nat.not_lt.mpr (Nat.le_of_ble_eq_true rfl)) (p_27_ok hvz28) (by decide) rfl ?_
  have hF := Option.some.inj hF
  subst hF
  exact kg_iret hk_18 rfl (Or.inl rfl) rfl
-- NotebookWeir$Machine.isUntold(I)Z
theorem hk_31 : jP[31]? = some (jc_31, 3, [], []) := by rfl
def l_31_2 (h : Hp) (x1 : Int32) (x2 : Int32) : Option ((Int32) ⊕ Int32) :=
  if x2 < 26 then
    (if (v_126 x1 x2) = 0 then
      (some (.inl (x2 + 1)))
    else
      (w_gd (g_63 29 x2) <|
      if (v_63 h 29 x2) = 0 then
        (some (.inr 1))
      else
        (some (.inl (x2 + 1)))))
  else
    (some (.inr 0))
theorem l_31_2_st {X : List Int32} {o : kO}  {h : Hp} {x1 : Int32} {x2 : Int32}  {r : (Int32) ⊕ Int32} (hF : l_31_2 h x1 x2 = some r) (hK : ∀ s' : Int32, r = .inl s' → k_Go X 1 31 (2, [.ref (28 + 1), .int x1, .int (s')], []) h o) (hX0 : ∀ e : Int32, r = .inr e → (.inl (some (.int e)), h) = o) : k_Go X 1 31 (2, [.ref (28 + 1), .int x1, .int x2], []) h o := by
  refine kg_iload hk_31 rfl rfl rfl ?_
  refine kg_push (x := 26) hk_31 rfl (by decide) rfl ?_
  refine wf_if hF (fun cz1 hF => ?_) (fun cz1 hF => ?_)
  · refine kg_icF hk_31 rfl (jc_F3 cz1) rfl ?_
    refine kg_iload hk_31 rfl rfl rfl ?_
    refine kg_iload hk_31 rfl rfl rfl ?_
    refine kg_call (as := [.int x1, .int x2]) (rest := []) hk_31 rfl (Or.inr (Or.inl rfl)) rfl rfl rfl (Nat.not_lt.mpr (Nat.le_of_ble_eq_true rfl)) (v_126_ok) (by decide) rfl ?_
    refine wf_if hF (fun cz2 hF => ?_) (fun cz2 hF => ?_)
    · refine kg_ifT hk_31 rfl (jc_T0 cz2) ?_
      refine kg_iinc (y := (x2 + 1)) (L2 := [.ref (28 + 1), .int x1, .int (x2 + 1)]) hk_31 rfl rfl rfl rfl rfl ?_
      refine kg_goto hk_31 rfl ?_
      have hF := Option.some.inj hF
      exact hK _ hF.symm
    · refine kg_ifF hk_31 rfl (jc_F0 cz2) rfl ?_
      refine kg_aload hk_31 rfl rfl rfl ?_
      refine kg_get (v := .ref (29 + 1)) hk_31 rfl wk_28_0 rfl rfl ?_
      refine kg_iload hk_31 rfl rfl rfl ?_
      refine wf_gd hF (fun gz3 hF => ?_)
      refine kg_call (as := [.ref (29 + 1), .int x2]) (rest := []) hk_31 rfl (Or.inr (Or.inr (Or.inr ⟨Or.inl rfl, _, _, rfl, wc_29⟩))) rfl rfl rfl (Nat.not_lt.mpr (Nat.le_of_ble_eq_true rfl)) (v_63_ok wc_29 gz3) (by decide) rfl ?_
      refine wf_if hF (fun cz4 hF => ?_) (fun cz4 hF => ?_)
      · refine kg_ifF hk_31 rfl (jc_F1 cz4) rfl ?_
        refine kg_push (x := 1) hk_31 rfl (by decide) rfl ?_
        have hF := Option.some.inj hF
        exact kg_iret hk_31 rfl (Or.inr rfl) (hX0 _ hF.symm)
      · refine kg_ifT hk_31 rfl (jc_T1 cz4) ?_
        refine kg_iinc (y := (x2 + 1)) (L2 := [.ref (28 + 1), .int x1, .int (x2 + 1)]) hk_31 rfl rfl rfl rfl rfl ?_
        refine kg_goto hk_31 rfl ?_
        have hF := Option.some.inj hF
        exact hK _ hF.symm
  · refine kg_icT hk_31 rfl (jc_T3 cz1) ?_
    refine kg_push (x := 0) hk_31 rfl (by decide) rfl ?_
    have hF := Option.some.inj hF
    exact kg_iret hk_31 rfl (Or.inr rfl) (hX0 _ hF.symm)
theorem l_31_2_ok {X : List Int32} {o : kO}  {h : Hp} {x1 : Int32}  {n : Nat} {s : Int32} {e : Int32} (hF : w_lp (fun (s : Int32) => l_31_2 h x1 s) n s = some e) (hX0 : (.inl (some (.int e)), h) = o) : k_Go X 1 31 (2, [.ref (28 + 1), .int x1, .int s], []) h o := by
  exact w_lp_ok (P := (fun (s : Int32) => k_Go X 1 31 (2, [.ref (28 + 1), .int x1, .int s], []) h o)) (Q := (fun (e : Int32) => ((.inl (some (.int e)), h) = o))) (fun s r hF hK hX => l_31_2_st hF hK (fun x hx => (hX _ hx))) n s e hF hX0
def p_31 (h : Hp) (x1 : Int32) : Option (Int32) :=
  w_lp (fun (s : Int32) => l_31_2 h x1 s) w_N 0
theorem p_31_ok {X : List Int32}  {h : Hp} {x1 : Int32}  {r : Int32} (hF : p_31 h x1 = some r) : k_Ev X 1 31 [.ref (28 + 1), .int x1] h (.inl (some (.int r)), h) := by
  refine k_of hk_31 ?_
  show k_Go X 1 31 (0, [.ref (28 + 1), .int x1, (.retAddr 0)], []) h _
  unfold p_31 at hF
  refine kg_push (x := 0) hk_31 rfl (by decide) rfl ?_
  refine kg_istore (L2 := [.ref (28 + 1), .int x1, .int 0]) hk_31 rfl (Nat.le_of_ble_eq_true rfl) rfl rfl ?_
  exact l_31_2_ok hF rfl
-- NotebookWeir$Machine.holdingAmong(I)I
theorem hk_32 : jP[32]? = some (jc_32, 5, [], []) := by rfl
def q_32_30 (h : Hp) (x1 : Int32) (x2 : Int32) (x3 : Int32) (s0 : Int32) : Option ((Int32 × Int32) ⊕ Int32) :=
  some (.inl ((x2 ||| (if (v_126 x1 x3) = 0 then 0 else (if s0 = 0 then 0 else (1 <<< (x3 &&& 31)) : Int32) : Int32)), (x3 + 1)))
theorem q_32_30_ok {X : List Int32} {o : kO}  {h : Hp} {s0 : Int32} {x1 : Int32} {x2 : Int32} {x3 : Int32}  {r : (Int32 × Int32) ⊕ Int32} (hF : q_32_30 h x1 x2 x3 s0 = some r) (hK : ∀ s' : Int32 × Int32, r = .inl s' → ∀ (u4 : Value), k_Go X 1 32 (4, [.ref (28 + 1), .int x1, .int (s'.1), .int (s'.2), u4], []) h o) (hX0 : ∀ e : Int32, r = .inr e → (.inl (some (.int e)), h) = o) : ∀ (u4 : Value), k_Go X 1 32 (30, [.ref (28 + 1), .int x1, .int x2, .int x3, u4], [.int s0]) h o := by
  intro u4
  unfold q_32_30 at hF
  refine kg_istore (L2 := [.ref (28 + 1), .int x1, .int x2, .int x3, .int s0]) hk_32 rfl (Nat.le_of_ble_eq_true rfl) rfl rfl ?_
  refine kg_iload hk_32 rfl rfl rfl ?_
  refine kg_iload hk_32 rfl rfl rfl ?_
  refine kg_iload hk_32 rfl rfl rfl ?_
  refine kg_call (as := [.int x1, .int x3]) (rest := [.int x2]) hk_32 rfl (Or.inr (Or.inl rfl)) rfl rfl rfl (Nat.not_lt.mpr (Nat.le_of_ble_eq_true rfl)) (v_126_ok) (by decide) rfl ?_
  refine kv_mid (p := 43) (L := [.ref (28 + 1), .int x1, .int x2, .int x3, .int s0]) (S := [.int (if (v_126 x1 x3) = 0 then 0 else (if s0 = 0 then 0 else (1 <<< (x3 &&& 31)) : Int32) : Int32), .int x2]) ?_ (fun hK => ?_)
  · refine kg_bin (z := (x2 ||| (if (v_126 x1 x3) = 0 then 0 else (if s0 = 0 then 0 else (1 <<< (x3 &&& 31)) : Int32) : Int32))) hk_32 rfl rfl rfl ?_
    refine kg_istore (L2 := [.ref (28 + 1), .int x1, .int (x2 ||| (if (v_126 x1 x3) = 0 then 0 else (if s0 = 0 then 0 else (1 <<< (x3 &&& 31)) : Int32) : Int32)), .int x3, .int s0]) hk_32 rfl (Nat.le_of_ble_eq_true rfl) rfl rfl ?_
    refine kg_iinc (y := (x3 + 1)) (L2 := [.ref (28 + 1), .int x1, .int (x2 ||| (if (v_126 x1 x3) = 0 then 0 else (if s0 = 0 then 0 else (1 <<< (x3 &&& 31)) : Int32) : Int32)), .int (x3 + 1), .int s0]) hk_32 rfl rfl rfl rfl rfl ?_
    refine kg_goto hk_32 rfl ?_
    have hF := Option.some.inj hF
    exact hK _ hF.symm _
  · by_cases cz9 : (v_126 x1 x3) = 0
    · have hK := kv_T cz9 hK
      refine kg_ifT hk_32 rfl (jc_T0 cz9) ?_
      refine kg_push (x := 0) hk_32 rfl (by decide) rfl ?_
      exact hK
    · have hK := kv_F cz9 hK
      refine kg_ifF hk_32 rfl (jc_F0 cz9) rfl ?_
      refine kg_iload hk_32 rfl rfl rfl ?_
      by_cases cz10 : s0 = 0
      · have hK := kv_T cz10 hK
        refine kg_ifT hk_32 rfl (jc_T0 cz10) ?_
        refine kg_push (x := 0) hk_32 rfl (by decide) rfl ?_
        exact hK
      · have hK := kv_F cz10 hK
        refine kg_ifF hk_32 rfl (jc_F0 cz10) rfl ?_
        refine kg_push (x := 1) hk_32 rfl (by decide) rfl ?_
        refine kg_iload hk_32 rfl rfl rfl ?_
        refine kg_bin (z := (1 <<< (x3 &&& 31))) hk_32 rfl rfl rfl ?_
        refine kg_goto hk_32 rfl ?_
        exact hK
def l_32_4 (h : Hp) (x1 : Int32) (x2 : Int32) (x3 : Int32) : Option ((Int32 × Int32) ⊕ Int32) :=
  if x3 < 26 then
    (w_gd (g_64 29 x3) <|
    w_gd ((if (v_64 h 29 x3) = 0 then g_65 h 29 x3 else g_66 29 x3 0)) <|
    q_32_30 h x1 x2 x3 (if (v_64 h 29 x3) = 0 then (if (v_65 h 29 x3) ≤ 0 then 0 else 1 : Int32) else (if (v_66 h 29 x3 0) = 0 then 0 else 1 : Int32) : Int32))
  else
    (some (.inr x2))
theorem l_32_4_st {X : List Int32} {o : kO}  {h : Hp} {x1 : Int32} {x2 : Int32} {x3 : Int32}  {r : (Int32 × Int32) ⊕ Int32} (hF : l_32_4 h x1 x2 x3 = some r) (hK : ∀ s' : Int32 × Int32, r = .inl s' → ∀ (u4 : Value), k_Go X 1 32 (4, [.ref (28 + 1), .int x1, .int (s'.1), .int (s'.2), u4], []) h o) (hX0 : ∀ e : Int32, r = .inr e → (.inl (some (.int e)), h) = o) : ∀ (u4 : Value), k_Go X 1 32 (4, [.ref (28 + 1), .int x1, .int x2, .int x3, u4], []) h o := by
  intro u4
  refine kg_iload hk_32 rfl rfl rfl ?_
  refine kg_push (x := 26) hk_32 rfl (by decide) rfl ?_
  refine wf_if hF (fun cz1 hF => ?_) (fun cz1 hF => ?_)
  · refine kg_icF hk_32 rfl (jc_F3 cz1) rfl ?_
    refine kg_aload hk_32 rfl rfl rfl ?_
    refine kg_get (v := .ref (29 + 1)) hk_32 rfl wk_28_0 rfl rfl ?_
    refine kg_iload hk_32 rfl rfl rfl ?_
    refine wf_gd hF (fun gz2 hF => ?_)
    refine kg_call (as := [.ref (29 + 1), .int x3]) (rest := []) hk_32 rfl (Or.inr (Or.inr (Or.inr ⟨Or.inl rfl, _, _, rfl, wc_29⟩))) rfl rfl rfl (Nat.not_lt.mpr (Nat.le_of_ble_eq_true rfl)) (v_64_ok wc_29 gz2) (by decide) rfl ?_
    refine wf_gd hF (fun gz8 hF => ?_)
    refine kv_mid (p := 30) (L := [.ref (28 + 1), .int x1, .int x2, .int x3, u4]) (S := [.int (if (v_64 h 29 x3) = 0 then (if (v_65 h 29 x3) ≤ 0 then 0 else 1 : Int32) else (if (v_66 h 29 x3 0) = 0 then 0 else 1 : Int32) : Int32)]) ?_ (fun hK => ?_)
    · exact q_32_30_ok hF hK hX0 _
    · have hg := gz8
      by_cases cz3 : (v_64 h 29 x3) = 0
      · have hg := wv_T cz3 hg
        have hK := kv_T cz3 hK
        have gz4 := hg
        refine kg_ifT hk_32 rfl (jc_T0 cz3) ?_
        refine kg_aload hk_32 rfl rfl rfl ?_
        refine kg_get (v := .ref (29 + 1)) hk_32 rfl wk_28_0 rfl rfl ?_
        refine kg_iload hk_32 rfl rfl rfl ?_
        refine kg_call (as := [.ref (29 + 1), .int x3]) (rest := []) hk_32 rfl (Or.inr (Or.inr (Or.inr ⟨Or.inl rfl, _, _, rfl, wc_29⟩))) rfl rfl rfl (Nat.not_lt.mpr (Nat.le_of_ble_eq_true rfl)) (v_65_ok wc_29 gz4) (by decide) rfl ?_
        by_cases cz5 : (v_65 h 29 x3) ≤ 0
        · have hK := kv_T cz5 hK
          refine kg_ifT hk_32 rfl (jc_T5 cz5) ?_
          refine kg_push (x := 0) hk_32 rfl (by decide) rfl ?_
          exact hK
        · have hK := kv_F cz5 hK
          refine kg_ifF hk_32 rfl (jc_F5 cz5) rfl ?_
          refine kg_push (x := 1) hk_32 rfl (by decide) rfl ?_
          refine kg_goto hk_32 rfl ?_
          exact hK
      · have hg := wv_F cz3 hg
        have hK := kv_F cz3 hK
        have gz6 := hg
        refine kg_ifF hk_32 rfl (jc_F0 cz3) rfl ?_
        refine kg_aload hk_32 rfl rfl rfl ?_
        refine kg_get (v := .ref (29 + 1)) hk_32 rfl wk_28_0 rfl rfl ?_
        refine kg_iload hk_32 rfl rfl rfl ?_
        refine kg_push (x := 0) hk_32 rfl (by decide) rfl ?_
        refine kg_call (as := [.ref (29 + 1), .int x3, .int 0]) (rest := []) hk_32 rfl (Or.inr (Or.inr (Or.inr ⟨Or.inl rfl, _, _, rfl, wc_29⟩))) rfl rfl rfl (Nat.not_lt.mpr (Nat.le_of_ble_eq_true rfl)) (v_66_ok wc_29 gz6) (by decide) rfl ?_
        by_cases cz7 : (v_66 h 29 x3 0) = 0
        · have hK := kv_T cz7 hK
          refine kg_ifT hk_32 rfl (jc_T0 cz7) ?_
          refine kg_push (x := 0) hk_32 rfl (by decide) rfl ?_
          refine kg_goto hk_32 rfl ?_
          exact hK
        · have hK := kv_F cz7 hK
          refine kg_ifF hk_32 rfl (jc_F0 cz7) rfl ?_
          refine kg_push (x := 1) hk_32 rfl (by decide) rfl ?_
          refine kg_goto hk_32 rfl ?_
          exact hK
  · refine kg_icT hk_32 rfl (jc_T3 cz1) ?_
    refine kg_iload hk_32 rfl rfl rfl ?_
    have hF := Option.some.inj hF
    exact kg_iret hk_32 rfl (Or.inl rfl) (hX0 _ hF.symm)
theorem l_32_4_ok {X : List Int32} {o : kO}  {h : Hp} {x1 : Int32}  {n : Nat} {s : Int32 × Int32} {e : Int32} (hF : w_lp (fun (s : Int32 × Int32) => l_32_4 h x1 s.1 s.2) n s = some e) (hX0 : (.inl (some (.int e)), h) = o) : ∀ (u4 : Value), k_Go X 1 32 (4, [.ref (28 + 1), .int x1, .int s.1, .int s.2, u4], []) h o := by
  exact w_lp_ok (P := (fun (s : Int32 × Int32) => ∀ (u4 : Value), k_Go X 1 32 (4, [.ref (28 + 1), .int x1, .int s.1, .int s.2, u4], []) h o)) (Q := (fun (e : Int32) => ((.inl (some (.int e)), h) = o))) (fun s r hF hK hX => l_32_4_st hF hK (fun x hx => (hX _ hx))) n s e hF hX0
def p_32 (h : Hp) (x1 : Int32) : Option (Int32) :=
  w_lp (fun (s : Int32 × Int32) => l_32_4 h x1 s.1 s.2) w_N (0, 0)
theorem p_32_ok {X : List Int32}  {h : Hp} {x1 : Int32}  {r : Int32} (hF : p_32 h x1 = some r) : k_Ev X 1 32 [.ref (28 + 1), .int x1] h (.inl (some (.int r)), h) := by
  refine k_of hk_32 ?_
  show k_Go X 1 32 (0, [.ref (28 + 1), .int x1, (.retAddr 0), (.retAddr 0), (.retAddr 0)], []) h _
  unfold p_32 at hF
  refine kg_push (x := 0) hk_32 rfl (by decide) rfl ?_
  refine kg_istore (L2 := [.ref (28 + 1), .int x1, .int 0, (.retAddr 0), (.retAddr 0)]) hk_32 rfl (Nat.le_of_ble_eq_true rfl) rfl rfl ?_
  refine kg_push (x := 0) hk_32 rfl (by decide) rfl ?_
  refine kg_istore (L2 := [.ref (28 + 1), .int x1, .int 0, .int 0, (.retAddr 0)]) hk_32 rfl (Nat.le_of_ble_eq_true rfl) rfl rfl ?_
  exact l_32_4_ok hF rfl _
-- NotebookWeir$Machine.holdMore(LNotebookWeir$Code;I)I
theorem hk_33 : jP[33]? = some (jc_33, 5, [], []) := by rfl
def l_33_10 (h : Hp) (q0 : Nat) (x2 : Int32) (x4 : Int32) : Option ((Int32 × Int32) ⊕ Int32) :=
  if x4 < (h q0 3) then
    (w_gd (w_ix x4 41) <|
    if ((h (q0 + 2) x4.toNatClampNeg) &&& (x2 ^^^ (-1))) = 0 then
      (w_gd (w_ix x4 41) <|
      some (.inl ((x2 ||| (1 <<< ((h (q0 + 1) x4.toNatClampNeg) &&& 31))), (x4 + 1))))
    else
      (some (.inl (x2, (x4 + 1)))))
  else
    (some (.inr x2))
theorem l_33_10_st {X : List Int32} {o : kO}  {h : Hp} {q0 : Nat} {x2 : Int32} {x3 : Int32} {x4 : Int32} (t0 : w_ob q0 1) {r : (Int32 × Int32) ⊕ Int32} (hF : l_33_10 h q0 x2 x4 = some r) (hK : ∀ s' : Int32 × Int32, r = .inl s' → ∀ (u1 : Value), k_Go X 0 33 (10, [.ref (q0 + 1), u1, .int (s'.1), .int x3, .int (s'.2)], []) h o) (hX0 : ∀ e : Int32, r = .inr e → ∀ (u1 : Value) (u4 : Value), k_Go X 0 33 (34, [.ref (q0 + 1), u1, .int e, .int x3, u4], []) h o) : ∀ (u1 : Value), k_Go X 0 33 (10, [.ref (q0 + 1), u1, .int x2, .int x3, .int x4], []) h o := by
  intro u1
  refine kg_iload hk_33 rfl rfl rfl ?_
  refine kg_aload hk_33 rfl rfl rfl ?_
  refine kg_get (v := .int (h q0 3)) hk_33 rfl (wf_1_3 t0) rfl rfl ?_
  refine wf_if hF (fun cz2 hF => ?_) (fun cz2 hF => ?_)
  · refine kg_icF hk_33 rfl (jc_F3 cz2) rfl ?_
    refine kg_aload hk_33 rfl rfl rfl ?_
    refine kg_get (v := .ref ((q0 + 2) + 1)) hk_33 rfl (wf_1_1 t0) rfl rfl ?_
    refine kg_iload hk_33 rfl rfl rfl ?_
    refine wf_gd hF (fun gz3 hF => ?_)
    refine kg_ald (y := (h (q0 + 2) x4.toNatClampNeg)) hk_33 rfl (wo_1_1 t0) gz3 rfl rfl ?_
    refine kg_iload hk_33 rfl rfl rfl ?_
    refine kg_push (x := (-1)) hk_33 rfl (by decide) rfl ?_
    refine kg_bin (z := (x2 ^^^ (-1))) hk_33 rfl rfl rfl ?_
    refine kg_bin (z := ((h (q0 + 2) x4.toNatClampNeg) &&& (x2 ^^^ (-1)))) hk_33 rfl rfl rfl ?_
    refine wf_if hF (fun cz4 hF => ?_) (fun cz4 hF => ?_)
    · refine kg_ifF hk_33 rfl (jc_F1 cz4) rfl ?_
      refine kg_iload hk_33 rfl rfl rfl ?_
      refine kg_push (x := 1) hk_33 rfl (by decide) rfl ?_
      refine kg_aload hk_33 rfl rfl rfl ?_
      refine kg_get (v := .ref ((q0 + 1) + 1)) hk_33 rfl (wf_1_0 t0) rfl rfl ?_
      refine kg_iload hk_33 rfl rfl rfl ?_
      refine wf_gd hF (fun gz5 hF => ?_)
      refine kg_ald (y := (h (q0 + 1) x4.toNatClampNeg)) hk_33 rfl (wo_1_0 t0) gz5 rfl rfl ?_
      refine kg_bin (z := (1 <<< ((h (q0 + 1) x4.toNatClampNeg) &&& 31))) hk_33 rfl rfl rfl ?_
      refine kg_bin (z := (x2 ||| (1 <<< ((h (q0 + 1) x4.toNatClampNeg) &&& 31)))) hk_33 rfl rfl rfl ?_
      refine kg_istore (L2 := [.ref (q0 + 1), u1, .int (x2 ||| (1 <<< ((h (q0 + 1) x4.toNatClampNeg) &&& 31))), .int x3, .int x4]) hk_33 rfl (Nat.le_of_ble_eq_true rfl) rfl rfl ?_
      refine kg_iinc (y := (x4 + 1)) (L2 := [.ref (q0 + 1), u1, .int (x2 ||| (1 <<< ((h (q0 + 1) x4.toNatClampNeg) &&& 31))), .int x3, .int (x4 + 1)]) hk_33 rfl rfl rfl rfl rfl ?_
      refine kg_goto hk_33 rfl ?_
      have hF := Option.some.inj hF
      exact hK _ hF.symm _
    · refine kg_ifT hk_33 rfl (jc_T1 cz4) ?_
      refine kg_iinc (y := (x4 + 1)) (L2 := [.ref (q0 + 1), u1, .int x2, .int x3, .int (x4 + 1)]) hk_33 rfl rfl rfl rfl rfl ?_
      refine kg_goto hk_33 rfl ?_
      have hF := Option.some.inj hF
      exact hK _ hF.symm _
  · refine kg_icT hk_33 rfl (jc_T3 cz2) ?_
    have hF := Option.some.inj hF
    exact hX0 _ hF.symm _ _
theorem l_33_10_ok {X : List Int32} {o : kO}  {h : Hp} {q0 : Nat} {x3 : Int32} (t0 : w_ob q0 1) {n : Nat} {s : Int32 × Int32} {e : Int32} (hF : w_lp (fun (s : Int32 × Int32) => l_33_10 h q0 s.1 s.2) n s = some e) (hX0 : ∀ (u1 : Value) (u4 : Value), k_Go X 0 33 (34, [.ref (q0 + 1), u1, .int e, .int x3, u4], []) h o) : ∀ (u1 : Value), k_Go X 0 33 (10, [.ref (q0 + 1), u1, .int s.1, .int x3, .int s.2], []) h o := by
  exact w_lp_ok (P := (fun (s : Int32 × Int32) => ∀ (u1 : Value), k_Go X 0 33 (10, [.ref (q0 + 1), u1, .int s.1, .int x3, .int s.2], []) h o)) (Q := (fun (e : Int32) => (∀ (u1 : Value) (u4 : Value), k_Go X 0 33 (34, [.ref (q0 + 1), u1, .int e, .int x3, u4], []) h o))) (fun s r hF hK hX => l_33_10_st t0 hF hK (fun x hx => (hX _ hx))) n s e hF hX0
def l_33_4 (h : Hp) (q0 : Nat) (x2 : Int32) (x3 : Int32) : Option ((Int32 × Int32) ⊕ Int32) :=
  if x3 < (h q0 3) then
    ((w_lp (fun (s : Int32 × Int32) => l_33_10 h q0 s.1 s.2) w_N (x2, 0)).bind fun ez6 =>
    some (.inl (ez6, (x3 + 1))))
  else
    (some (.inr x2))
theorem l_33_4_st {X : List Int32} {o : kO}  {h : Hp} {q0 : Nat} {x2 : Int32} {x3 : Int32} (t0 : w_ob q0 1) {r : (Int32 × Int32) ⊕ Int32} (hF : l_33_4 h q0 x2 x3 = some r) (hK : ∀ s' : Int32 × Int32, r = .inl s' → ∀ (u1 : Value) (u4 : Value), k_Go X 0 33 (4, [.ref (q0 + 1), u1, .int (s'.1), .int (s'.2), u4], []) h o) (hX0 : ∀ e : Int32, r = .inr e → (.inl (some (.int e)), h) = o) : ∀ (u1 : Value) (u4 : Value), k_Go X 0 33 (4, [.ref (q0 + 1), u1, .int x2, .int x3, u4], []) h o := by
  intro u1 u4
  refine kg_iload hk_33 rfl rfl rfl ?_
  refine kg_aload hk_33 rfl rfl rfl ?_
  refine kg_get (v := .int (h q0 3)) hk_33 rfl (wf_1_3 t0) rfl rfl ?_
  refine wf_if hF (fun cz1 hF => ?_) (fun cz1 hF => ?_)
  · refine kg_icF hk_33 rfl (jc_F3 cz1) rfl ?_
    refine kg_push (x := 0) hk_33 rfl (by decide) rfl ?_
    refine kg_istore (L2 := [.ref (q0 + 1), u1, .int x2, .int x3, .int 0]) hk_33 rfl (Nat.le_of_ble_eq_true rfl) rfl rfl ?_
    refine wf_bind hF (fun ez6 hez6 hF => ?_)
    refine l_33_10_ok t0 hez6 ?_ _
    intro u1 u4
    refine kg_iinc (y := (x3 + 1)) (L2 := [.ref (q0 + 1), u1, .int ez6, .int (x3 + 1), u4]) hk_33 rfl rfl rfl rfl rfl ?_
    refine kg_goto hk_33 rfl ?_
    have hF := Option.some.inj hF
    exact hK _ hF.symm _ _
  · refine kg_icT hk_33 rfl (jc_T3 cz1) ?_
    refine kg_iload hk_33 rfl rfl rfl ?_
    have hF := Option.some.inj hF
    exact kg_iret hk_33 rfl (Or.inl rfl) (hX0 _ hF.symm)
theorem l_33_4_ok {X : List Int32} {o : kO}  {h : Hp} {q0 : Nat} (t0 : w_ob q0 1) {n : Nat} {s : Int32 × Int32} {e : Int32} (hF : w_lp (fun (s : Int32 × Int32) => l_33_4 h q0 s.1 s.2) n s = some e) (hX0 : (.inl (some (.int e)), h) = o) : ∀ (u1 : Value) (u4 : Value), k_Go X 0 33 (4, [.ref (q0 + 1), u1, .int s.1, .int s.2, u4], []) h o := by
  exact w_lp_ok (P := (fun (s : Int32 × Int32) => ∀ (u1 : Value) (u4 : Value), k_Go X 0 33 (4, [.ref (q0 + 1), u1, .int s.1, .int s.2, u4], []) h o)) (Q := (fun (e : Int32) => ((.inl (some (.int e)), h) = o))) (fun s r hF hK hX => l_33_4_st t0 hF hK (fun x hx => (hX _ hx))) n s e hF hX0
def p_33 (h : Hp) (q0 : Nat) (x1 : Int32) : Option (Int32) :=
  w_lp (fun (s : Int32 × Int32) => l_33_4 h q0 s.1 s.2) w_N (x1, 0)
theorem p_33_ok {X : List Int32}  {h : Hp} {q0 : Nat} {x1 : Int32} (t0 : w_ob q0 1) {r : Int32} (hF : p_33 h q0 x1 = some r) : k_Ev X 0 33 [.ref (q0 + 1), .int x1] h (.inl (some (.int r)), h) := by
  refine k_of hk_33 ?_
  show k_Go X 0 33 (0, [.ref (q0 + 1), .int x1, (.retAddr 0), (.retAddr 0), (.retAddr 0)], []) h _
  unfold p_33 at hF
  refine kg_iload hk_33 rfl rfl rfl ?_
  refine kg_istore (L2 := [.ref (q0 + 1), .int x1, .int x1, (.retAddr 0), (.retAddr 0)]) hk_33 rfl (Nat.le_of_ble_eq_true rfl) rfl rfl ?_
  refine kg_push (x := 0) hk_33 rfl (by decide) rfl ?_
  refine kg_istore (L2 := [.ref (q0 + 1), .int x1, .int x1, .int 0, (.retAddr 0)]) hk_33 rfl (Nat.le_of_ble_eq_true rfl) rfl rfl ?_
  exact l_33_4_ok t0 hF rfl _ _
-- java/lang/Integer.bitCount(I)I
theorem hk_267 : jP[267]? = some (jc_267, 1, [], []) := by rfl
def p_267 (h : Hp) (x0 : Int32) : Option (Int32) :=
  some ((((((((x0 - (((x0.toUInt32 >>> (Int32.toUInt32 1 &&& Int32.toUInt32 31)).toInt32) &&& 1431655765)) &&& 858993459) + ((((x0 - (((x0.toUInt32 >>> (Int32.toUInt32 1 &&& Int32.toUInt32 31)).toInt32) &&& 1431655765)).toUInt32 >>> (Int32.toUInt32 2 &&& Int32.toUInt32 31)).toInt32) &&& 858993459)) + (((((x0 - (((x0.toUInt32 >>> (Int32.toUInt32 1 &&& Int32.toUInt32 31)).toInt32) &&& 1431655765)) &&& 858993459) + ((((x0 - (((x0.toUInt32 >>> (Int32.toUInt32 1 &&& Int32.toUInt32 31)).toInt32) &&& 1431655765)).toUInt32 >>> (Int32.toUInt32 2 &&& Int32.toUInt32 31)).toInt32) &&& 858993459)).toUInt32 >>> (Int32.toUInt32 4 &&& Int32.toUInt32 31)).toInt32)) &&& 252645135) + (((((((x0 - (((x0.toUInt32 >>> (Int32.toUInt32 1 &&& Int32.toUInt32 31)).toInt32) &&& 1431655765)) &&& 858993459) + ((((x0 - (((x0.toUInt32 >>> (Int32.toUInt32 1 &&& Int32.toUInt32 31)).toInt32) &&& 1431655765)).toUInt32 >>> (Int32.toUInt32 2 &&& Int32.toUInt32 31)).toInt32) &&& 858993459)) + (((((x0 - (((x0.toUInt32 >>> (Int32.toUInt32 1 &&& Int32.toUInt32 31)).toInt32) &&& 1431655765)) &&& 858993459) + ((((x0 - (((x0.toUInt32 >>> (Int32.toUInt32 1 &&& Int32.toUInt32 31)).toInt32) &&& 1431655765)).toUInt32 >>> (Int32.toUInt32 2 &&& Int32.toUInt32 31)).toInt32) &&& 858993459)).toUInt32 >>> (Int32.toUInt32 4 &&& Int32.toUInt32 31)).toInt32)) &&& 252645135).toUInt32 >>> (Int32.toUInt32 8 &&& Int32.toUInt32 31)).toInt32)) + ((((((((x0 - (((x0.toUInt32 >>> (Int32.toUInt32 1 &&& Int32.toUInt32 31)).toInt32) &&& 1431655765)) &&& 858993459) + ((((x0 - (((x0.toUInt32 >>> (Int32.toUInt32 1 &&& Int32.toUInt32 31)).toInt32) &&& 1431655765)).toUInt32 >>> (Int32.toUInt32 2 &&& Int32.toUInt32 31)).toInt32) &&& 858993459)) + (((((x0 - (((x0.toUInt32 >>> (Int32.toUInt32 1 &&& Int32.toUInt32 31)).toInt32) &&& 1431655765)) &&& 858993459) + ((((x0 - (((x0.toUInt32 >>> (Int32.toUInt32 1 &&& Int32.toUInt32 31)).toInt32) &&& 1431655765)).toUInt32 >>> (Int32.toUInt32 2 &&& Int32.toUInt32 31)).toInt32) &&& 858993459)).toUInt32 >>> (Int32.toUInt32 4 &&& Int32.toUInt32 31)).toInt32)) &&& 252645135) + (((((((x0 - (((x0.toUInt32 >>> (Int32.toUInt32 1 &&& Int32.toUInt32 31)).toInt32) &&& 1431655765)) &&& 858993459) + ((((x0 - (((x0.toUInt32 >>> (Int32.toUInt32 1 &&& Int32.toUInt32 31)).toInt32) &&& 1431655765)).toUInt32 >>> (Int32.toUInt32 2 &&& Int32.toUInt32 31)).toInt32) &&& 858993459)) + (((((x0 - (((x0.toUInt32 >>> (Int32.toUInt32 1 &&& Int32.toUInt32 31)).toInt32) &&& 1431655765)) &&& 858993459) + ((((x0 - (((x0.toUInt32 >>> (Int32.toUInt32 1 &&& Int32.toUInt32 31)).toInt32) &&& 1431655765)).toUInt32 >>> (Int32.toUInt32 2 &&& Int32.toUInt32 31)).toInt32) &&& 858993459)).toUInt32 >>> (Int32.toUInt32 4 &&& Int32.toUInt32 31)).toInt32)) &&& 252645135).toUInt32 >>> (Int32.toUInt32 8 &&& Int32.toUInt32 31)).toInt32)).toUInt32 >>> (Int32.toUInt32 16 &&& Int32.toUInt32 31)).toInt32)) &&& 63)
theorem p_267_ok {X : List Int32}  {h : Hp} {x0 : Int32}  {r : Int32} (hF : p_267 h x0 = some r) : k_Ev X 0 267 [.int x0] h (.inl (some (.int r)), h) := by
  refine k_of hk_267 ?_
  show k_Go X 0 267 (0, [.int x0], []) h _
  unfold p_267 at hF
  refine kg_iload hk_267 rfl rfl rfl ?_
  refine kg_iload hk_267 rfl rfl rfl ?_
  refine kg_push (x := 1) hk_267 rfl (by decide) rfl ?_
  refine kg_bin (z := ((x0.toUInt32 >>> (Int32.toUInt32 1 &&& Int32.toUInt32 31)).toInt32)) hk_267 rfl rfl rfl ?_
  refine kg_push (x := 1431655765) hk_267 rfl (by decide) rfl ?_
  refine kg_bin (z := (((x0.toUInt32 >>> (Int32.toUInt32 1 &&& Int32.toUInt32 31)).toInt32) &&& 1431655765)) hk_267 rfl rfl rfl ?_
  refine kg_bin (z := (x0 - (((x0.toUInt32 >>> (Int32.toUInt32 1 &&& Int32.toUInt32 31)).toInt32) &&& 1431655765))) hk_267 rfl rfl rfl ?_
  refine kg_istore (L2 := [.int (x0 - (((x0.toUInt32 >>> (Int32.toUInt32 1 &&& Int32.toUInt32 31)).toInt32) &&& 1431655765))]) hk_267 rfl (Nat.le_of_ble_eq_true rfl) rfl rfl ?_
  refine kg_iload hk_267 rfl rfl rfl ?_
  refine kg_push (x := 858993459) hk_267 rfl (by decide) rfl ?_
  refine kg_bin (z := ((x0 - (((x0.toUInt32 >>> (Int32.toUInt32 1 &&& Int32.toUInt32 31)).toInt32) &&& 1431655765)) &&& 858993459)) hk_267 rfl rfl rfl ?_
  refine kg_iload hk_267 rfl rfl rfl ?_
  refine kg_push (x := 2) hk_267 rfl (by decide) rfl ?_
  refine kg_bin (z := (((x0 - (((x0.toUInt32 >>> (Int32.toUInt32 1 &&& Int32.toUInt32 31)).toInt32) &&& 1431655765)).toUInt32 >>> (Int32.toUInt32 2 &&& Int32.toUInt32 31)).toInt32)) hk_267 rfl rfl rfl ?_
  refine kg_push (x := 858993459) hk_267 rfl (by decide) rfl ?_
  refine kg_bin (z := ((((x0 - (((x0.toUInt32 >>> (Int32.toUInt32 1 &&& Int32.toUInt32 31)).toInt32) &&& 1431655765)).toUInt32 >>> (Int32.toUInt32 2 &&& Int32.toUInt32 31)).toInt32) &&& 858993459)) hk_267 rfl rfl rfl ?_
  refine kg_bin (z := (((x0 - (((x0.toUInt32 >>> (Int32.toUInt32 1 &&& Int32.toUInt32 31)).toInt32) &&& 1431655765)) &&& 858993459) + ((((x0 - (((x0.toUInt32 >>> (Int32.toUInt32 1 &&& Int32.toUInt32 31)).toInt32) &&& 1431655765)).toUInt32 >>> (Int32.toUInt32 2 &&& Int32.toUInt32 31)).toInt32) &&& 858993459))) hk_267 rfl rfl rfl ?_
  refine kg_istore (L2 := [.int (((x0 - (((x0.toUInt32 >>> (Int32.toUInt32 1 &&& Int32.toUInt32 31)).toInt32) &&& 1431655765)) &&& 858993459) + ((((x0 - (((x0.toUInt32 >>> (Int32.toUInt32 1 &&& Int32.toUInt32 31)).toInt32) &&& 1431655765)).toUInt32 >>> (Int32.toUInt32 2 &&& Int32.toUInt32 31)).toInt32) &&& 858993459))]) hk_267 rfl (Nat.le_of_ble_eq_true rfl) rfl rfl ?_
  refine kg_iload hk_267 rfl rfl rfl ?_
  refine kg_iload hk_267 rfl rfl rfl ?_
  refine kg_push (x := 4) hk_267 rfl (by decide) rfl ?_
  refine kg_bin (z := (((((x0 - (((x0.toUInt32 >>> (Int32.toUInt32 1 &&& Int32.toUInt32 31)).toInt32) &&& 1431655765)) &&& 858993459) + ((((x0 - (((x0.toUInt32 >>> (Int32.toUInt32 1 &&& Int32.toUInt32 31)).toInt32) &&& 1431655765)).toUInt32 >>> (Int32.toUInt32 2 &&& Int32.toUInt32 31)).toInt32) &&& 858993459)).toUInt32 >>> (Int32.toUInt32 4 &&& Int32.toUInt32 31)).toInt32)) hk_267 rfl rfl rfl ?_
  refine kg_bin (z := ((((x0 - (((x0.toUInt32 >>> (Int32.toUInt32 1 &&& Int32.toUInt32 31)).toInt32) &&& 1431655765)) &&& 858993459) + ((((x0 - (((x0.toUInt32 >>> (Int32.toUInt32 1 &&& Int32.toUInt32 31)).toInt32) &&& 1431655765)).toUInt32 >>> (Int32.toUInt32 2 &&& Int32.toUInt32 31)).toInt32) &&& 858993459)) + (((((x0 - (((x0.toUInt32 >>> (Int32.toUInt32 1 &&& Int32.toUInt32 31)).toInt32) &&& 1431655765)) &&& 858993459) + ((((x0 - (((x0.toUInt32 >>> (Int32.toUInt32 1 &&& Int32.toUInt32 31)).toInt32) &&& 1431655765)).toUInt32 >>> (Int32.toUInt32 2 &&& Int32.toUInt32 31)).toInt32) &&& 858993459)).toUInt32 >>> (Int32.toUInt32 4 &&& Int32.toUInt32 31)).toInt32))) hk_267 rfl rfl rfl ?_
  refine kg_push (x := 252645135) hk_267 rfl (by decide) rfl ?_
  refine kg_bin (z := (((((x0 - (((x0.toUInt32 >>> (Int32.toUInt32 1 &&& Int32.toUInt32 31)).toInt32) &&& 1431655765)) &&& 858993459) + ((((x0 - (((x0.toUInt32 >>> (Int32.toUInt32 1 &&& Int32.toUInt32 31)).toInt32) &&& 1431655765)).toUInt32 >>> (Int32.toUInt32 2 &&& Int32.toUInt32 31)).toInt32) &&& 858993459)) + (((((x0 - (((x0.toUInt32 >>> (Int32.toUInt32 1 &&& Int32.toUInt32 31)).toInt32) &&& 1431655765)) &&& 858993459) + ((((x0 - (((x0.toUInt32 >>> (Int32.toUInt32 1 &&& Int32.toUInt32 31)).toInt32) &&& 1431655765)).toUInt32 >>> (Int32.toUInt32 2 &&& Int32.toUInt32 31)).toInt32) &&& 858993459)).toUInt32 >>> (Int32.toUInt32 4 &&& Int32.toUInt32 31)).toInt32)) &&& 252645135)) hk_267 rfl rfl rfl ?_
  refine kg_istore (L2 := [.int (((((x0 - (((x0.toUInt32 >>> (Int32.toUInt32 1 &&& Int32.toUInt32 31)).toInt32) &&& 1431655765)) &&& 858993459) + ((((x0 - (((x0.toUInt32 >>> (Int32.toUInt32 1 &&& Int32.toUInt32 31)).toInt32) &&& 1431655765)).toUInt32 >>> (Int32.toUInt32 2 &&& Int32.toUInt32 31)).toInt32) &&& 858993459)) + (((((x0 - (((x0.toUInt32 >>> (Int32.toUInt32 1 &&& Int32.toUInt32 31)).toInt32) &&& 1431655765)) &&& 858993459) + ((((x0 - (((x0.toUInt32 >>> (Int32.toUInt32 1 &&& Int32.toUInt32 31)).toInt32) &&& 1431655765)).toUInt32 >>> (Int32.toUInt32 2 &&& Int32.toUInt32 31)).toInt32) &&& 858993459)).toUInt32 >>> (Int32.toUInt32 4 &&& Int32.toUInt32 31)).toInt32)) &&& 252645135)]) hk_267 rfl (Nat.le_of_ble_eq_true rfl) rfl rfl ?_
  refine kg_iload hk_267 rfl rfl rfl ?_
  refine kg_iload hk_267 rfl rfl rfl ?_
  refine kg_push (x := 8) hk_267 rfl (by decide) rfl ?_
  refine kg_bin (z := (((((((x0 - (((x0.toUInt32 >>> (Int32.toUInt32 1 &&& Int32.toUInt32 31)).toInt32) &&& 1431655765)) &&& 858993459) + ((((x0 - (((x0.toUInt32 >>> (Int32.toUInt32 1 &&& Int32.toUInt32 31)).toInt32) &&& 1431655765)).toUInt32 >>> (Int32.toUInt32 2 &&& Int32.toUInt32 31)).toInt32) &&& 858993459)) + (((((x0 - (((x0.toUInt32 >>> (Int32.toUInt32 1 &&& Int32.toUInt32 31)).toInt32) &&& 1431655765)) &&& 858993459) + ((((x0 - (((x0.toUInt32 >>> (Int32.toUInt32 1 &&& Int32.toUInt32 31)).toInt32) &&& 1431655765)).toUInt32 >>> (Int32.toUInt32 2 &&& Int32.toUInt32 31)).toInt32) &&& 858993459)).toUInt32 >>> (Int32.toUInt32 4 &&& Int32.toUInt32 31)).toInt32)) &&& 252645135).toUInt32 >>> (Int32.toUInt32 8 &&& Int32.toUInt32 31)).toInt32)) hk_267 rfl rfl rfl ?_
  refine kg_bin (z := ((((((x0 - (((x0.toUInt32 >>> (Int32.toUInt32 1 &&& Int32.toUInt32 31)).toInt32) &&& 1431655765)) &&& 858993459) + ((((x0 - (((x0.toUInt32 >>> (Int32.toUInt32 1 &&& Int32.toUInt32 31)).toInt32) &&& 1431655765)).toUInt32 >>> (Int32.toUInt32 2 &&& Int32.toUInt32 31)).toInt32) &&& 858993459)) + (((((x0 - (((x0.toUInt32 >>> (Int32.toUInt32 1 &&& Int32.toUInt32 31)).toInt32) &&& 1431655765)) &&& 858993459) + ((((x0 - (((x0.toUInt32 >>> (Int32.toUInt32 1 &&& Int32.toUInt32 31)).toInt32) &&& 1431655765)).toUInt32 >>> (Int32.toUInt32 2 &&& Int32.toUInt32 31)).toInt32) &&& 858993459)).toUInt32 >>> (Int32.toUInt32 4 &&& Int32.toUInt32 31)).toInt32)) &&& 252645135) + (((((((x0 - (((x0.toUInt32 >>> (Int32.toUInt32 1 &&& Int32.toUInt32 31)).toInt32) &&& 1431655765)) &&& 858993459) + ((((x0 - (((x0.toUInt32 >>> (Int32.toUInt32 1 &&& Int32.toUInt32 31)).toInt32) &&& 1431655765)).toUInt32 >>> (Int32.toUInt32 2 &&& Int32.toUInt32 31)).toInt32) &&& 858993459)) + (((((x0 - (((x0.toUInt32 >>> (Int32.toUInt32 1 &&& Int32.toUInt32 31)).toInt32) &&& 1431655765)) &&& 858993459) + ((((x0 - (((x0.toUInt32 >>> (Int32.toUInt32 1 &&& Int32.toUInt32 31)).toInt32) &&& 1431655765)).toUInt32 >>> (Int32.toUInt32 2 &&& Int32.toUInt32 31)).toInt32) &&& 858993459)).toUInt32 >>> (Int32.toUInt32 4 &&& Int32.toUInt32 31)).toInt32)) &&& 252645135).toUInt32 >>> (Int32.toUInt32 8 &&& Int32.toUInt32 31)).toInt32))) hk_267 rfl rfl rfl ?_
  refine kg_istore (L2 := [.int ((((((x0 - (((x0.toUInt32 >>> (Int32.toUInt32 1 &&& Int32.toUInt32 31)).toInt32) &&& 1431655765)) &&& 858993459) + ((((x0 - (((x0.toUInt32 >>> (Int32.toUInt32 1 &&& Int32.toUInt32 31)).toInt32) &&& 1431655765)).toUInt32 >>> (Int32.toUInt32 2 &&& Int32.toUInt32 31)).toInt32) &&& 858993459)) + (((((x0 - (((x0.toUInt32 >>> (Int32.toUInt32 1 &&& Int32.toUInt32 31)).toInt32) &&& 1431655765)) &&& 858993459) + ((((x0 - (((x0.toUInt32 >>> (Int32.toUInt32 1 &&& Int32.toUInt32 31)).toInt32) &&& 1431655765)).toUInt32 >>> (Int32.toUInt32 2 &&& Int32.toUInt32 31)).toInt32) &&& 858993459)).toUInt32 >>> (Int32.toUInt32 4 &&& Int32.toUInt32 31)).toInt32)) &&& 252645135) + (((((((x0 - (((x0.toUInt32 >>> (Int32.toUInt32 1 &&& Int32.toUInt32 31)).toInt32) &&& 1431655765)) &&& 858993459) + ((((x0 - (((x0.toUInt32 >>> (Int32.toUInt32 1 &&& Int32.toUInt32 31)).toInt32) &&& 1431655765)).toUInt32 >>> (Int32.toUInt32 2 &&& Int32.toUInt32 31)).toInt32) &&& 858993459)) + (((((x0 - (((x0.toUInt32 >>> (Int32.toUInt32 1 &&& Int32.toUInt32 31)).toInt32) &&& 1431655765)) &&& 858993459) + ((((x0 - (((x0.toUInt32 >>> (Int32.toUInt32 1 &&& Int32.toUInt32 31)).toInt32) &&& 1431655765)).toUInt32 >>> (Int32.toUInt32 2 &&& Int32.toUInt32 31)).toInt32) &&& 858993459)).toUInt32 >>> (Int32.toUInt32 4 &&& Int32.toUInt32 31)).toInt32)) &&& 252645135).toUInt32 >>> (Int32.toUInt32 8 &&& Int32.toUInt32 31)).toInt32))]) hk_267 rfl (Nat.le_of_ble_eq_true rfl) rfl rfl ?_
  refine kg_iload hk_267 rfl rfl rfl ?_
  refine kg_iload hk_267 rfl rfl rfl ?_
  refine kg_push (x := 16) hk_267 rfl (by decide) rfl ?_
  refine kg_bin (z := ((((((((x0 - (((x0.toUInt32 >>> (Int32.toUInt32 1 &&& Int32.toUInt32 31)).toInt32) &&& 1431655765)) &&& 858993459) + ((((x0 - (((x0.toUInt32 >>> (Int32.toUInt32 1 &&& Int32.toUInt32 31)).toInt32) &&& 1431655765)).toUInt32 >>> (Int32.toUInt32 2 &&& Int32.toUInt32 31)).toInt32) &&& 858993459)) + (((((x0 - (((x0.toUInt32 >>> (Int32.toUInt32 1 &&& Int32.toUInt32 31)).toInt32) &&& 1431655765)) &&& 858993459) + ((((x0 - (((x0.toUInt32 >>> (Int32.toUInt32 1 &&& Int32.toUInt32 31)).toInt32) &&& 1431655765)).toUInt32 >>> (Int32.toUInt32 2 &&& Int32.toUInt32 31)).toInt32) &&& 858993459)).toUInt32 >>> (Int32.toUInt32 4 &&& Int32.toUInt32 31)).toInt32)) &&& 252645135) + (((((((x0 - (((x0.toUInt32 >>> (Int32.toUInt32 1 &&& Int32.toUInt32 31)).toInt32) &&& 1431655765)) &&& 858993459) + ((((x0 - (((x0.toUInt32 >>> (Int32.toUInt32 1 &&& Int32.toUInt32 31)).toInt32) &&& 1431655765)).toUInt32 >>> (Int32.toUInt32 2 &&& Int32.toUInt32 31)).toInt32) &&& 858993459)) + (((((x0 - (((x0.toUInt32 >>> (Int32.toUInt32 1 &&& Int32.toUInt32 31)).toInt32) &&& 1431655765)) &&& 858993459) + ((((x0 - (((x0.toUInt32 >>> (Int32.toUInt32 1 &&& Int32.toUInt32 31)).toInt32) &&& 1431655765)).toUInt32 >>> (Int32.toUInt32 2 &&& Int32.toUInt32 31)).toInt32) &&& 858993459)).toUInt32 >>> (Int32.toUInt32 4 &&& Int32.toUInt32 31)).toInt32)) &&& 252645135).toUInt32 >>> (Int32.toUInt32 8 &&& Int32.toUInt32 31)).toInt32)).toUInt32 >>> (Int32.toUInt32 16 &&& Int32.toUInt32 31)).toInt32)) hk_267 rfl rfl rfl ?_
  refine kg_bin (z := (((((((x0 - (((x0.toUInt32 >>> (Int32.toUInt32 1 &&& Int32.toUInt32 31)).toInt32) &&& 1431655765)) &&& 858993459) + ((((x0 - (((x0.toUInt32 >>> (Int32.toUInt32 1 &&& Int32.toUInt32 31)).toInt32) &&& 1431655765)).toUInt32 >>> (Int32.toUInt32 2 &&& Int32.toUInt32 31)).toInt32) &&& 858993459)) + (((((x0 - (((x0.toUInt32 >>> (Int32.toUInt32 1 &&& Int32.toUInt32 31)).toInt32) &&& 1431655765)) &&& 858993459) + ((((x0 - (((x0.toUInt32 >>> (Int32.toUInt32 1 &&& Int32.toUInt32 31)).toInt32) &&& 1431655765)).toUInt32 >>> (Int32.toUInt32 2 &&& Int32.toUInt32 31)).toInt32) &&& 858993459)).toUInt32 >>> (Int32.toUInt32 4 &&& Int32.toUInt32 31)).toInt32)) &&& 252645135) + (((((((x0 - (((x0.toUInt32 >>> (Int32.toUInt32 1 &&& Int32.toUInt32 31)).toInt32) &&& 1431655765)) &&& 858993459) + ((((x0 - (((x0.toUInt32 >>> (Int32.toUInt32 1 &&& Int32.toUInt32 31)).toInt32) &&& 1431655765)).toUInt32 >>> (Int32.toUInt32 2 &&& Int32.toUInt32 31)).toInt32) &&& 858993459)) + (((((x0 - (((x0.toUInt32 >>> (Int32.toUInt32 1 &&& Int32.toUInt32 31)).toInt32) &&& 1431655765)) &&& 858993459) + ((((x0 - (((x0.toUInt32 >>> (Int32.toUInt32 1 &&& Int32.toUInt32 31)).toInt32) &&& 1431655765)).toUInt32 >>> (Int32.toUInt32 2 &&& Int32.toUInt32 31)).toInt32) &&& 858993459)).toUInt32 >>> (Int32.toUInt32 4 &&& Int32.toUInt32 31)).toInt32)) &&& 252645135).toUInt32 >>> (Int32.toUInt32 8 &&& Int32.toUInt32 31)).toInt32)) + ((((((((x0 - (((x0.toUInt32 >>> (Int32.toUInt32 1 &&& Int32.toUInt32 31)).toInt32) &&& 1431655765)) &&& 858993459) + ((((x0 - (((x0.toUInt32 >>> (Int32.toUInt32 1 &&& Int32.toUInt32 31)).toInt32) &&& 1431655765)).toUInt32 >>> (Int32.toUInt32 2 &&& Int32.toUInt32 31)).toInt32) &&& 858993459)) + (((((x0 - (((x0.toUInt32 >>> (Int32.toUInt32 1 &&& Int32.toUInt32 31)).toInt32) &&& 1431655765)) &&& 858993459) + ((((x0 - (((x0.toUInt32 >>> (Int32.toUInt32 1 &&& Int32.toUInt32 31)).toInt32) &&& 1431655765)).toUInt32 >>> (Int32.toUInt32 2 &&& Int32.toUInt32 31)).toInt32) &&& 858993459)).toUInt32 >>> (Int32.toUInt32 4 &&& Int32.toUInt32 31)).toInt32)) &&& 252645135) + (((((((x0 - (((x0.toUInt32 >>> (Int32.toUInt32 1 &&& Int32.toUInt32 31)).toInt32) &&& 1431655765)) &&& 858993459) + ((((x0 - (((x0.toUInt32 >>> (Int32.toUInt32 1 &&& Int32.toUInt32 31)).toInt32) &&& 1431655765)).toUInt32 >>> (Int32.toUInt32 2 &&& Int32.toUInt32 31)).toInt32) &&& 858993459)) + (((((x0 - (((x0.toUInt32 >>> (Int32.toUInt32 1 &&& Int32.toUInt32 31)).toInt32) &&& 1431655765)) &&& 858993459) + ((((x0 - (((x0.toUInt32 >>> (Int32.toUInt32 1 &&& Int32.toUInt32 31)).toInt32) &&& 1431655765)).toUInt32 >>> (Int32.toUInt32 2 &&& Int32.toUInt32 31)).toInt32) &&& 858993459)).toUInt32 >>> (Int32.toUInt32 4 &&& Int32.toUInt32 31)).toInt32)) &&& 252645135).toUInt32 >>> (Int32.toUInt32 8 &&& Int32.toUInt32 31)).toInt32)).toUInt32 >>> (Int32.toUInt32 16 &&& Int32.toUInt32 31)).toInt32))) hk_267 rfl rfl rfl ?_
  refine kg_istore (L2 := [.int (((((((x0 - (((x0.toUInt32 >>> (Int32.toUInt32 1 &&& Int32.toUInt32 31)).toInt32) &&& 1431655765)) &&& 858993459) + ((((x0 - (((x0.toUInt32 >>> (Int32.toUInt32 1 &&& Int32.toUInt32 31)).toInt32) &&& 1431655765)).toUInt32 >>> (Int32.toUInt32 2 &&& Int32.toUInt32 31)).toInt32) &&& 858993459)) + (((((x0 - (((x0.toUInt32 >>> (Int32.toUInt32 1 &&& Int32.toUInt32 31)).toInt32) &&& 1431655765)) &&& 858993459) + ((((x0 - (((x0.toUInt32 >>> (Int32.toUInt32 1 &&& Int32.toUInt32 31)).toInt32) &&& 1431655765)).toUInt32 >>> (Int32.toUInt32 2 &&& Int32.toUInt32 31)).toInt32) &&& 858993459)).toUInt32 >>> (Int32.toUInt32 4 &&& Int32.toUInt32 31)).toInt32)) &&& 252645135) + (((((((x0 - (((x0.toUInt32 >>> (Int32.toUInt32 1 &&& Int32.toUInt32 31)).toInt32) &&& 1431655765)) &&& 858993459) + ((((x0 - (((x0.toUInt32 >>> (Int32.toUInt32 1 &&& Int32.toUInt32 31)).toInt32) &&& 1431655765)).toUInt32 >>> (Int32.toUInt32 2 &&& Int32.toUInt32 31)).toInt32) &&& 858993459)) + (((((x0 - (((x0.toUInt32 >>> (Int32.toUInt32 1 &&& Int32.toUInt32 31)).toInt32) &&& 1431655765)) &&& 858993459) + ((((x0 - (((x0.toUInt32 >>> (Int32.toUInt32 1 &&& Int32.toUInt32 31)).toInt32) &&& 1431655765)).toUInt32 >>> (Int32.toUInt32 2 &&& Int32.toUInt32 31)).toInt32) &&& 858993459)).toUInt32 >>> (Int32.toUInt32 4 &&& Int32.toUInt32 31)).toInt32)) &&& 252645135).toUInt32 >>> (Int32.toUInt32 8 &&& Int32.toUInt32 31)).toInt32)) + ((((((((x0 - (((x0.toUInt32 >>> (Int32.toUInt32 1 &&& Int32.toUInt32 31)).toInt32) &&& 1431655765)) &&& 858993459) + ((((x0 - (((x0.toUInt32 >>> (Int32.toUInt32 1 &&& Int32.toUInt32 31)).toInt32) &&& 1431655765)).toUInt32 >>> (Int32.toUInt32 2 &&& Int32.toUInt32 31)).toInt32) &&& 858993459)) + (((((x0 - (((x0.toUInt32 >>> (Int32.toUInt32 1 &&& Int32.toUInt32 31)).toInt32) &&& 1431655765)) &&& 858993459) + ((((x0 - (((x0.toUInt32 >>> (Int32.toUInt32 1 &&& Int32.toUInt32 31)).toInt32) &&& 1431655765)).toUInt32 >>> (Int32.toUInt32 2 &&& Int32.toUInt32 31)).toInt32) &&& 858993459)).toUInt32 >>> (Int32.toUInt32 4 &&& Int32.toUInt32 31)).toInt32)) &&& 252645135) + (((((((x0 - (((x0.toUInt32 >>> (Int32.toUInt32 1 &&& Int32.toUInt32 31)).toInt32) &&& 1431655765)) &&& 858993459) + ((((x0 - (((x0.toUInt32 >>> (Int32.toUInt32 1 &&& Int32.toUInt32 31)).toInt32) &&& 1431655765)).toUInt32 >>> (Int32.toUInt32 2 &&& Int32.toUInt32 31)).toInt32) &&& 858993459)) + (((((x0 - (((x0.toUInt32 >>> (Int32.toUInt32 1 &&& Int32.toUInt32 31)).toInt32) &&& 1431655765)) &&& 858993459) + ((((x0 - (((x0.toUInt32 >>> (Int32.toUInt32 1 &&& Int32.toUInt32 31)).toInt32) &&& 1431655765)).toUInt32 >>> (Int32.toUInt32 2 &&& Int32.toUInt32 31)).toInt32) &&& 858993459)).toUInt32 >>> (Int32.toUInt32 4 &&& Int32.toUInt32 31)).toInt32)) &&& 252645135).toUInt32 >>> (Int32.toUInt32 8 &&& Int32.toUInt32 31)).toInt32)).toUInt32 >>> (Int32.toUInt32 16 &&& Int32.toUInt32 31)).toInt32))]) hk_267 rfl (Nat.le_of_ble_eq_true rfl) rfl rfl ?_
  refine kg_iload hk_267 rfl rfl rfl ?_
  refine kg_push (x := 63) hk_267 rfl (by decide) rfl ?_
  refine kg_bin (z := ((((((((x0 - (((x0.toUInt32 >>> (Int32.toUInt32 1 &&& Int32.toUInt32 31)).toInt32) &&& 1431655765)) &&& 858993459) + ((((x0 - (((x0.toUInt32 >>> (Int32.toUInt32 1 &&& Int32.toUInt32 31)).toInt32) &&& 1431655765)).toUInt32 >>> (Int32.toUInt32 2 &&& Int32.toUInt32 31)).toInt32) &&& 858993459)) + (((((x0 - (((x0.toUInt32 >>> (Int32.toUInt32 1 &&& Int32.toUInt32 31)).toInt32) &&& 1431655765)) &&& 858993459) + ((((x0 - (((x0.toUInt32 >>> (Int32.toUInt32 1 &&& Int32.toUInt32 31)).toInt32) &&& 1431655765)).toUInt32 >>> (Int32.toUInt32 2 &&& Int32.toUInt32 31)).toInt32) &&& 858993459)).toUInt32 >>> (Int32.toUInt32 4 &&& Int32.toUInt32 31)).toInt32)) &&& 252645135) + (((((((x0 - (((x0.toUInt32 >>> (Int32.toUInt32 1 &&& Int32.toUInt32 31)).toInt32) &&& 1431655765)) &&& 858993459) + ((((x0 - (((x0.toUInt32 >>> (Int32.toUInt32 1 &&& Int32.toUInt32 31)).toInt32) &&& 1431655765)).toUInt32 >>> (Int32.toUInt32 2 &&& Int32.toUInt32 31)).toInt32) &&& 858993459)) + (((((x0 - (((x0.toUInt32 >>> (Int32.toUInt32 1 &&& Int32.toUInt32 31)).toInt32) &&& 1431655765)) &&& 858993459) + ((((x0 - (((x0.toUInt32 >>> (Int32.toUInt32 1 &&& Int32.toUInt32 31)).toInt32) &&& 1431655765)).toUInt32 >>> (Int32.toUInt32 2 &&& Int32.toUInt32 31)).toInt32) &&& 858993459)).toUInt32 >>> (Int32.toUInt32 4 &&& Int32.toUInt32 31)).toInt32)) &&& 252645135).toUInt32 >>> (Int32.toUInt32 8 &&& Int32.toUInt32 31)).toInt32)) + ((((((((x0 - (((x0.toUInt32 >>> (Int32.toUInt32 1 &&& Int32.toUInt32 31)).toInt32) &&& 1431655765)) &&& 858993459) + ((((x0 - (((x0.toUInt32 >>> (Int32.toUInt32 1 &&& Int32.toUInt32 31)).toInt32) &&& 1431655765)).toUInt32 >>> (Int32.toUInt32 2 &&& Int32.toUInt32 31)).toInt32) &&& 858993459)) + (((((x0 - (((x0.toUInt32 >>> (Int32.toUInt32 1 &&& Int32.toUInt32 31)).toInt32) &&& 1431655765)) &&& 858993459) + ((((x0 - (((x0.toUInt32 >>> (Int32.toUInt32 1 &&& Int32.toUInt32 31)).toInt32) &&& 1431655765)).toUInt32 >>> (Int32.toUInt32 2 &&& Int32.toUInt32 31)).toInt32) &&& 858993459)).toUInt32 >>> (Int32.toUInt32 4 &&& Int32.toUInt32 31)).toInt32)) &&& 252645135) + (((((((x0 - (((x0.toUInt32 >>> (Int32.toUInt32 1 &&& Int32.toUInt32 31)).toInt32) &&& 1431655765)) &&& 858993459) + ((((x0 - (((x0.toUInt32 >>> (Int32.toUInt32 1 &&& Int32.toUInt32 31)).toInt32) &&& 1431655765)).toUInt32 >>> (Int32.toUInt32 2 &&& Int32.toUInt32 31)).toInt32) &&& 858993459)) + (((((x0 - (((x0.toUInt32 >>> (Int32.toUInt32 1 &&& Int32.toUInt32 31)).toInt32) &&& 1431655765)) &&& 858993459) + ((((x0 - (((x0.toUInt32 >>> (Int32.toUInt32 1 &&& Int32.toUInt32 31)).toInt32) &&& 1431655765)).toUInt32 >>> (Int32.toUInt32 2 &&& Int32.toUInt32 31)).toInt32) &&& 858993459)).toUInt32 >>> (Int32.toUInt32 4 &&& Int32.toUInt32 31)).toInt32)) &&& 252645135).toUInt32 >>> (Int32.toUInt32 8 &&& Int32.toUInt32 31)).toInt32)).toUInt32 >>> (Int32.toUInt32 16 &&& Int32.toUInt32 31)).toInt32)) &&& 63)) hk_267 rfl rfl rfl ?_
  have hF := Option.some.inj hF
  subst hF
  exact kg_iret hk_267 rfl (Or.inl rfl) rfl
-- NotebookWeir$Machine.holdHeads(LNotebookWeir$Code;)I
theorem hk_30 : jP[30]? = some (jc_30, 4, [], []) := by rfl
def l_30_2 (h : Hp) (q1 : Nat) (x2 : Int32) : Option ((Int32) ⊕ (Int32 ⊕ Unit)) :=
  if x2 < (h q1 3) then
    (w_gd (w_ix x2 41) <|
    (p_31 h ((h (q1 + 2) x2.toNatClampNeg) &&& (h q1 7))).bind fun vz3 =>
    if vz3 = 0 then
      (some (.inl (x2 + 1)))
    else
      (some (.inr (.inl x2))))
  else
    (some (.inr (.inr ())))
theorem l_30_2_st {X : List Int32} {o : kO}  {h : Hp} {q1 : Nat} {x2 : Int32} (t1 : w_ob q1 1) {r : (Int32) ⊕ (Int32 ⊕ Unit)} (hF : l_30_2 h q1 x2 = some r) (hK : ∀ s' : Int32, r = .inl s' → ∀ (u3 : Value), k_Go X 2 30 (2, [.ref (28 + 1), .ref (q1 + 1), .int (s'), u3], []) h o) (hX0 : ∀ x : Int32, r = .inr (.inl x) → ∀ (u3 : Value), k_Go X 2 30 (16, [.ref (28 + 1), .ref (q1 + 1), .int x, u3], []) h o) (hX1 : ∀ x : Unit, r = .inr (.inr x) → ∀ (u2 : Value) (u3 : Value), k_Go X 2 30 (26, [.ref (28 + 1), .ref (q1 + 1), u2, u3], []) h o) : ∀ (u3 : Value), k_Go X 2 30 (2, [.ref (28 + 1), .ref (q1 + 1), .int x2, u3], []) h o := by
  intro u3
  refine kg_iload hk_30 rfl rfl rfl ?_
  refine kg_aload hk_30 rfl rfl rfl ?_
  refine kg_get (v := .int (h q1 3)) hk_30 rfl (wf_1_3 t1) rfl rfl ?_
  refine wf_if hF (fun cz1 hF => ?_) (fun cz1 hF => ?_)
  · refine kg_icF hk_30 rfl (jc_F3 cz1) rfl ?_
    refine kg_aload hk_30 rfl rfl rfl ?_
    refine kg_aload hk_30 rfl rfl rfl ?_
    refine kg_get (v := .ref ((q1 + 2) + 1)) hk_30 rfl (wf_1_1 t1) rfl rfl ?_
    refine kg_iload hk_30 rfl rfl rfl ?_
    refine wf_gd hF (fun gz2 hF => ?_)
    refine kg_ald (y := (h (q1 + 2) x2.toNatClampNeg)) hk_30 rfl (wo_1_1 t1) gz2 rfl rfl ?_
    refine kg_aload hk_30 rfl rfl rfl ?_
    refine kg_get (v := .int (h q1 7)) hk_30 rfl (wf_1_7 t1) rfl rfl ?_
    refine kg_bin (z := ((h (q1 + 2) x2.toNatClampNeg) &&& (h q1 7))) hk_30 rfl rfl rfl ?_
    refine wf_bind hF (fun vz3 hvz3 hF => ?_)
    refine kg_call (as := [.ref (28 + 1), .int ((h (q1 + 2) x2.toNatClampNeg) &&& (h q1 7))]) (rest := []) hk_30 rfl (Or.inr (Or.inr (Or.inr ⟨Or.inl rfl, _, _, rfl, wc_28⟩))) rfl rfl rfl (Nat.not_lt.mpr (Nat.le_of_ble_eq_true rfl)) (p_31_ok hvz3) (by decide) rfl ?_
    refine wf_if hF (fun cz4 hF => ?_) (fun cz4 hF => ?_)
    · refine kg_ifT hk_30 rfl (jc_T0 cz4) ?_
      refine kg_iinc (y := (x2 + 1)) (L2 := [.ref (28 + 1), .ref (q1 + 1), .int (x2 + 1), u3]) hk_30 rfl rfl rfl rfl rfl ?_
      refine kg_goto hk_30 rfl ?_
      have hF := Option.some.inj hF
      exact hK _ hF.symm _
    · refine kg_ifF hk_30 rfl (jc_F0 cz4) rfl ?_
      have hF := Option.some.inj hF
      exact hX0 _ hF.symm _
  · refine kg_icT hk_30 rfl (jc_T3 cz1) ?_
    have hF := Option.some.inj hF
    exact hX1 _ hF.symm _ _
theorem l_30_2_ok {X : List Int32} {o : kO}  {h : Hp} {q1 : Nat} (t1 : w_ob q1 1) {n : Nat} {s : Int32} {e : (Int32 ⊕ Unit)} (hF : w_lp (fun (s : Int32) => l_30_2 h q1 s) n s = some e) (hX0 : ∀ x : Int32, e = (.inl x) → ∀ (u3 : Value), k_Go X 2 30 (16, [.ref (28 + 1), .ref (q1 + 1), .int x, u3], []) h o) (hX1 : ∀ x : Unit, e = (.inr x) → ∀ (u2 : Value) (u3 : Value), k_Go X 2 30 (26, [.ref (28 + 1), .ref (q1 + 1), u2, u3], []) h o) : ∀ (u3 : Value), k_Go X 2 30 (2, [.ref (28 + 1), .ref (q1 + 1), .int s, u3], []) h o := by
  exact w_lp_ok (P := (fun (s : Int32) => ∀ (u3 : Value), k_Go X 2 30 (2, [.ref (28 + 1), .ref (q1 + 1), .int s, u3], []) h o)) (Q := (fun (e : (Int32 ⊕ Unit)) => (∀ x : Int32, e = (.inl x) → ∀ (u3 : Value), k_Go X 2 30 (16, [.ref (28 + 1), .ref (q1 + 1), .int x, u3], []) h o) ∧ (∀ x : Unit, e = (.inr x) → ∀ (u2 : Value) (u3 : Value), k_Go X 2 30 (26, [.ref (28 + 1), .ref (q1 + 1), u2, u3], []) h o))) (fun s r hF hK hX => l_30_2_st t1 hF hK (fun x hx => (hX _ hx).1 x rfl) (fun x hx => (hX _ hx).2 x rfl)) n s e hF ⟨hX0, hX1⟩
def q_30_53 (h : Hp) (q1 : Nat) (x2 : Int32) (x3 : Int32) (s0 : Int32) (s1 : Int32) : Option ((Int32 × Hp) ⊕ Hp) :=
  (p_68 h 29 s1 s0).bind fun vz15 =>
  some (.inl ((x3 + 1), vz15))
theorem q_30_53_ok {X : List Int32} {o : kO}  {h : Hp} {q1 : Nat} {s0 : Int32} {s1 : Int32} {x2 : Int32} {x3 : Int32} (t1 : w_ob q1 1) {r : (Int32 × Hp) ⊕ Hp} (hF : q_30_53 h q1 x2 x3 s0 s1 = some r) (hK : ∀ s' : Int32 × Hp, r = .inl s' → k_Go X 2 30 (35, [.ref (28 + 1), .ref (q1 + 1), .int x2, .int (s'.1)], []) s'.2 o) (hX0 : ∀ e : Hp, r = .inr e → ∀ (u3 : Value), k_Go X 2 30 (56, [.ref (28 + 1), .ref (q1 + 1), .int x2, u3], []) e o) : k_Go X 2 30 (53, [.ref (28 + 1), .ref (q1 + 1), .int x2, .int x3], [.int s0, .int s1, .ref (29 + 1)]) h o := by
  unfold q_30_53 at hF
  refine wf_bind hF (fun vz15 hvz15 hF => ?_)
  refine kg_call (as := [.ref (29 + 1), .int s1, .int s0]) (rest := []) hk_30 rfl (Or.inr (Or.inr (Or.inr ⟨Or.inl rfl, _, _, rfl, wc_29⟩))) rfl rfl rfl (Nat.not_lt.mpr (Nat.le_of_ble_eq_true rfl)) (p_68_ok wc_29 hvz15) (by decide) rfl ?_
  refine kg_iinc (y := (x3 + 1)) (L2 := [.ref (28 + 1), .ref (q1 + 1), .int x2, .int (x3 + 1)]) hk_30 rfl rfl rfl rfl rfl ?_
  refine kg_goto hk_30 rfl ?_
  have hF := Option.some.inj hF
  exact hK _ hF.symm
def l_30_35 (q1 : Nat) (x2 : Int32) (x3 : Int32) (h : Hp) : Option ((Int32 × Hp) ⊕ Hp) :=
  if x3 < 26 then
    (if (v_126 (h q1 5) x3) = 0 then
      (some (.inl ((x3 + 1), h)))
    else
      (q_30_53 h q1 x2 x3 (if (v_126 x2 x3) = 0 then 0 else 1 : Int32) x3))
  else
    (some (.inr h))
theorem l_30_35_st {X : List Int32} {o : kO}  {h : Hp} {q1 : Nat} {x2 : Int32} {x3 : Int32} (t1 : w_ob q1 1) {r : (Int32 × Hp) ⊕ Hp} (hF : l_30_35 q1 x2 x3 h = some r) (hK : ∀ s' : Int32 × Hp, r = .inl s' → k_Go X 2 30 (35, [.ref (28 + 1), .ref (q1 + 1), .int x2, .int (s'.1)], []) s'.2 o) (hX0 : ∀ e : Hp, r = .inr e → ∀ (u3 : Value), k_Go X 2 30 (56, [.ref (28 + 1), .ref (q1 + 1), .int x2, u3], []) e o) : k_Go X 2 30 (35, [.ref (28 + 1), .ref (q1 + 1), .int x2, .int x3], []) h o := by
  refine kg_iload hk_30 rfl rfl rfl ?_
  refine kg_push (x := 26) hk_30 rfl (by decide) rfl ?_
  refine wf_if hF (fun cz12 hF => ?_) (fun cz12 hF => ?_)
  · refine kg_icF hk_30 rfl (jc_F3 cz12) rfl ?_
    refine kg_aload hk_30 rfl rfl rfl ?_
    refine kg_get (v := .int (h q1 5)) hk_30 rfl (wf_1_5 t1) rfl rfl ?_
    refine kg_iload hk_30 rfl rfl rfl ?_
    refine kg_call (as := [.int (h q1 5), .int x3]) (rest := []) hk_30 rfl (Or.inr (Or.inl rfl)) rfl rfl rfl (Nat.not_lt.mpr (Nat.le_of_ble_eq_true rfl)) (v_126_ok) (by decide) rfl ?_
    refine wf_if hF (fun cz13 hF => ?_) (fun cz13 hF => ?_)
    · refine kg_ifT hk_30 rfl (jc_T0 cz13) ?_
      refine kg_iinc (y := (x3 + 1)) (L2 := [.ref (28 + 1), .ref (q1 + 1), .int x2, .int (x3 + 1)]) hk_30 rfl rfl rfl rfl rfl ?_
      refine kg_goto hk_30 rfl ?_
      have hF := Option.some.inj hF
      exact hK _ hF.symm
    · refine kg_ifF hk_30 rfl (jc_F0 cz13) rfl ?_
      refine kg_aload hk_30 rfl rfl rfl ?_
      refine kg_get (v := .ref (29 + 1)) hk_30 rfl wk_28_0 rfl rfl ?_
      refine kg_iload hk_30 rfl rfl rfl ?_
      refine kg_iload hk_30 rfl rfl rfl ?_
      refine kg_iload hk_30 rfl rfl rfl ?_
      refine kg_call (as := [.int x2, .int x3]) (rest := [.int x3, .ref (29 + 1)]) hk_30 rfl (Or.inr (Or.inl rfl)) rfl rfl rfl (Nat.not_lt.mpr (Nat.le_of_ble_eq_true rfl)) (v_126_ok) (by decide) rfl ?_
      refine kv_mid (p := 53) (L := [.ref (28 + 1), .ref (q1 + 1), .int x2, .int x3]) (S := [.int (if (v_126 x2 x3) = 0 then 0 else 1 : Int32), .int x3, .ref (29 + 1)]) ?_ (fun hK => ?_)
      · exact q_30_53_ok t1 hF hK hX0
      · by_cases cz14 : (v_126 x2 x3) = 0
        · have hK := kv_T cz14 hK
          refine kg_ifT hk_30 rfl (jc_T0 cz14) ?_
          refine kg_push (x := 0) hk_30 rfl (by decide) rfl ?_
          exact hK
        · have hK := kv_F cz14 hK
          refine kg_ifF hk_30 rfl (jc_F0 cz14) rfl ?_
          refine kg_push (x := 1) hk_30 rfl (by decide) rfl ?_
          refine kg_goto hk_30 rfl ?_
          exact hK
  · refine kg_icT hk_30 rfl (jc_T3 cz12) ?_
    have hF := Option.some.inj hF
    exact hX0 _ hF.symm _
theorem l_30_35_ok {X : List Int32} {o : kO}  {q1 : Nat} {x2 : Int32} (t1 : w_ob q1 1) {n : Nat} {s : Int32 × Hp} {e : Hp} (hF : w_lp (fun (s : Int32 × Hp) => l_30_35 q1 x2 s.1 s.2) n s = some e) (hX0 : ∀ (u3 : Value), k_Go X 2 30 (56, [.ref (28 + 1), .ref (q1 + 1), .int x2, u3], []) e o) : k_Go X 2 30 (35, [.ref (28 + 1), .ref (q1 + 1), .int x2, .int s.1], []) s.2 o := by
  exact w_lp_ok (P := (fun (s : Int32 × Hp) => k_Go X 2 30 (35, [.ref (28 + 1), .ref (q1 + 1), .int x2, .int s.1], []) s.2 o)) (Q := (fun (e : Hp) => (∀ (u3 : Value), k_Go X 2 30 (56, [.ref (28 + 1), .ref (q1 + 1), .int x2, u3], []) e o))) (fun s r hF hK hX => l_30_35_st t1 hF hK (fun x hx => (hX _ hx))) n s e hF hX0
def p_30 (h : Hp) (q1 : Nat) : Option (Int32 × Hp) :=
  (w_lp (fun (s : Int32) => l_30_2 h q1 s) w_N 0).bind <| (Sum.elim (fun yz6 =>
    (w_gd (w_ix yz6 41) <|
    w_let (w_up h 28 3 (h (q1 + 3) yz6.toNatClampNeg)) fun hz9 =>
    some (1, hz9))) (fun yz7 =>
    ((p_32 h (h q1 7)).bind fun vz10 =>
    (p_33 h q1 vz10).bind fun vz11 =>
    (w_lp (fun (s : Int32 × Hp) => l_30_35 q1 vz11 s.1 s.2) w_N (0, h)).bind fun ez16 =>
    (p_267 ez16 (vz11 &&& (ez16 q1 5))).bind fun vz17 =>
    (p_68 ez16 29 26 vz17).bind fun vz18 =>
    some (0, vz18))))
theorem p_30_ok {X : List Int32}  {h : Hp} {q1 : Nat} (t1 : w_ob q1 1) {r : Int32 × Hp} (hF : p_30 h q1 = some r) : k_Ev X 2 30 [.ref (28 + 1), .ref (q1 + 1)] h (.inl (some (.int r.1)), r.2) := by
  refine k_of hk_30 ?_
  show k_Go X 2 30 (0, [.ref (28 + 1), .ref (q1 + 1), (.retAddr 0), (.retAddr 0)], []) h _
  unfold p_30 at hF
  refine kg_push (x := 0) hk_30 rfl (by decide) rfl ?_
  refine kg_istore (L2 := [.ref (28 + 1), .ref (q1 + 1), .int 0, (.retAddr 0)]) hk_30 rfl (Nat.le_of_ble_eq_true rfl) rfl rfl ?_
  refine wf_bind hF (fun ez5 hez5 hF => ?_)
  refine l_30_2_ok t1 hez5 ?_ ?_ _
  · intro yz6 hx
    subst hx
    refine wf_inl hF (fun hF => ?_)
    intro u3
    refine kg_aload hk_30 rfl rfl rfl ?_
    refine kg_aload hk_30 rfl rfl rfl ?_
    refine kg_get (v := .ref ((q1 + 3) + 1)) hk_30 rfl (wf_1_2 t1) rfl rfl ?_
    refine kg_iload hk_30 rfl rfl rfl ?_
    refine wf_gd hF (fun gz8 hF => ?_)
    refine kg_ald (y := (h (q1 + 3) yz6.toNatClampNeg)) hk_30 rfl (wo_1_2 t1) gz8 rfl rfl ?_
    refine wf_let hF (fun hz9 hhz9 hF => ?_)
    refine kg_put hk_30 rfl wk_28_3 rfl rfl hhz9 rfl ?_
    refine kg_push (x := 1) hk_30 rfl (by decide) rfl ?_
    have hF := Option.some.inj hF
    subst hF
    exact kg_iret hk_30 rfl (Or.inl rfl) rfl
  · intro yz7 hx
    subst hx
    refine wf_inr hF (fun hF => ?_)
    intro u2 u3
    refine kg_aload hk_30 rfl rfl rfl ?_
    refine kg_aload hk_30 rfl rfl rfl ?_
    refine kg_aload hk_30 rfl rfl rfl ?_
    refine kg_get (v := .int (h q1 7)) hk_30 rfl (wf_1_7 t1) rfl rfl ?_
    refine wf_bind hF (fun vz10 hvz10 hF => ?_)
    refine kg_call (as := [.ref (28 + 1), .int (h q1 7)]) (rest := [.ref (q1 + 1)]) hk_30 rfl (Or.inr (Or.inr (Or.inr ⟨Or.inl rfl, _, _, rfl, wc_28⟩))) rfl rfl rfl (Nat.not_lt.mpr (Nat.le_of_ble_eq_true rfl)) (p_32_ok hvz10) (by decide) rfl ?_
    refine wf_bind hF (fun vz11 hvz11 hF => ?_)
    refine kg_call (as := [.ref (q1 + 1), .int vz10]) (rest := []) hk_30 rfl (Or.inl rfl) rfl rfl rfl (Nat.not_lt.mpr (Nat.le_of_ble_eq_true rfl)) (p_33_ok t1 hvz11) (by decide) rfl ?_
    refine kg_istore (L2 := [.ref (28 + 1), .ref (q1 + 1), .int vz11, u3]) hk_30 rfl (Nat.le_of_ble_eq_true rfl) rfl rfl ?_
    refine kg_push (x := 0) hk_30 rfl (by decide) rfl ?_
    refine kg_istore (L2 := [.ref (28 + 1), .ref (q1 + 1), .int vz11, .int 0]) hk_30 rfl (Nat.le_of_ble_eq_true rfl) rfl rfl ?_
    refine wf_bind hF (fun ez16 hez16 hF => ?_)
    refine l_30_35_ok t1 hez16 ?_
    intro u3
    refine kg_aload hk_30 rfl rfl rfl ?_
    refine kg_get (v := .ref (29 + 1)) hk_30 rfl wk_28_0 rfl rfl ?_
    refine kg_push (x := 26) hk_30 rfl (by decide) rfl ?_
    refine kg_iload hk_30 rfl rfl rfl ?_
    refine kg_aload hk_30 rfl rfl rfl ?_
    refine kg_get (v := .int (ez16 q1 5)) hk_30 rfl (wf_1_5 t1) rfl rfl ?_
    refine kg_bin (z := (vz11 &&& (ez16 q1 5))) hk_30 rfl rfl rfl ?_
    refine wf_bind hF (fun vz17 hvz17 hF => ?_)
    refine kg_call (as := [.int (vz11 &&& (ez16 q1 5))]) (rest := [.int 26, .ref (29 + 1)]) hk_30 rfl (Or.inl rfl) rfl rfl rfl (Nat.not_lt.mpr (Nat.le_of_ble_eq_true rfl)) (p_267_ok hvz17) (by decide) rfl ?_
    refine wf_bind hF (fun vz18 hvz18 hF => ?_)
    refine kg_call (as := [.ref (29 + 1), .int 26, .int vz17]) (rest := []) hk_30 rfl (Or.inr (Or.inr (Or.inr ⟨Or.inl rfl, _, _, rfl, wc_29⟩))) rfl rfl rfl (Nat.not_lt.mpr (Nat.le_of_ble_eq_true rfl)) (p_68_ok wc_29 hvz18) (by decide) rfl ?_
    refine kg_push (x := 0) hk_30 rfl (by decide) rfl ?_
    have hF := Option.some.inj hF
    subst hF
    exact kg_iret hk_30 rfl (Or.inl rfl) rfl
-- NotebookWeir$Machine.execute(LNotebookWeir$Code;LNotebookWeir$Values;LNotebookWeir$Source;)I
theorem hk_16 : jP[16]? = some (jc_16, 6, [], []) := by rfl
def l_16_23 (q1 : Nat) (x4 : Int32) (h : Hp) : Option ((Int32 × Hp) ⊕ ((Int32 × Int32 × Hp) ⊕ Int32 × Hp)) :=
  if x4 < (h q1 3) then
    (w_gd (w_ix x4 41) <|
    w_gd (w_ix x4 41) <|
    (p_18 h (h (q1 + 1) x4.toNatClampNeg) (h (q1 + 2) x4.toNatClampNeg)).bind fun vz10 =>
    if vz10.1 = 0 then
      (some (.inl ((x4 + 1), vz10.2)))
    else
      (some (.inr (.inl (x4, vz10.1, vz10.2)))))
  else
    (some (.inr (.inr (0, h))))
theorem l_16_23_st {X : List Int32} {o : kO}  {h : Hp} {q1 : Nat} {x4 : Int32} (t1 : w_ob q1 1) {r : (Int32 × Hp) ⊕ ((Int32 × Int32 × Hp) ⊕ Int32 × Hp)} (hF : l_16_23 q1 x4 h = some r) (hK : ∀ s' : Int32 × Hp, r = .inl s' → ∀ (u2 : Value) (u3 : Value) (u5 : Value), k_Go X 3 16 (23, [.ref (28 + 1), .ref (q1 + 1), u2, u3, .int (s'.1), u5], []) s'.2 o) (hX0 : ∀ x : Int32 × Int32 × Hp, r = .inr (.inl x) → ∀ (u2 : Value) (u3 : Value), k_Go X 3 16 (40, [.ref (28 + 1), .ref (q1 + 1), u2, u3, .int x.1, .int x.2.1], []) x.2.2 o) (hX1 : ∀ x : Int32 × Hp, r = .inr (.inr x) → (.inl (some (.int x.1)), x.2) = o) : ∀ (u2 : Value) (u3 : Value) (u5 : Value), k_Go X 3 16 (23, [.ref (28 + 1), .ref (q1 + 1), u2, u3, .int x4, u5], []) h o := by
  intro u2 u3 u5
  refine kg_iload hk_16 rfl rfl rfl ?_
  refine kg_aload hk_16 rfl rfl rfl ?_
  refine kg_get (v := .int (h q1 3)) hk_16 rfl (wf_1_3 t1) rfl rfl ?_
  refine wf_if hF (fun cz7 hF => ?_) (fun cz7 hF => ?_)
  · refine kg_icF hk_16 rfl (jc_F3 cz7) rfl ?_
    refine kg_aload hk_16 rfl rfl rfl ?_
    refine kg_aload hk_16 rfl rfl rfl ?_
    refine kg_get (v := .ref ((q1 + 1) + 1)) hk_16 rfl (wf_1_0 t1) rfl rfl ?_
    refine kg_iload hk_16 rfl rfl rfl ?_
    refine wf_gd hF (fun gz8 hF => ?_)
    refine kg_ald (y := (h (q1 + 1) x4.toNatClampNeg)) hk_16 rfl (wo_1_0 t1) gz8 rfl rfl ?_
    refine kg_aload hk_16 rfl rfl rfl ?_
    refine kg_get (v := .ref ((q1 + 2) + 1)) hk_16 rfl (wf_1_1 t1) rfl rfl ?_
    refine kg_iload hk_16 rfl rfl rfl ?_
    refine wf_gd hF (fun gz9 hF => ?_)
    refine kg_ald (y := (h (q1 + 2) x4.toNatClampNeg)) hk_16 rfl (wo_1_1 t1) gz9 rfl rfl ?_
    refine wf_bind hF (fun vz10 hvz10 hF => ?_)
    refine kg_call (as := [.ref (28 + 1), .int (h (q1 + 1) x4.toNatClampNeg), .int (h (q1 + 2) x4.toNatClampNeg)]) (rest := []) hk_16 rfl (Or.inr (Or.inr (Or.inr ⟨Or.inl rfl, _, _, rfl, wc_28⟩))) rfl rfl rfl (Nat.not_lt.mpr (Nat.le_of_ble_eq_true rfl)) (p_18_ok hvz10) (by decide) rfl ?_
    refine kg_istore (L2 := [.ref (28 + 1), .ref (q1 + 1), u2, u3, .int x4, .int vz10.1]) hk_16 rfl (Nat.le_of_ble_eq_true rfl) rfl rfl ?_
    refine kg_iload hk_16 rfl rfl rfl ?_
    refine wf_if hF (fun cz11 hF => ?_) (fun cz11 hF => ?_)
    · refine kg_ifT hk_16 rfl (jc_T0 cz11) ?_
      refine kg_iinc (y := (x4 + 1)) (L2 := [.ref (28 + 1), .ref (q1 + 1), u2, u3, .int (x4 + 1), .int vz10.1]) hk_16 rfl rfl rfl rfl rfl ?_
      refine kg_goto hk_16 rfl ?_
      have hF := Option.some.inj hF
      exact hK _ hF.symm _ _ _
    · refine kg_ifF hk_16 rfl (jc_F0 cz11) rfl ?_
      have hF := Option.some.inj hF
      exact hX0 _ hF.symm _ _
  · refine kg_icT hk_16 rfl (jc_T3 cz7) ?_
    refine kg_push (x := 0) hk_16 rfl (by decide) rfl ?_
    have hF := Option.some.inj hF
    exact kg_iret hk_16 rfl (Or.inl rfl) (hX1 _ hF.symm)
theorem l_16_23_ok {X : List Int32} {o : kO}  {q1 : Nat} (t1 : w_ob q1 1) {n : Nat} {s : Int32 × Hp} {e : ((Int32 × Int32 × Hp) ⊕ Int32 × Hp)} (hF : w_lp (fun (s : Int32 × Hp) => l_16_23 q1 s.1 s.2) n s = some e) (hX0 : ∀ x : Int32 × Int32 × Hp, e = (.inl x) → ∀ (u2 : Value) (u3 : Value), k_Go X 3 16 (40, [.ref (28 + 1), .ref (q1 + 1), u2, u3, .int x.1, .int x.2.1], []) x.2.2 o) (hX1 : ∀ x : Int32 × Hp, e = (.inr x) → (.inl (some (.int x.1)), x.2) = o) : ∀ (u2 : Value) (u3 : Value) (u5 : Value), k_Go X 3 16 (23, [.ref (28 + 1), .ref (q1 + 1), u2, u3, .int s.1, u5], []) s.2 o := by
  exact w_lp_ok (P := (fun (s : Int32 × Hp) => ∀ (u2 : Value) (u3 : Value) (u5 : Value), k_Go X 3 16 (23, [.ref (28 + 1), .ref (q1 + 1), u2, u3, .int s.1, u5], []) s.2 o)) (Q := (fun (e : ((Int32 × Int32 × Hp) ⊕ Int32 × Hp)) => (∀ x : Int32 × Int32 × Hp, e = (.inl x) → ∀ (u2 : Value) (u3 : Value), k_Go X 3 16 (40, [.ref (28 + 1), .ref (q1 + 1), u2, u3, .int x.1, .int x.2.1], []) x.2.2 o) ∧ (∀ x : Int32 × Hp, e = (.inr x) → (.inl (some (.int x.1)), x.2) = o))) (fun s r hF hK hX => l_16_23_st t1 hF hK (fun x hx => (hX _ hx).1 x rfl) (fun x hx => (hX _ hx).2 x rfl)) n s e hF ⟨hX0, hX1⟩
def p_16 (h : Hp) (q1 : Nat) (q2 : Nat) : Option (Int32 × Hp) :=
  (p_72 h 29 q2).bind fun vz1 =>
  w_let (w_up vz1 28 2 0) fun hz2 =>
  w_let (w_up hz2 28 3 0) fun hz3 =>
  w_let (w_up hz3 28 4 (Int32.ofNat 40)) fun hz4 =>
  if (hz4 q1 4) = 2 then
    ((p_30 hz4 q1).bind fun vz6 =>
    some (vz6.1, vz6.2))
  else
    ((w_lp (fun (s : Int32 × Hp) => l_16_23 q1 s.1 s.2) w_N (0, hz4)).bind <| (Sum.elim (fun yz13 =>
      (w_gd (w_ix yz13.1 41) <|
      w_let (w_up yz13.2.2 28 3 (yz13.2.2 (q1 + 3) yz13.1.toNatClampNeg)) fun hz16 =>
      some (yz13.2.1, hz16))) (fun yz14 =>
      (some yz14))))
theorem p_16_ok {X : List Int32}  {h : Hp} {q1 : Nat} {q2 : Nat} (t1 : w_ob q1 1) (t2 : w_ob q2 8) {r : Int32 × Hp} (hF : p_16 h q1 q2 = some r) : k_Ev X 3 16 [.ref (28 + 1), .ref (q1 + 1), .ref (q2 + 1), .ref (40 + 1)] h (.inl (some (.int r.1)), r.2) := by
  refine k_of hk_16 ?_
  show k_Go X 3 16 (0, [.ref (28 + 1), .ref (q1 + 1), .ref (q2 + 1), .ref (40 + 1), (.retAddr 0), (.retAddr 0)], []) h _
  unfold p_16 at hF
  refine kg_aload hk_16 rfl rfl rfl ?_
  refine kg_get (v := .ref (29 + 1)) hk_16 rfl wk_28_0 rfl rfl ?_
  refine kg_aload hk_16 rfl rfl rfl ?_
  refine wf_bind hF (fun vz1 hvz1 hF => ?_)
  refine kg_call (as := [.ref (29 + 1), .ref (q2 + 1)]) (rest := []) hk_16 rfl (Or.inr (Or.inr (Or.inr ⟨Or.inl rfl, _, _, rfl, wc_29⟩))) rfl rfl rfl (Nat.not_lt.mpr (Nat.le_of_ble_eq_true rfl)) (p_72_ok wc_29 t2 hvz1) (by decide) rfl ?_
  refine kg_aload hk_16 rfl rfl rfl ?_
  refine kg_push (x := 0) hk_16 rfl (by decide) rfl ?_
  refine wf_let hF (fun hz2 hhz2 hF => ?_)
  refine kg_put hk_16 rfl wk_28_2 rfl rfl hhz2 rfl ?_
  refine kg_aload hk_16 rfl rfl rfl ?_
  refine kg_push (x := 0) hk_16 rfl (by decide) rfl ?_
  refine wf_let hF (fun hz3 hhz3 hF => ?_)
  refine kg_put hk_16 rfl wk_28_3 rfl rfl hhz3 rfl ?_
  refine kg_aload hk_16 rfl rfl rfl ?_
  refine kg_aload hk_16 rfl rfl rfl ?_
  refine wf_let hF (fun hz4 hhz4 hF => ?_)
  refine kg_put hk_16 rfl wk_28_4 rfl rfl hhz4 rfl ?_
  refine kg_aload hk_16 rfl rfl rfl ?_
  refine kg_get (v := .int (hz4 q1 4)) hk_16 rfl (wf_1_4 t1) rfl rfl ?_
  refine kg_push (x := 2) hk_16 rfl (by decide) rfl ?_
  refine wf_if hF (fun cz5 hF => ?_) (fun cz5 hF => ?_)
  · refine kg_icF hk_16 rfl (jc_F1 cz5) rfl ?_
    refine kg_aload hk_16 rfl rfl rfl ?_
    refine kg_aload hk_16 rfl rfl rfl ?_
    refine wf_bind hF (fun vz6 hvz6 hF => ?_)
    refine kg_call (as := [.ref (28 + 1), .ref (q1 + 1)]) (rest := []) hk_16 rfl (Or.inr (Or.inr (Or.inr ⟨Or.inl rfl, _, _, rfl, wc_28⟩))) rfl rfl rfl (Nat.not_lt.mpr (Nat.le_of_ble_eq_true rfl)) (p_30_ok t1 hvz6) (by decide) rfl ?_
    have hF := Option.some.inj hF
    subst hF
    exact kg_iret hk_16 rfl (Or.inl rfl) rfl
  · refine kg_icT hk_16 rfl (jc_T1 cz5) ?_
    refine kg_push (x := 0) hk_16 rfl (by decide) rfl ?_
    refine kg_istore (L2 := [.ref (28 + 1), .ref (q1 + 1), .ref (q2 + 1), .ref (40 + 1), .int 0, (.retAddr 0)]) hk_16 rfl (Nat.le_of_ble_eq_true rfl) rfl rfl ?_
    refine wf_bind hF (fun ez12 hez12 hF => ?_)
    refine l_16_23_ok t1 hez12 ?_ ?_ _ _ _
    · intro yz13 hx
      subst hx
      refine wf_inl hF (fun hF => ?_)
      intro u2 u3
      refine kg_aload hk_16 rfl rfl rfl ?_
      refine kg_aload hk_16 rfl rfl rfl ?_
      refine kg_get (v := .ref ((q1 + 3) + 1)) hk_16 rfl (wf_1_2 t1) rfl rfl ?_
      refine kg_iload hk_16 rfl rfl rfl ?_
      refine wf_gd hF (fun gz15 hF => ?_)
      refine kg_ald (y := (yz13.2.2 (q1 + 3) yz13.1.toNatClampNeg)) hk_16 rfl (wo_1_2 t1) gz15 rfl rfl ?_
      refine wf_let hF (fun hz16 hhz16 hF => ?_)
      refine kg_put hk_16 rfl wk_28_3 rfl rfl hhz16 rfl ?_
      refine kg_iload hk_16 rfl rfl rfl ?_
      have hF := Option.some.inj hF
      subst hF
      exact kg_iret hk_16 rfl (Or.inl rfl) rfl
    · intro yz14 hx
      subst hx
      refine wf_inr hF (fun hF => ?_)
      have hF := Option.some.inj hF
      subst hF
      rfl
-- NotebookWeir$Values.clear()V
theorem hk_67 : jP[67]? = some (jc_67, 2, [], []) := by rfl
def l_67_2 (q0 : Nat) (x1 : Int32) (h : Hp) : Option ((Int32 × Hp) ⊕ Hp) :=
  if x1 < 27 then
    (w_gd (w_ix x1 27) <|
    w_let (w_up h (q0 + 1) x1.toNatClampNeg 0) fun hz3 =>
    some (.inl ((x1 + 1), hz3)))
  else
    (some (.inr h))
theorem l_67_2_st {X : List Int32} {o : kO}  {h : Hp} {q0 : Nat} {x1 : Int32} (t0 : w_ob q0 8) {r : (Int32 × Hp) ⊕ Hp} (hF : l_67_2 q0 x1 h = some r) (hK : ∀ s' : Int32 × Hp, r = .inl s' → k_Go X 0 67 (2, [.ref (q0 + 1), .int (s'.1)], []) s'.2 o) (hX0 : ∀ e : Hp, r = .inr e → (.inl none, e) = o) : k_Go X 0 67 (2, [.ref (q0 + 1), .int x1], []) h o := by
  refine kg_iload hk_67 rfl rfl rfl ?_
  refine kg_push (x := 27) hk_67 rfl (by decide) rfl ?_
  refine wf_if hF (fun cz1 hF => ?_) (fun cz1 hF => ?_)
  · refine kg_icF hk_67 rfl (jc_F3 cz1) rfl ?_
    refine kg_aload hk_67 rfl rfl rfl ?_
    refine kg_get (v := .ref ((q0 + 1) + 1)) hk_67 rfl (wf_8_0 t0) rfl rfl ?_
    refine kg_iload hk_67 rfl rfl rfl ?_
    refine kg_push (x := 0) hk_67 rfl (by decide) rfl ?_
    refine wf_gd hF (fun gz2 hF => ?_)
    refine wf_let hF (fun hz3 hhz3 hF => ?_)
    refine kg_ast hk_67 rfl (wo_8_0 t0) gz2 hhz3 rfl ?_
    refine kg_iinc (y := (x1 + 1)) (L2 := [.ref (q0 + 1), .int (x1 + 1)]) hk_67 rfl rfl rfl rfl rfl ?_
    refine kg_goto hk_67 rfl ?_
    have hF := Option.some.inj hF
    exact hK _ hF.symm
  · refine kg_icT hk_67 rfl (jc_T3 cz1) ?_
    have hF := Option.some.inj hF
    exact kg_ret hk_67 rfl (hX0 _ hF.symm)
theorem l_67_2_ok {X : List Int32} {o : kO}  {q0 : Nat} (t0 : w_ob q0 8) {n : Nat} {s : Int32 × Hp} {e : Hp} (hF : w_lp (fun (s : Int32 × Hp) => l_67_2 q0 s.1 s.2) n s = some e) (hX0 : (.inl none, e) = o) : k_Go X 0 67 (2, [.ref (q0 + 1), .int s.1], []) s.2 o := by
  exact w_lp_ok (P := (fun (s : Int32 × Hp) => k_Go X 0 67 (2, [.ref (q0 + 1), .int s.1], []) s.2 o)) (Q := (fun (e : Hp) => ((.inl none, e) = o))) (fun s r hF hK hX => l_67_2_st t0 hF hK (fun x hx => (hX _ hx))) n s e hF hX0
def p_67 (h : Hp) (q0 : Nat) : Option (Hp) :=
  w_lp (fun (s : Int32 × Hp) => l_67_2 q0 s.1 s.2) w_N (0, h)
theorem p_67_ok {X : List Int32}  {h : Hp} {q0 : Nat} (t0 : w_ob q0 8) {r : Hp} (hF : p_67 h q0 = some r) : k_Ev X 0 67 [.ref (q0 + 1)] h (.inl none, r) := by
  refine k_of hk_67 ?_
  show k_Go X 0 67 (0, [.ref (q0 + 1), (.retAddr 0)], []) h _
  unfold p_67 at hF
  refine kg_push (x := 0) hk_67 rfl (by decide) rfl ?_
  refine kg_istore (L2 := [.ref (q0 + 1), .int 0]) hk_67 rfl (Nat.le_of_ble_eq_true rfl) rfl rfl ?_
  exact l_67_2_ok t0 hF rfl
