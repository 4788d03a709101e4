/-! ===== the methods as functions over the flat heap, and that the interpreter does what they say (printed by wip/whole/dec.py) ===== -/
-- NotebookWeirModel.isSo(III)Z
theorem hk_210 : jP[210]? = some (jc_210, 3, [], []) := by rfl
def v_210 (x0 : Int32) (x1 : Int32) (x2 : Int32) : Int32 := (if x1 = 60 then (if x0 < x2 then 1 else 0 : Int32) else (if x1 = 62 then (if x0 ≤ x2 then 0 else 1 : Int32) else (if x0 = x2 then 1 else 0 : Int32) : Int32) : Int32)
theorem v_210_bo (x0 : Int32) (x1 : Int32) (x2 : Int32) : w_bo (v_210 x0 x1 x2) = true := by
  unfold v_210
  exact (w_boi (w_boi rfl rfl) (w_boi (w_boi rfl rfl) (w_boi rfl rfl)))
theorem v_210_ok {X : List Int32} {h : Hp} {x0 : Int32} {x1 : Int32} {x2 : Int32}  : k_Ev X 0 210 [.int x0, .int x1, .int x2] h (.inl (some (.int (v_210 x0 x1 x2))), h) := by
  refine k_of hk_210 ?_
  show k_Go X 0 210 (0, [.int x0, .int x1, .int x2], []) h _
  generalize hv : v_210 x0 x1 x2 = z
  unfold v_210 at hv
  refine kg_iload hk_210 rfl rfl rfl ?_
  refine kg_push (x := 60) hk_210 rfl (by decide) rfl ?_
  refine kv_mid (p := 26) (L := [.int x0, .int x1, .int x2]) (S := [.int (if x1 = 60 then (if x0 < x2 then 1 else 0 : Int32) else (if x1 = 62 then (if x0 ≤ x2 then 0 else 1 : Int32) else (if x0 = x2 then 1 else 0 : Int32) : Int32) : Int32)]) ?_ (fun hK => ?_)
  · exact kg_iret hk_210 rfl (Or.inr (w_boi (w_boi rfl rfl) (w_boi (w_boi rfl rfl) (w_boi rfl rfl)))) (by rw [hv])
  · by_cases cz1 : x1 = 60
    · have hK := kv_T cz1 hK
      refine kg_icF hk_210 rfl (jc_F1 cz1) rfl ?_
      refine kg_iload hk_210 rfl rfl rfl ?_
      refine kg_iload hk_210 rfl rfl rfl ?_
      by_cases cz2 : x0 < x2
      · have hK := kv_T cz2 hK
        refine kg_icF hk_210 rfl (jc_F3 cz2) rfl ?_
        refine kg_push (x := 1) hk_210 rfl (by decide) rfl ?_
        refine kg_goto hk_210 rfl ?_
        exact hK
      · have hK := kv_F cz2 hK
        refine kg_icT hk_210 rfl (jc_T3 cz2) ?_
        refine kg_push (x := 0) hk_210 rfl (by decide) rfl ?_
        refine kg_goto hk_210 rfl ?_
        exact hK
    · have hK := kv_F cz1 hK
      refine kg_icT hk_210 rfl (jc_T1 cz1) ?_
      refine kg_iload hk_210 rfl rfl rfl ?_
      refine kg_push (x := 62) hk_210 rfl (by decide) rfl ?_
      by_cases cz3 : x1 = 62
      · have hK := kv_T cz3 hK
        refine kg_icF hk_210 rfl (jc_F1 cz3) rfl ?_
        refine kg_iload hk_210 rfl rfl rfl ?_
        refine kg_iload hk_210 rfl rfl rfl ?_
        by_cases cz4 : x0 ≤ x2
        · have hK := kv_T cz4 hK
          refine kg_icT hk_210 rfl (jc_T5 cz4) ?_
          refine kg_push (x := 0) hk_210 rfl (by decide) rfl ?_
          refine kg_goto hk_210 rfl ?_
          exact hK
        · have hK := kv_F cz4 hK
          refine kg_icF hk_210 rfl (jc_F5 cz4) rfl ?_
          refine kg_push (x := 1) hk_210 rfl (by decide) rfl ?_
          refine kg_goto hk_210 rfl ?_
          exact hK
      · have hK := kv_F cz3 hK
        refine kg_icT hk_210 rfl (jc_T1 cz3) ?_
        refine kg_iload hk_210 rfl rfl rfl ?_
        refine kg_iload hk_210 rfl rfl rfl ?_
        by_cases cz5 : x0 = x2
        · have hK := kv_T cz5 hK
          refine kg_icF hk_210 rfl (jc_F1 cz5) rfl ?_
          refine kg_push (x := 1) hk_210 rfl (by decide) rfl ?_
          refine kg_goto hk_210 rfl ?_
          exact hK
        · have hK := kv_F cz5 hK
          refine kg_icT hk_210 rfl (jc_T1 cz5) ?_
          refine kg_push (x := 0) hk_210 rfl (by decide) rfl ?_
          exact hK
-- NotebookWeirModel.runsQuery([I)V
theorem hk_211 : jP[211]? = some (jc_211, 9, [], []) := by rfl
def l_211_29 (x3 : Int32) (h : Hp) : Option ((Int32 × Hp) ⊕ Int32 × Hp) :=
  w_gd (g_150 h) <|
  if (v_149 (v_150 h)) = 0 then
    (some (.inr (x3, h)))
  else
    (w_gd (w_ix (h 1076 67) 40) <|
    w_let (w_up h 1076 67 ((h 1076 67) + 1)) fun hz11 =>
    some (.inl ((((10 * x3) + (h 1127 (h 1076 67).toNatClampNeg)) - 48), hz11)))
theorem l_211_29_st {X : List Int32} {o : kO}  {h : Hp} {q1 : Nat} {x2 : Int32} {x3 : Int32} (t1 : w_tab[q1]? = some (50, (w_len q1), [])) {r : (Int32 × Hp) ⊕ Int32 × Hp} (hF : l_211_29 x3 h = some r) (hK : ∀ s' : Int32 × Hp, r = .inl s' → ∀ (u4 : Value) (u5 : Value) (u6 : Value) (u7 : Value) (u8 : Value), k_Go X 5 211 (29, [.ref (1076 + 1), .ref (q1 + 1), .int x2, .int (s'.1), u4, u5, u6, u7, u8], []) s'.2 o) (hX0 : ∀ e : Int32 × Hp, r = .inr e → ∀ (u4 : Value) (u5 : Value) (u6 : Value) (u7 : Value) (u8 : Value), k_Go X 5 211 (52, [.ref (1076 + 1), .ref (q1 + 1), .int x2, .int e.1, u4, u5, u6, u7, u8], []) e.2 o) : ∀ (u4 : Value) (u5 : Value) (u6 : Value) (u7 : Value) (u8 : Value), k_Go X 5 211 (29, [.ref (1076 + 1), .ref (q1 + 1), .int x2, .int x3, u4, u5, u6, u7, u8], []) h o := by
  intro u4 u5 u6 u7 u8
  refine kg_aload hk_211 rfl rfl rfl ?_
  refine wf_gd hF (fun gz8 hF => ?_)
  refine kg_call (as := [.ref (1076 + 1)]) (rest := []) hk_211 rfl (Or.inr (Or.inr (Or.inr ⟨Or.inl rfl, _, _, rfl, wc_1076⟩))) rfl rfl rfl (Nat.not_lt.mpr (Nat.le_of_ble_eq_true rfl)) (v_150_ok gz8) (by decide) rfl ?_
  refine kg_call (as := [.int (v_150 h)]) (rest := []) hk_211 rfl (Or.inl rfl) rfl rfl rfl (Nat.not_lt.mpr (Nat.le_of_ble_eq_true rfl)) (v_149_ok) (by decide) rfl ?_
  refine wf_if hF (fun cz9 hF => ?_) (fun cz9 hF => ?_)
  · refine kg_ifT hk_211 rfl (jc_T0 cz9) ?_
    have hF := Option.some.inj hF
    exact hX0 _ hF.symm _ _ _ _ _
  · refine kg_ifF hk_211 rfl (jc_F0 cz9) rfl ?_
    refine kg_push (x := 10) hk_211 rfl (by decide) rfl ?_
    refine kg_iload hk_211 rfl rfl rfl ?_
    refine kg_bin (z := (10 * x3)) hk_211 rfl rfl rfl ?_
    refine kg_aload hk_211 rfl rfl rfl ?_
    refine kg_get (v := .ref (1127 + 1)) hk_211 rfl wk_1076_65 rfl rfl ?_
    refine kg_aload hk_211 rfl rfl rfl ?_
    refine kg_get (v := .int (h 1076 67)) hk_211 rfl wk_1076_67 rfl rfl ?_
    refine wf_gd hF (fun gz10 hF => ?_)
    refine kg_ald (y := (h 1127 (h 1076 67).toNatClampNeg)) hk_211 rfl wc_1127 gz10 rfl rfl ?_
    refine kg_bin (z := ((10 * x3) + (h 1127 (h 1076 67).toNatClampNeg))) hk_211 rfl rfl rfl ?_
    refine kg_push (x := 48) hk_211 rfl (by decide) rfl ?_
    refine kg_bin (z := (((10 * x3) + (h 1127 (h 1076 67).toNatClampNeg)) - 48)) hk_211 rfl rfl rfl ?_
    refine kg_istore (L2 := [.ref (1076 + 1), .ref (q1 + 1), .int x2, .int (((10 * x3) + (h 1127 (h 1076 67).toNatClampNeg)) - 48), u4, u5, u6, u7, u8]) hk_211 rfl (Nat.le_of_ble_eq_true rfl) rfl rfl ?_
    refine kg_aload hk_211 rfl rfl rfl ?_
    refine kg_dup hk_211 rfl rfl rfl ?_
    refine kg_get (v := .int (h 1076 67)) hk_211 rfl wk_1076_67 rfl rfl ?_
    refine kg_push (x := 1) hk_211 rfl (by decide) rfl ?_
    refine kg_bin (z := ((h 1076 67) + 1)) hk_211 rfl rfl rfl ?_
    refine wf_let hF (fun hz11 hhz11 hF => ?_)
    refine kg_put hk_211 rfl wk_1076_67 rfl rfl hhz11 rfl ?_
    refine kg_goto hk_211 rfl ?_
    have hF := Option.some.inj hF
    exact hK _ hF.symm _ _ _ _ _
theorem l_211_29_ok {X : List Int32} {o : kO}  {q1 : Nat} {x2 : Int32} (t1 : w_tab[q1]? = some (50, (w_len q1), [])) {n : Nat} {s : Int32 × Hp} {e : Int32 × Hp} (hF : w_lp (fun (s : Int32 × Hp) => l_211_29 s.1 s.2) n s = some e) (hX0 : ∀ (u4 : Value) (u5 : Value) (u6 : Value) (u7 : Value) (u8 : Value), k_Go X 5 211 (52, [.ref (1076 + 1), .ref (q1 + 1), .int x2, .int e.1, u4, u5, u6, u7, u8], []) e.2 o) : ∀ (u4 : Value) (u5 : Value) (u6 : Value) (u7 : Value) (u8 : Value), k_Go X 5 211 (29, [.ref (1076 + 1), .ref (q1 + 1), .int x2, .int s.1, u4, u5, u6, u7, u8], []) s.2 o := by
  exact w_lp_ok (P := (fun (s : Int32 × Hp) => ∀ (u4 : Value) (u5 : Value) (u6 : Value) (u7 : Value) (u8 : Value), k_Go X 5 211 (29, [.ref (1076 + 1), .ref (q1 + 1), .int x2, .int s.1, u4, u5, u6, u7, u8], []) s.2 o)) (Q := (fun (e : Int32 × Hp) => (∀ (u4 : Value) (u5 : Value) (u6 : Value) (u7 : Value) (u8 : Value), k_Go X 5 211 (52, [.ref (1076 + 1), .ref (q1 + 1), .int x2, .int e.1, u4, u5, u6, u7, u8], []) e.2 o))) (fun s r hF hK hX => l_211_29_st t1 hF hK (fun x hx => (hX _ hx))) n s e hF hX0
def q_211_117 (h : Hp) (q1 : Nat) (x3 : Int32) (x4 : Int32) (x5 : Int32) (x6 : Int32) (x8 : Int32) (s0 : Int32) : Option ((Int32 × Int32 × Int32 × Int32 × Hp) ⊕ Int32 × Int32 × Int32 × Hp) :=
  w_gd (w_ix x8 9) <|
  w_gd (w_ix x6 400) <|
  w_let (w_up h 1130 x6.toNatClampNeg (h 1132 x8.toNatClampNeg)) fun hz27 =>
  some (.inl (x5, x6, s0, (x8 + 1), hz27))
theorem q_211_117_ok {X : List Int32} {o : kO}  {h : Hp} {q1 : Nat} {s0 : Int32} {x3 : Int32} {x4 : Int32} {x5 : Int32} {x6 : Int32} {x8 : Int32} (t1 : w_tab[q1]? = some (50, (w_len q1), [])) {r : (Int32 × Int32 × Int32 × Int32 × Hp) ⊕ Int32 × Int32 × Int32 × Hp} (hF : q_211_117 h q1 x3 x4 x5 x6 x8 s0 = some r) (hK : ∀ s' : Int32 × Int32 × Int32 × Int32 × Hp, r = .inl s' → ∀ (u2 : Value), k_Go X 5 211 (80, [.ref (1076 + 1), .ref (q1 + 1), u2, .int x3, .int x4, .int (s'.1), .int (s'.2.1), .int (s'.2.2.1), .int (s'.2.2.2.1)], []) s'.2.2.2.2 o) (hX0 : ∀ e : Int32 × Int32 × Int32 × Hp, r = .inr e → ∀ (u2 : Value) (u3 : Value) (u4 : Value) (u8 : Value), k_Go X 5 211 (128, [.ref (1076 + 1), .ref (q1 + 1), u2, u3, u4, .int e.1, .int e.2.1, .int e.2.2.1, u8], []) e.2.2.2 o) : ∀ (u2 : Value) (u7 : Value), k_Go X 5 211 (117, [.ref (1076 + 1), .ref (q1 + 1), u2, .int x3, .int x4, .int x5, .int x6, u7, .int x8], [.int s0]) h o := by
  intro u2 u7
  unfold q_211_117 at hF
  refine kg_istore (L2 := [.ref (1076 + 1), .ref (q1 + 1), u2, .int x3, .int x4, .int x5, .int x6, .int s0, .int x8]) hk_211 rfl (Nat.le_of_ble_eq_true rfl) rfl rfl ?_
  refine kg_aload hk_211 rfl rfl rfl ?_
  refine kg_get (v := .ref (1130 + 1)) hk_211 rfl wk_1076_71 rfl rfl ?_
  refine kg_iload hk_211 rfl rfl rfl ?_
  refine kg_aload hk_211 rfl rfl rfl ?_
  refine kg_get (v := .ref (1132 + 1)) hk_211 rfl wk_1076_78 rfl rfl ?_
  refine kg_iload hk_211 rfl rfl rfl ?_
  refine wf_gd hF (fun gz25 hF => ?_)
  refine kg_ald (y := (h 1132 x8.toNatClampNeg)) hk_211 rfl wc_1132 gz25 rfl rfl ?_
  refine wf_gd hF (fun gz26 hF => ?_)
  refine wf_let hF (fun hz27 hhz27 hF => ?_)
  refine kg_ast hk_211 rfl wc_1130 gz26 hhz27 rfl ?_
  refine kg_iinc (y := (x8 + 1)) (L2 := [.ref (1076 + 1), .ref (q1 + 1), u2, .int x3, .int x4, .int x5, .int x6, .int s0, .int (x8 + 1)]) hk_211 rfl rfl rfl rfl rfl ?_
  refine kg_goto hk_211 rfl ?_
  have hF := Option.some.inj hF
  exact hK _ hF.symm _
def l_211_80 (q1 : Nat) (x3 : Int32) (x4 : Int32) (x5 : Int32) (x6 : Int32) (x7 : Int32) (x8 : Int32) (h : Hp) : Option ((Int32 × Int32 × Int32 × Int32 × Hp) ⊕ Int32 × Int32 × Int32 × Hp) :=
  if x8 ≤ x4 then
    (w_gd (w_ix x8 9) <|
    if (v_210 (h 1132 x8.toNatClampNeg) (h 1127 3) x3) = 0 then
      (some (.inl (x5, x6, x7, (x8 + 1), h)))
    else
      (w_gd (w_ix x8 9) <|
      w_gd ((if (x6 + 1) = 1 then w_ix x8 9 else (w_ix x8 9) && ((if (h 1132 x8.toNatClampNeg) ≤ x7 then true else w_ix x8 9)))) <|
      q_211_117 h q1 x3 x4 (x5 + (h 1132 x8.toNatClampNeg)) (x6 + 1) x8 (if (x6 + 1) = 1 then (h 1132 x8.toNatClampNeg) else (if (h 1132 x8.toNatClampNeg) ≤ x7 then x7 else (h 1132 x8.toNatClampNeg) : Int32) : Int32)))
  else
    (some (.inr (x5, x6, x7, h)))
theorem l_211_80_st {X : List Int32} {o : kO}  {h : Hp} {q1 : Nat} {x3 : Int32} {x4 : Int32} {x5 : Int32} {x6 : Int32} {x7 : Int32} {x8 : Int32} (t1 : w_tab[q1]? = some (50, (w_len q1), [])) {r : (Int32 × Int32 × Int32 × Int32 × Hp) ⊕ Int32 × Int32 × Int32 × Hp} (hF : l_211_80 q1 x3 x4 x5 x6 x7 x8 h = some r) (hK : ∀ s' : Int32 × Int32 × Int32 × Int32 × Hp, r = .inl s' → ∀ (u2 : Value), k_Go X 5 211 (80, [.ref (1076 + 1), .ref (q1 + 1), u2, .int x3, .int x4, .int (s'.1), .int (s'.2.1), .int (s'.2.2.1), .int (s'.2.2.2.1)], []) s'.2.2.2.2 o) (hX0 : ∀ e : Int32 × Int32 × Int32 × Hp, r = .inr e → ∀ (u2 : Value) (u3 : Value) (u4 : Value) (u8 : Value), k_Go X 5 211 (128, [.ref (1076 + 1), .ref (q1 + 1), u2, u3, u4, .int e.1, .int e.2.1, .int e.2.2.1, u8], []) e.2.2.2 o) : ∀ (u2 : Value), k_Go X 5 211 (80, [.ref (1076 + 1), .ref (q1 + 1), u2, .int x3, .int x4, .int x5, .int x6, .int x7, .int x8], []) h o := by
  intro u2
  refine kg_iload hk_211 rfl rfl rfl ?_
  refine kg_iload hk_211 rfl rfl rfl ?_
  refine wf_if hF (fun cz15 hF => ?_) (fun cz15 hF => ?_)
  · refine kg_icF hk_211 rfl (jc_F4 cz15) rfl ?_
    refine kg_aload hk_211 rfl rfl rfl ?_
    refine kg_get (v := .ref (1132 + 1)) hk_211 rfl wk_1076_78 rfl rfl ?_
    refine kg_iload hk_211 rfl rfl rfl ?_
    refine wf_gd hF (fun gz16 hF => ?_)
    refine kg_ald (y := (h 1132 x8.toNatClampNeg)) hk_211 rfl wc_1132 gz16 rfl rfl ?_
    refine kg_aload hk_211 rfl rfl rfl ?_
    refine kg_get (v := .ref (1127 + 1)) hk_211 rfl wk_1076_65 rfl rfl ?_
    refine kg_push (x := 3) hk_211 rfl (by decide) rfl ?_
    refine kg_ald (y := (h 1127 3)) hk_211 rfl wc_1127 (by decide) rfl rfl ?_
    refine kg_iload hk_211 rfl rfl rfl ?_
    refine kg_call (as := [.int (h 1132 x8.toNatClampNeg), .int (h 1127 3), .int x3]) (rest := []) hk_211 rfl (Or.inl rfl) rfl rfl rfl (Nat.not_lt.mpr (Nat.le_of_ble_eq_true rfl)) (v_210_ok) (by decide) rfl ?_
    refine wf_if hF (fun cz17 hF => ?_) (fun cz17 hF => ?_)
    · refine kg_ifT hk_211 rfl (jc_T0 cz17) ?_
      refine kg_iinc (y := (x8 + 1)) (L2 := [.ref (1076 + 1), .ref (q1 + 1), u2, .int x3, .int x4, .int x5, .int x6, .int x7, .int (x8 + 1)]) hk_211 rfl rfl rfl rfl rfl ?_
      refine kg_goto hk_211 rfl ?_
      have hF := Option.some.inj hF
      exact hK _ hF.symm _
    · refine kg_ifF hk_211 rfl (jc_F0 cz17) rfl ?_
      refine kg_iinc (y := (x6 + 1)) (L2 := [.ref (1076 + 1), .ref (q1 + 1), u2, .int x3, .int x4, .int x5, .int (x6 + 1), .int x7, .int x8]) hk_211 rfl rfl rfl rfl rfl ?_
      refine kg_iload hk_211 rfl rfl rfl ?_
      refine kg_aload hk_211 rfl rfl rfl ?_
      refine kg_get (v := .ref (1132 + 1)) hk_211 rfl wk_1076_78 rfl rfl ?_
      refine kg_iload hk_211 rfl rfl rfl ?_
      refine wf_gd hF (fun gz18 hF => ?_)
      refine kg_ald (y := (h 1132 x8.toNatClampNeg)) hk_211 rfl wc_1132 gz18 rfl rfl ?_
      refine kg_bin (z := (x5 + (h 1132 x8.toNatClampNeg))) hk_211 rfl rfl rfl ?_
      refine kg_istore (L2 := [.ref (1076 + 1), .ref (q1 + 1), u2, .int x3, .int x4, .int (x5 + (h 1132 x8.toNatClampNeg)), .int (x6 + 1), .int x7, .int x8]) hk_211 rfl (Nat.le_of_ble_eq_true rfl) rfl rfl ?_
      refine kg_iload hk_211 rfl rfl rfl ?_
      refine kg_push (x := 1) hk_211 rfl (by decide) rfl ?_
      refine wf_gd hF (fun gz24 hF => ?_)
      refine kv_mid (p := 117) (L := [.ref (1076 + 1), .ref (q1 + 1), u2, .int x3, .int x4, .int (x5 + (h 1132 x8.toNatClampNeg)), .int (x6 + 1), .int x7, .int x8]) (S := [.int (if (x6 + 1) = 1 then (h 1132 x8.toNatClampNeg) else (if (h 1132 x8.toNatClampNeg) ≤ x7 then x7 else (h 1132 x8.toNatClampNeg) : Int32) : Int32)]) ?_ (fun hK => ?_)
      · exact q_211_117_ok t1 hF hK hX0 _ _
      · have hg := gz24
        by_cases cz19 : (x6 + 1) = 1
        · have hg := wv_T cz19 hg
          have hK := kv_T cz19 hK
          have gz20 := hg
          refine kg_icT hk_211 rfl (jc_T0 cz19) ?_
          refine kg_aload hk_211 rfl rfl rfl ?_
          refine kg_get (v := .ref (1132 + 1)) hk_211 rfl wk_1076_78 rfl rfl ?_
          refine kg_iload hk_211 rfl rfl rfl ?_
          refine kg_ald (y := (h 1132 x8.toNatClampNeg)) hk_211 rfl wc_1132 gz20 rfl rfl ?_
          refine kg_goto hk_211 rfl ?_
          exact hK
        · have hg := wv_F cz19 hg
          have hK := kv_F cz19 hK
          have gz21 := wb_1 hg
          have hg := wb_2 hg
          refine kg_icF hk_211 rfl (jc_F0 cz19) rfl ?_
          refine kg_aload hk_211 rfl rfl rfl ?_
          refine kg_get (v := .ref (1132 + 1)) hk_211 rfl wk_1076_78 rfl rfl ?_
          refine kg_iload hk_211 rfl rfl rfl ?_
          refine kg_ald (y := (h 1132 x8.toNatClampNeg)) hk_211 rfl wc_1132 gz21 rfl rfl ?_
          refine kg_iload hk_211 rfl rfl rfl ?_
          by_cases cz22 : (h 1132 x8.toNatClampNeg) ≤ x7
          · have hK := kv_T cz22 hK
            refine kg_icT hk_211 rfl (jc_T5 cz22) ?_
            refine kg_iload hk_211 rfl rfl rfl ?_
            exact hK
          · have hg := wv_F cz22 hg
            have hK := kv_F cz22 hK
            have gz23 := hg
            refine kg_icF hk_211 rfl (jc_F5 cz22) rfl ?_
            refine kg_aload hk_211 rfl rfl rfl ?_
            refine kg_get (v := .ref (1132 + 1)) hk_211 rfl wk_1076_78 rfl rfl ?_
            refine kg_iload hk_211 rfl rfl rfl ?_
            refine kg_ald (y := (h 1132 x8.toNatClampNeg)) hk_211 rfl wc_1132 gz23 rfl rfl ?_
            refine kg_goto hk_211 rfl ?_
            exact hK
  · refine kg_icT hk_211 rfl (jc_T4 cz15) ?_
    have hF := Option.some.inj hF
    exact hX0 _ hF.symm _ _ _ _
theorem l_211_80_ok {X : List Int32} {o : kO}  {q1 : Nat} {x3 : Int32} {x4 : Int32} (t1 : w_tab[q1]? = some (50, (w_len q1), [])) {n : Nat} {s : Int32 × Int32 × Int32 × Int32 × Hp} {e : Int32 × Int32 × Int32 × Hp} (hF : w_lp (fun (s : Int32 × Int32 × Int32 × Int32 × Hp) => l_211_80 q1 x3 x4 s.1 s.2.1 s.2.2.1 s.2.2.2.1 s.2.2.2.2) n s = some e) (hX0 : ∀ (u2 : Value) (u3 : Value) (u4 : Value) (u8 : Value), k_Go X 5 211 (128, [.ref (1076 + 1), .ref (q1 + 1), u2, u3, u4, .int e.1, .int e.2.1, .int e.2.2.1, u8], []) e.2.2.2 o) : ∀ (u2 : Value), k_Go X 5 211 (80, [.ref (1076 + 1), .ref (q1 + 1), u2, .int x3, .int x4, .int s.1, .int s.2.1, .int s.2.2.1, .int s.2.2.2.1], []) s.2.2.2.2 o := by
  exact w_lp_ok (P := (fun (s : Int32 × Int32 × Int32 × Int32 × Hp) => ∀ (u2 : Value), k_Go X 5 211 (80, [.ref (1076 + 1), .ref (q1 + 1), u2, .int x3, .int x4, .int s.1, .int s.2.1, .int s.2.2.1, .int s.2.2.2.1], []) s.2.2.2.2 o)) (Q := (fun (e : Int32 × Int32 × Int32 × Hp) => (∀ (u2 : Value) (u3 : Value) (u4 : Value) (u8 : Value), k_Go X 5 211 (128, [.ref (1076 + 1), .ref (q1 + 1), u2, u3, u4, .int e.1, .int e.2.1, .int e.2.2.1, u8], []) e.2.2.2 o))) (fun s r hF hK hX => l_211_80_st t1 hF hK (fun x hx => (hX _ hx))) n s e hF hX0
def q_211_164 (h : Hp) (q1 : Nat) (s0 : Int32) (s1 : Int32) : Option (Hp) :=
  w_gd (w_ix s1 400) <|
  w_let (w_up h 1130 s1.toNatClampNeg s0) fun hz41 =>
  (p_193 hz41 1130 0 1131 (9 * ((hz41 1127 0) - 97))).bind fun vz42 =>
  (p_193 vz42 1130 0 q1 (9 * (vz42 1076 77))).bind fun vz43 =>
  some vz43
theorem q_211_164_ok {X : List Int32}   {h : Hp} {q1 : Nat} {s0 : Int32} {s1 : Int32} (t1 : w_tab[q1]? = some (50, (w_len q1), [])) {r : Hp} (hF : q_211_164 h q1 s0 s1 = some r)  : ∀ (u2 : Value) (u3 : Value) (u4 : Value) (u5 : Value) (u6 : Value) (u7 : Value) (u8 : Value), k_Go X 5 211 (164, [.ref (1076 + 1), .ref (q1 + 1), u2, u3, u4, u5, u6, u7, u8], [.int s0, .int s1, .ref (1130 + 1)]) h (.inl none, r) := by
  intro u2 u3 u4 u5 u6 u7 u8
  unfold q_211_164 at hF
  refine wf_gd hF (fun gz40 hF => ?_)
  refine wf_let hF (fun hz41 hhz41 hF => ?_)
  refine kg_ast hk_211 rfl wc_1130 gz40 hhz41 rfl ?_
  refine kg_aload hk_211 rfl rfl rfl ?_
  refine kg_aload hk_211 rfl rfl rfl ?_
  refine kg_get (v := .ref (1130 + 1)) hk_211 rfl wk_1076_71 rfl rfl ?_
  refine kg_push (x := 0) hk_211 rfl (by decide) rfl ?_
  refine kg_aload hk_211 rfl rfl rfl ?_
  refine kg_get (v := .ref (1131 + 1)) hk_211 rfl wk_1076_73 rfl rfl ?_
  refine kg_push (x := 9) hk_211 rfl (by decide) rfl ?_
  refine kg_aload hk_211 rfl rfl rfl ?_
  refine kg_get (v := .ref (1127 + 1)) hk_211 rfl wk_1076_65 rfl rfl ?_
  refine kg_push (x := 0) hk_211 rfl (by decide) rfl ?_
  refine kg_ald (y := (hz41 1127 0)) hk_211 rfl wc_1127 (by decide) rfl rfl ?_
  refine kg_push (x := 97) hk_211 rfl (by decide) rfl ?_
  refine kg_bin (z := ((hz41 1127 0) - 97)) hk_211 rfl rfl rfl ?_
  refine kg_bin (z := (9 * ((hz41 1127 0) - 97))) hk_211 rfl rfl rfl ?_
  refine wf_bind hF (fun vz42 hvz42 hF => ?_)
  refine kg_call (as := [.ref (1076 + 1), .ref (1130 + 1), .int 0, .ref (1131 + 1), .int (9 * ((hz41 1127 0) - 97))]) (rest := []) hk_211 rfl (Or.inr (Or.inr (Or.inr ⟨Or.inl rfl, _, _, rfl, wc_1076⟩))) rfl rfl rfl (Nat.not_lt.mpr (Nat.le_of_ble_eq_true rfl)) (p_193_ok (w_lenE wc_1130) (w_lenE wc_1131) hvz42) (by decide) rfl ?_
  refine kg_aload hk_211 rfl rfl rfl ?_
  refine kg_aload hk_211 rfl rfl rfl ?_
  refine kg_get (v := .ref (1130 + 1)) hk_211 rfl wk_1076_71 rfl rfl ?_
  refine kg_push (x := 0) hk_211 rfl (by decide) rfl ?_
  refine kg_aload hk_211 rfl rfl rfl ?_
  refine kg_push (x := 9) hk_211 rfl (by decide) rfl ?_
  refine kg_aload hk_211 rfl rfl rfl ?_
  refine kg_get (v := .int (vz42 1076 77)) hk_211 rfl wk_1076_77 rfl rfl ?_
  refine kg_bin (z := (9 * (vz42 1076 77))) hk_211 rfl rfl rfl ?_
  refine wf_bind hF (fun vz43 hvz43 hF => ?_)
  refine kg_call (as := [.ref (1076 + 1), .ref (1130 + 1), .int 0, .ref (q1 + 1), .int (9 * (vz42 1076 77))]) (rest := []) hk_211 rfl (Or.inr (Or.inr (Or.inr ⟨Or.inl rfl, _, _, rfl, wc_1076⟩))) rfl rfl rfl (Nat.not_lt.mpr (Nat.le_of_ble_eq_true rfl)) (p_193_ok (w_lenE wc_1130) (w_lenE t1) hvz43) (by decide) rfl ?_
  have hF := Option.some.inj hF
  subst hF
  exact kg_ret hk_211 rfl rfl
def q_211_138 (h : Hp) (q1 : Nat) (x5 : Int32) (x6 : Int32) (x7 : Int32) (s0 : Int32) (s1 : Int32) : Option (Hp) :=
  w_gd (w_ix s1 400) <|
  w_let (w_up h 1130 s1.toNatClampNeg s0) fun hz32 =>
  w_gd (g_150 hz32) <|
  w_gd ((if (v_150 hz32) = 115 then true else (g_150 hz32) && ((if (v_150 hz32) = 99 then true else g_150 hz32)))) <|
  q_211_164 hz32 q1 (if (v_150 hz32) = 115 then x5 else (if (v_150 hz32) = 99 then x6 else (if (v_150 hz32) = 109 then x7 else (hz32 1130 1) : Int32) : Int32) : Int32) 1
theorem q_211_138_ok {X : List Int32}   {h : Hp} {q1 : Nat} {s0 : Int32} {s1 : Int32} {x5 : Int32} {x6 : Int32} {x7 : Int32} (t1 : w_tab[q1]? = some (50, (w_len q1), [])) {r : Hp} (hF : q_211_138 h q1 x5 x6 x7 s0 s1 = some r)  : ∀ (u2 : Value) (u3 : Value) (u4 : Value) (u8 : Value), k_Go X 5 211 (138, [.ref (1076 + 1), .ref (q1 + 1), u2, u3, u4, .int x5, .int x6, .int x7, u8], [.int s0, .int s1, .ref (1130 + 1)]) h (.inl none, r) := by
  intro u2 u3 u4 u8
  unfold q_211_138 at hF
  refine wf_gd hF (fun gz31 hF => ?_)
  refine wf_let hF (fun hz32 hhz32 hF => ?_)
  refine kg_ast hk_211 rfl wc_1130 gz31 hhz32 rfl ?_
  refine kg_aload hk_211 rfl rfl rfl ?_
  refine kg_get (v := .ref (1130 + 1)) hk_211 rfl wk_1076_71 rfl rfl ?_
  refine kg_push (x := 1) hk_211 rfl (by decide) rfl ?_
  refine kg_aload hk_211 rfl rfl rfl ?_
  refine wf_gd hF (fun gz33 hF => ?_)
  refine kg_call (as := [.ref (1076 + 1)]) (rest := [.int 1, .ref (1130 + 1)]) hk_211 rfl (Or.inr (Or.inr (Or.inr ⟨Or.inl rfl, _, _, rfl, wc_1076⟩))) rfl rfl rfl (Nat.not_lt.mpr (Nat.le_of_ble_eq_true rfl)) (v_150_ok gz33) (by decide) rfl ?_
  refine kg_push (x := 115) hk_211 rfl (by decide) rfl ?_
  refine wf_gd hF (fun gz39 hF => ?_)
  refine kv_mid (p := 164) (L := [.ref (1076 + 1), .ref (q1 + 1), u2, u3, u4, .int x5, .int x6, .int x7, u8]) (S := [.int (if (v_150 hz32) = 115 then x5 else (if (v_150 hz32) = 99 then x6 else (if (v_150 hz32) = 109 then x7 else (hz32 1130 1) : Int32) : Int32) : Int32), .int 1, .ref (1130 + 1)]) ?_ (fun hK => ?_)
  · exact q_211_164_ok t1 hF _ _ _ _ _ _ _
  · have hg := gz39
    by_cases cz34 : (v_150 hz32) = 115
    · have hK := kv_T cz34 hK
      refine kg_icF hk_211 rfl (jc_F1 cz34) rfl ?_
      refine kg_iload hk_211 rfl rfl rfl ?_
      refine kg_goto hk_211 rfl ?_
      exact hK
    · have hg := wv_F cz34 hg
      have hK := kv_F cz34 hK
      have gz35 := wb_1 hg
      have hg := wb_2 hg
      refine kg_icT hk_211 rfl (jc_T1 cz34) ?_
      refine kg_aload hk_211 rfl rfl rfl ?_
      refine kg_call (as := [.ref (1076 + 1)]) (rest := [.int 1, .ref (1130 + 1)]) hk_211 rfl (Or.inr (Or.inr (Or.inr ⟨Or.inl rfl, _, _, rfl, wc_1076⟩))) rfl rfl rfl (Nat.not_lt.mpr (Nat.le_of_ble_eq_true rfl)) (v_150_ok gz35) (by decide) rfl ?_
      refine kg_push (x := 99) hk_211 rfl (by decide) rfl ?_
      by_cases cz36 : (v_150 hz32) = 99
      · have hK := kv_T cz36 hK
        refine kg_icF hk_211 rfl (jc_F1 cz36) rfl ?_
        refine kg_iload hk_211 rfl rfl rfl ?_
        refine kg_goto hk_211 rfl ?_
        exact hK
      · have hg := wv_F cz36 hg
        have hK := kv_F cz36 hK
        have gz37 := hg
        refine kg_icT hk_211 rfl (jc_T1 cz36) ?_
        refine kg_aload hk_211 rfl rfl rfl ?_
        refine kg_call (as := [.ref (1076 + 1)]) (rest := [.int 1, .ref (1130 + 1)]) hk_211 rfl (Or.inr (Or.inr (Or.inr ⟨Or.inl rfl, _, _, rfl, wc_1076⟩))) rfl rfl rfl (Nat.not_lt.mpr (Nat.le_of_ble_eq_true rfl)) (v_150_ok gz37) (by decide) rfl ?_
        refine kg_push (x := 109) hk_211 rfl (by decide) rfl ?_
        by_cases cz38 : (v_150 hz32) = 109
        · have hK := kv_T cz38 hK
          refine kg_icF hk_211 rfl (jc_F1 cz38) rfl ?_
          refine kg_iload hk_211 rfl rfl rfl ?_
          refine kg_goto hk_211 rfl ?_
          exact hK
        · have hK := kv_F cz38 hK
          refine kg_icT hk_211 rfl (jc_T1 cz38) ?_
          refine kg_aload hk_211 rfl rfl rfl ?_
          refine kg_get (v := .ref (1130 + 1)) hk_211 rfl wk_1076_71 rfl rfl ?_
          refine kg_push (x := 1) hk_211 rfl (by decide) rfl ?_
          refine kg_ald (y := (hz32 1130 1)) hk_211 rfl wc_1130 (by decide) rfl rfl ?_
          exact hK
def q_211_71 (h : Hp) (q1 : Nat) (x3 : Int32) (s0 : Int32) : Option (Hp) :=
  (w_lp (fun (s : Int32 × Int32 × Int32 × Int32 × Hp) => l_211_80 q1 x3 s0 s.1 s.2.1 s.2.2.1 s.2.2.2.1 s.2.2.2.2) w_N (0, 0, 0, 1, h)).bind fun ez28 =>
  w_gd (g_150 ez28.2.2.2) <|
  q_211_138 ez28.2.2.2 q1 ez28.1 ez28.2.1 ez28.2.2.1 (if (v_150 ez28.2.2.2) = 108 then ez28.2.1 else (-1) : Int32) 0
theorem q_211_71_ok {X : List Int32}   {h : Hp} {q1 : Nat} {s0 : Int32} {x3 : Int32} (t1 : w_tab[q1]? = some (50, (w_len q1), [])) {r : Hp} (hF : q_211_71 h q1 x3 s0 = some r)  : ∀ (u2 : Value) (u4 : Value) (u5 : Value) (u6 : Value) (u7 : Value) (u8 : Value), k_Go X 5 211 (71, [.ref (1076 + 1), .ref (q1 + 1), u2, .int x3, u4, u5, u6, u7, u8], [.int s0]) h (.inl none, r) := by
  intro u2 u4 u5 u6 u7 u8
  unfold q_211_71 at hF
  refine kg_istore (L2 := [.ref (1076 + 1), .ref (q1 + 1), u2, .int x3, .int s0, u5, u6, u7, u8]) hk_211 rfl (Nat.le_of_ble_eq_true rfl) rfl rfl ?_
  refine kg_push (x := 0) hk_211 rfl (by decide) rfl ?_
  refine kg_istore (L2 := [.ref (1076 + 1), .ref (q1 + 1), u2, .int x3, .int s0, .int 0, u6, u7, u8]) hk_211 rfl (Nat.le_of_ble_eq_true rfl) rfl rfl ?_
  refine kg_push (x := 0) hk_211 rfl (by decide) rfl ?_
  refine kg_istore (L2 := [.ref (1076 + 1), .ref (q1 + 1), u2, .int x3, .int s0, .int 0, .int 0, u7, u8]) hk_211 rfl (Nat.le_of_ble_eq_true rfl) rfl rfl ?_
  refine kg_push (x := 0) hk_211 rfl (by decide) rfl ?_
  refine kg_istore (L2 := [.ref (1076 + 1), .ref (q1 + 1), u2, .int x3, .int s0, .int 0, .int 0, .int 0, u8]) hk_211 rfl (Nat.le_of_ble_eq_true rfl) rfl rfl ?_
  refine kg_push (x := 1) hk_211 rfl (by decide) rfl ?_
  refine kg_istore (L2 := [.ref (1076 + 1), .ref (q1 + 1), u2, .int x3, .int s0, .int 0, .int 0, .int 0, .int 1]) hk_211 rfl (Nat.le_of_ble_eq_true rfl) rfl rfl ?_
  refine wf_bind hF (fun ez28 hez28 hF => ?_)
  refine l_211_80_ok t1 hez28 ?_ _
  intro u2 u3 u4 u8
  refine kg_aload hk_211 rfl rfl rfl ?_
  refine kg_get (v := .ref (1130 + 1)) hk_211 rfl wk_1076_71 rfl rfl ?_
  refine kg_push (x := 0) hk_211 rfl (by decide) rfl ?_
  refine kg_aload hk_211 rfl rfl rfl ?_
  refine wf_gd hF (fun gz29 hF => ?_)
  refine kg_call (as := [.ref (1076 + 1)]) (rest := [.int 0, .ref (1130 + 1)]) hk_211 rfl (Or.inr (Or.inr (Or.inr ⟨Or.inl rfl, _, _, rfl, wc_1076⟩))) rfl rfl rfl (Nat.not_lt.mpr (Nat.le_of_ble_eq_true rfl)) (v_150_ok gz29) (by decide) rfl ?_
  refine kg_push (x := 108) hk_211 rfl (by decide) rfl ?_
  refine kv_mid (p := 138) (L := [.ref (1076 + 1), .ref (q1 + 1), u2, u3, u4, .int ez28.1, .int ez28.2.1, .int ez28.2.2.1, u8]) (S := [.int (if (v_150 ez28.2.2.2) = 108 then ez28.2.1 else (-1) : Int32), .int 0, .ref (1130 + 1)]) ?_ (fun hK => ?_)
  · exact q_211_138_ok t1 hF _ _ _ _
  · by_cases cz30 : (v_150 ez28.2.2.2) = 108
    · have hK := kv_T cz30 hK
      refine kg_icF hk_211 rfl (jc_F1 cz30) rfl ?_
      refine kg_iload hk_211 rfl rfl rfl ?_
      refine kg_goto hk_211 rfl ?_
      exact hK
    · have hK := kv_F cz30 hK
      refine kg_icT hk_211 rfl (jc_T1 cz30) ?_
      refine kg_push (x := (-1)) hk_211 rfl (by decide) rfl ?_
      exact hK
def q_211_58 (h : Hp) (q1 : Nat) (s0 : Int32) : Option (Hp) :=
  q_211_71 h q1 s0 (if (h 1132 0) = (-1) then 1 else (h 1132 0) : Int32)
theorem q_211_58_ok {X : List Int32}   {h : Hp} {q1 : Nat} {s0 : Int32} (t1 : w_tab[q1]? = some (50, (w_len q1), [])) {r : Hp} (hF : q_211_58 h q1 s0 = some r)  : ∀ (u2 : Value) (u3 : Value) (u4 : Value) (u5 : Value) (u6 : Value) (u7 : Value) (u8 : Value), k_Go X 5 211 (58, [.ref (1076 + 1), .ref (q1 + 1), u2, u3, u4, u5, u6, u7, u8], [.int s0]) h (.inl none, r) := by
  intro u2 u3 u4 u5 u6 u7 u8
  unfold q_211_58 at hF
  refine kg_istore (L2 := [.ref (1076 + 1), .ref (q1 + 1), u2, .int s0, u4, u5, u6, u7, u8]) hk_211 rfl (Nat.le_of_ble_eq_true rfl) rfl rfl ?_
  refine kg_aload hk_211 rfl rfl rfl ?_
  refine kg_get (v := .ref (1132 + 1)) hk_211 rfl wk_1076_78 rfl rfl ?_
  refine kg_push (x := 0) hk_211 rfl (by decide) rfl ?_
  refine kg_ald (y := (h 1132 0)) hk_211 rfl wc_1132 (by decide) rfl rfl ?_
  refine kg_push (x := (-1)) hk_211 rfl (by decide) rfl ?_
  refine kv_mid (p := 71) (L := [.ref (1076 + 1), .ref (q1 + 1), u2, .int s0, u4, u5, u6, u7, u8]) (S := [.int (if (h 1132 0) = (-1) then 1 else (h 1132 0) : Int32)]) ?_ (fun hK => ?_)
  · exact q_211_71_ok t1 hF _ _ _ _ _ _
  · by_cases cz14 : (h 1132 0) = (-1)
    · have hK := kv_T cz14 hK
      refine kg_icF hk_211 rfl (jc_F1 cz14) rfl ?_
      refine kg_push (x := 1) hk_211 rfl (by decide) rfl ?_
      refine kg_goto hk_211 rfl ?_
      exact hK
    · have hK := kv_F cz14 hK
      refine kg_icT hk_211 rfl (jc_T1 cz14) ?_
      refine kg_aload hk_211 rfl rfl rfl ?_
      refine kg_get (v := .ref (1132 + 1)) hk_211 rfl wk_1076_78 rfl rfl ?_
      refine kg_push (x := 0) hk_211 rfl (by decide) rfl ?_
      refine kg_ald (y := (h 1132 0)) hk_211 rfl wc_1132 (by decide) rfl rfl ?_
      exact hK
def q_211_25 (h : Hp) (q1 : Nat) (s0 : Int32) : Option (Hp) :=
  (p_155 h s0).bind fun vz7 =>
  (w_lp (fun (s : Int32 × Hp) => l_211_29 s.1 s.2) w_N (0, vz7.2)).bind fun ez12 =>
  q_211_58 ez12.2 q1 (if vz7.1 = 0 then ez12.1 else (-ez12.1) : Int32)
theorem q_211_25_ok {X : List Int32}   {h : Hp} {q1 : Nat} {s0 : Int32} (t1 : w_tab[q1]? = some (50, (w_len q1), [])) {r : Hp} (hF : q_211_25 h q1 s0 = some r)  : ∀ (u2 : Value) (u3 : Value) (u4 : Value) (u5 : Value) (u6 : Value) (u7 : Value) (u8 : Value), k_Go X 5 211 (25, [.ref (1076 + 1), .ref (q1 + 1), u2, u3, u4, u5, u6, u7, u8], [.int s0, .ref (1076 + 1)]) h (.inl none, r) := by
  intro u2 u3 u4 u5 u6 u7 u8
  unfold q_211_25 at hF
  refine wf_bind hF (fun vz7 hvz7 hF => ?_)
  refine kg_call (as := [.ref (1076 + 1), .int s0]) (rest := []) hk_211 rfl (Or.inr (Or.inr (Or.inr ⟨Or.inl rfl, _, _, rfl, wc_1076⟩))) rfl rfl rfl (Nat.not_lt.mpr (Nat.le_of_ble_eq_true rfl)) (p_155_ok hvz7) (by decide) rfl ?_
  refine kg_istore (L2 := [.ref (1076 + 1), .ref (q1 + 1), .int vz7.1, u3, u4, u5, u6, u7, u8]) hk_211 rfl (Nat.le_of_ble_eq_true rfl) rfl rfl ?_
  refine kg_push (x := 0) hk_211 rfl (by decide) rfl ?_
  refine kg_istore (L2 := [.ref (1076 + 1), .ref (q1 + 1), .int vz7.1, .int 0, u4, u5, u6, u7, u8]) hk_211 rfl (Nat.le_of_ble_eq_true rfl) rfl rfl ?_
  refine wf_bind hF (fun ez12 hez12 hF => ?_)
  refine l_211_29_ok t1 hez12 ?_ _ _ _ _ _
  intro u4 u5 u6 u7 u8
  refine kg_iload hk_211 rfl rfl rfl ?_
  refine kv_mid (p := 58) (L := [.ref (1076 + 1), .ref (q1 + 1), .int vz7.1, .int ez12.1, u4, u5, u6, u7, u8]) (S := [.int (if vz7.1 = 0 then ez12.1 else (-ez12.1) : Int32)]) ?_ (fun hK => ?_)
  · exact q_211_58_ok t1 hF _ _ _ _ _ _ _
  · by_cases cz13 : vz7.1 = 0
    · have hK := kv_T cz13 hK
      refine kg_ifT hk_211 rfl (jc_T0 cz13) ?_
      refine kg_iload hk_211 rfl rfl rfl ?_
      exact hK
    · have hK := kv_F cz13 hK
      refine kg_ifF hk_211 rfl (jc_F0 cz13) rfl ?_
      refine kg_iload hk_211 rfl rfl rfl ?_
      refine kg_un (z := (-ez12.1)) hk_211 rfl rfl rfl ?_
      refine kg_goto hk_211 rfl ?_
      exact hK
def p_211 (h : Hp) (q1 : Nat) : Option (Hp) :=
  (p_194 h (h 1076 77) (h 1127 2)).bind fun vz1 =>
  if vz1.1 = 0 then
    ((p_195 vz1.2 1 0).bind fun vz3 =>
    some vz3)
  else
    (w_let (w_up vz1.2 1076 67 4) fun hz4 =>
    w_gd (g_150 hz4) <|
    q_211_25 hz4 q1 (if (v_150 hz4) = 45 then 1 else 0 : Int32))
theorem p_211_ok {X : List Int32}  {h : Hp} {q1 : Nat} (t1 : w_tab[q1]? = some (50, w_len q1, [])) {r : Hp} (hF : p_211 h q1 = some r) : k_Ev X 5 211 [.ref (1076 + 1), .ref (q1 + 1)] h (.inl none, r) := by
  refine k_of hk_211 ?_
  show k_Go X 5 211 (0, [.ref (1076 + 1), .ref (q1 + 1), (.retAddr 0), (.retAddr 0), (.retAddr 0), (.retAddr 0), (.retAddr 0), (.retAddr 0), (.retAddr 0)], []) h _
  unfold p_211 at hF
  refine kg_aload hk_211 rfl rfl rfl ?_
  refine kg_aload hk_211 rfl rfl rfl ?_
  refine kg_get (v := .int (h 1076 77)) hk_211 rfl wk_1076_77 rfl rfl ?_
  refine kg_aload hk_211 rfl rfl rfl ?_
  refine kg_get (v := .ref (1127 + 1)) hk_211 rfl wk_1076_65 rfl rfl ?_
  refine kg_push (x := 2) hk_211 rfl (by decide) rfl ?_
  refine kg_ald (y := (h 1127 2)) hk_211 rfl wc_1127 (by decide) rfl rfl ?_
  refine wf_bind hF (fun vz1 hvz1 hF => ?_)
  refine kg_call (as := [.ref (1076 + 1), .int (h 1076 77), .int (h 1127 2)]) (rest := []) hk_211 rfl (Or.inr (Or.inr (Or.inr ⟨Or.inl rfl, _, _, rfl, wc_1076⟩))) rfl rfl rfl (Nat.not_lt.mpr (Nat.le_of_ble_eq_true rfl)) (p_194_ok hvz1) (by decide) rfl ?_
  refine wf_if hF (fun cz2 hF => ?_) (fun cz2 hF => ?_)
  · refine kg_ifF hk_211 rfl (jc_F1 cz2) rfl ?_
    refine kg_aload hk_211 rfl rfl rfl ?_
    refine kg_push (x := 1) hk_211 rfl (by decide) rfl ?_
    refine kg_push (x := 0) hk_211 rfl (by decide) rfl ?_
    refine wf_bind hF (fun vz3 hvz3 hF => ?_)
    refine kg_call (as := [.ref (1076 + 1), .int 1, .int 0]) (rest := []) hk_211 rfl (Or.inr (Or.inr (Or.inr ⟨Or.inl rfl, _, _, rfl, wc_1076⟩))) rfl rfl rfl (Nat.not_lt.mpr (Nat.le_of_ble_eq_true rfl)) (p_195_ok hvz3) (by decide) rfl ?_
    have hF := Option.some.inj hF
    subst hF
    exact kg_ret hk_211 rfl rfl
  · refine kg_ifT hk_211 rfl (jc_T1 cz2) ?_
    refine kg_aload hk_211 rfl rfl rfl ?_
    refine kg_push (x := 4) hk_211 rfl (by decide) rfl ?_
    refine wf_let hF (fun hz4 hhz4 hF => ?_)
    refine kg_put hk_211 rfl wk_1076_67 rfl rfl hhz4 rfl ?_
    refine kg_aload hk_211 rfl rfl rfl ?_
    refine kg_aload hk_211 rfl rfl rfl ?_
    refine wf_gd hF (fun gz5 hF => ?_)
    refine kg_call (as := [.ref (1076 + 1)]) (rest := [.ref (1076 + 1)]) hk_211 rfl (Or.inr (Or.inr (Or.inr ⟨Or.inl rfl, _, _, rfl, wc_1076⟩))) rfl rfl rfl (Nat.not_lt.mpr (Nat.le_of_ble_eq_true rfl)) (v_150_ok gz5) (by decide) rfl ?_
    refine kg_push (x := 45) hk_211 rfl (by decide) rfl ?_
    refine kv_mid (p := 25) (L := [.ref (1076 + 1), .ref (q1 + 1), (.retAddr 0), (.retAddr 0), (.retAddr 0), (.retAddr 0), (.retAddr 0), (.retAddr 0), (.retAddr 0)]) (S := [.int (if (v_150 hz4) = 45 then 1 else 0 : Int32), .ref (1076 + 1)]) ?_ (fun hK => ?_)
    · exact q_211_25_ok t1 hF _ _ _ _ _ _ _
    · by_cases cz6 : (v_150 hz4) = 45
      · have hK := kv_T cz6 hK
        refine kg_icF hk_211 rfl (jc_F1 cz6) rfl ?_
        refine kg_push (x := 1) hk_211 rfl (by decide) rfl ?_
        refine kg_goto hk_211 rfl ?_
        exact hK
      · have hK := kv_F cz6 hK
        refine kg_icT hk_211 rfl (jc_T1 cz6) ?_
        refine kg_push (x := 0) hk_211 rfl (by decide) rfl ?_
        exact hK
-- NotebookWeirModel.holds(I)Z
theorem hk_212 : jP[212]? = some (jc_212, 3, [], []) := by rfl
def p_212 (h : Hp) (x1 : Int32) : Option (Int32 × Hp) :=
  (p_194 h (h 1076 77) x1).bind fun vz1 =>
  some ((if vz1.1 = 0 then 0 else (if (vz1.2 1132 0) = (-1) then (if (vz1.2 1132 1) = 0 then 0 else 1 : Int32) else (if (vz1.2 1132 0) ≤ 0 then 0 else 1 : Int32) : Int32) : Int32), vz1.2)
theorem p_212_ok {X : List Int32}  {h : Hp} {x1 : Int32}  {r : Int32 × Hp} (hF : p_212 h x1 = some r) : k_Ev X 5 212 [.ref (1076 + 1), .int x1] h (.inl (some (.int r.1)), r.2) := by
  refine k_of hk_212 ?_
  show k_Go X 5 212 (0, [.ref (1076 + 1), .int x1, (.retAddr 0)], []) h _
  unfold p_212 at hF
  refine kg_aload hk_212 rfl rfl rfl ?_
  refine kg_aload hk_212 rfl rfl rfl ?_
  refine kg_get (v := .int (h 1076 77)) hk_212 rfl wk_1076_77 rfl rfl ?_
  refine kg_iload hk_212 rfl rfl rfl ?_
  refine wf_bind hF (fun vz1 hvz1 hF => ?_)
  refine kg_call (as := [.ref (1076 + 1), .int (h 1076 77), .int x1]) (rest := []) hk_212 rfl (Or.inr (Or.inr (Or.inr ⟨Or.inl rfl, _, _, rfl, wc_1076⟩))) rfl rfl rfl (Nat.not_lt.mpr (Nat.le_of_ble_eq_true rfl)) (p_194_ok hvz1) (by decide) rfl ?_
  refine kg_istore (L2 := [.ref (1076 + 1), .int x1, .int vz1.1]) hk_212 rfl (Nat.le_of_ble_eq_true rfl) rfl rfl ?_
  refine kg_iload hk_212 rfl rfl rfl ?_
  refine kv_mid (p := 28) (L := [.ref (1076 + 1), .int x1, .int vz1.1]) (S := [.int (if vz1.1 = 0 then 0 else (if (vz1.2 1132 0) = (-1) then (if (vz1.2 1132 1) = 0 then 0 else 1 : Int32) else (if (vz1.2 1132 0) ≤ 0 then 0 else 1 : Int32) : Int32) : Int32)]) ?_ (fun hK => ?_)
  · have hF := Option.some.inj hF
    subst hF
    exact kg_iret hk_212 rfl (Or.inr (w_boi rfl (w_boi (w_boi rfl rfl) (w_boi rfl rfl)))) rfl
  · by_cases cz2 : vz1.1 = 0
    · have hK := kv_T cz2 hK
      refine kg_ifT hk_212 rfl (jc_T0 cz2) ?_
      refine kg_push (x := 0) hk_212 rfl (by decide) rfl ?_
      exact hK
    · have hK := kv_F cz2 hK
      refine kg_ifF hk_212 rfl (jc_F0 cz2) rfl ?_
      refine kg_aload hk_212 rfl rfl rfl ?_
      refine kg_get (v := .ref (1132 + 1)) hk_212 rfl wk_1076_78 rfl rfl ?_
      refine kg_push (x := 0) hk_212 rfl (by decide) rfl ?_
      refine kg_ald (y := (vz1.2 1132 0)) hk_212 rfl wc_1132 (by decide) rfl rfl ?_
      refine kg_push (x := (-1)) hk_212 rfl (by decide) rfl ?_
      by_cases cz3 : (vz1.2 1132 0) = (-1)
      · have hK := kv_T cz3 hK
        refine kg_icF hk_212 rfl (jc_F1 cz3) rfl ?_
        refine kg_aload hk_212 rfl rfl rfl ?_
        refine kg_get (v := .ref (1132 + 1)) hk_212 rfl wk_1076_78 rfl rfl ?_
        refine kg_push (x := 1) hk_212 rfl (by decide) rfl ?_
        refine kg_ald (y := (vz1.2 1132 1)) hk_212 rfl wc_1132 (by decide) rfl rfl ?_
        by_cases cz4 : (vz1.2 1132 1) = 0
        · have hK := kv_T cz4 hK
          refine kg_ifT hk_212 rfl (jc_T0 cz4) ?_
          refine kg_push (x := 0) hk_212 rfl (by decide) rfl ?_
          exact hK
        · have hK := kv_F cz4 hK
          refine kg_ifF hk_212 rfl (jc_F0 cz4) rfl ?_
          refine kg_goto hk_212 rfl ?_
          refine kg_push (x := 1) hk_212 rfl (by decide) rfl ?_
          refine kg_goto hk_212 rfl ?_
          exact hK
      · have hK := kv_F cz3 hK
        refine kg_icT hk_212 rfl (jc_T1 cz3) ?_
        refine kg_aload hk_212 rfl rfl rfl ?_
        refine kg_get (v := .ref (1132 + 1)) hk_212 rfl wk_1076_78 rfl rfl ?_
        refine kg_push (x := 0) hk_212 rfl (by decide) rfl ?_
        refine kg_ald (y := (vz1.2 1132 0)) hk_212 rfl wc_1132 (by decide) rfl rfl ?_
        by_cases cz5 : (vz1.2 1132 0) ≤ 0
        · have hK := kv_T cz5 hK
          refine kg_ifT hk_212 rfl (jc_T5 cz5) ?_
          refine kg_push (x := 0) hk_212 rfl (by decide) rfl ?_
          exact hK
        · have hK := kv_F cz5 hK
          refine kg_ifF hk_212 rfl (jc_F5 cz5) rfl ?_
          refine kg_push (x := 1) hk_212 rfl (by decide) rfl ?_
          refine kg_goto hk_212 rfl ?_
          exact hK
-- NotebookWeirModel.runsRules([I)V
theorem hk_213 : jP[213]? = some (jc_213, 9, [], []) := by rfl
def q_213_64 (h : Hp) (q1 : Nat) (x2 : Int32) (x3 : Int32) (x4 : Int32) (x5 : Int32) : Option ((Int32 × Int32 × Int32 × Hp) ⊕ Int32 × Hp) :=
  if x5 = 0 then
    (some (.inl ((x2 ||| 0), x3, (x4 + 1), h)))
  else
    (if (h 1076 75) = 0 then
      (w_gd (w_ix x4 40) <|
      (p_212 h (h 1127 x4.toNatClampNeg)).bind fun vz17 =>
      w_gd ((if vz17.1 = 0 then true else w_ix x4 40)) <|
      some (.inl ((x2 ||| (if vz17.1 = 0 then 0 else (v_162 (vz17.2 1127 x4.toNatClampNeg)) : Int32)), x3, (x4 + 1), vz17.2)))
    else
      (some (.inl ((x2 ||| 0), x3, (x4 + 1), h))))
theorem q_213_64_ok {X : List Int32} {o : kO}  {h : Hp} {q1 : Nat} {x2 : Int32} {x3 : Int32} {x4 : Int32} {x5 : Int32} (t1 : w_tab[q1]? = some (50, (w_len q1), [])) {r : (Int32 × Int32 × Int32 × Hp) ⊕ Int32 × Hp} (hF : q_213_64 h q1 x2 x3 x4 x5 = some r) (hK : ∀ s' : Int32 × Int32 × Int32 × Hp, r = .inl s' → ∀ (u5 : Value) (u6 : Value) (u7 : Value) (u8 : Value), k_Go X 6 213 (6, [.ref (1076 + 1), .ref (q1 + 1), .int (s'.1), .int (s'.2.1), .int (s'.2.2.1), u5, u6, u7, u8], []) s'.2.2.2 o) (hX0 : ∀ e : Int32 × Hp, r = .inr e → ∀ (u3 : Value) (u4 : Value) (u5 : Value) (u6 : Value) (u7 : Value) (u8 : Value), k_Go X 6 213 (88, [.ref (1076 + 1), .ref (q1 + 1), .int e.1, u3, u4, u5, u6, u7, u8], []) e.2 o) : ∀ (u6 : Value) (u7 : Value) (u8 : Value), k_Go X 6 213 (64, [.ref (1076 + 1), .ref (q1 + 1), .int x2, .int x3, .int x4, .int x5, u6, u7, u8], []) h o := by
  intro u6 u7 u8
  unfold q_213_64 at hF
  refine kg_iload hk_213 rfl rfl rfl ?_
  refine kg_iload hk_213 rfl rfl rfl ?_
  refine wf_if hF (fun cz14 hF => ?_) (fun cz14 hF => ?_)
  · refine kg_ifT hk_213 rfl (jc_T0 cz14) ?_
    refine kg_push (x := 0) hk_213 rfl (by decide) rfl ?_
    refine kg_bin (z := (x2 ||| 0)) hk_213 rfl rfl rfl ?_
    refine kg_istore (L2 := [.ref (1076 + 1), .ref (q1 + 1), .int (x2 ||| 0), .int x3, .int x4, .int x5, u6, u7, u8]) hk_213 rfl (Nat.le_of_ble_eq_true rfl) rfl rfl ?_
    refine kg_iinc (y := (x4 + 1)) (L2 := [.ref (1076 + 1), .ref (q1 + 1), .int (x2 ||| 0), .int x3, .int (x4 + 1), .int x5, u6, u7, u8]) hk_213 rfl rfl rfl rfl rfl ?_
    refine kg_goto hk_213 rfl ?_
    have hF := Option.some.inj hF
    exact hK _ hF.symm _ _ _ _
  · refine kg_ifF hk_213 rfl (jc_F0 cz14) rfl ?_
    refine kg_aload hk_213 rfl rfl rfl ?_
    refine kg_get (v := .int (h 1076 75)) hk_213 rfl wk_1076_75 rfl rfl ?_
    refine wf_if hF (fun cz15 hF => ?_) (fun cz15 hF => ?_)
    · refine kg_ifF hk_213 rfl (jc_F1 cz15) rfl ?_
      refine kg_aload hk_213 rfl rfl rfl ?_
      refine kg_aload hk_213 rfl rfl rfl ?_
      refine kg_get (v := .ref (1127 + 1)) hk_213 rfl wk_1076_65 rfl rfl ?_
      refine kg_iload hk_213 rfl rfl rfl ?_
      refine wf_gd hF (fun gz16 hF => ?_)
      refine kg_ald (y := (h 1127 x4.toNatClampNeg)) hk_213 rfl wc_1127 gz16 rfl rfl ?_
      refine wf_bind hF (fun vz17 hvz17 hF => ?_)
      refine kg_call (as := [.ref (1076 + 1), .int (h 1127 x4.toNatClampNeg)]) (rest := [.int x2]) hk_213 rfl (Or.inr (Or.inr (Or.inr ⟨Or.inl rfl, _, _, rfl, wc_1076⟩))) rfl rfl rfl (Nat.not_lt.mpr (Nat.le_of_ble_eq_true rfl)) (p_212_ok hvz17) (by decide) rfl ?_
      refine wf_gd hF (fun gz20 hF => ?_)
      refine kv_mid (p := 84) (L := [.ref (1076 + 1), .ref (q1 + 1), .int x2, .int x3, .int x4, .int x5, u6, u7, u8]) (S := [.int (if vz17.1 = 0 then 0 else (v_162 (vz17.2 1127 x4.toNatClampNeg)) : Int32), .int x2]) ?_ (fun hK => ?_)
      · refine kg_bin (z := (x2 ||| (if vz17.1 = 0 then 0 else (v_162 (vz17.2 1127 x4.toNatClampNeg)) : Int32))) hk_213 rfl rfl rfl ?_
        refine kg_istore (L2 := [.ref (1076 + 1), .ref (q1 + 1), .int (x2 ||| (if vz17.1 = 0 then 0 else (v_162 (vz17.2 1127 x4.toNatClampNeg)) : Int32)), .int x3, .int x4, .int x5, u6, u7, u8]) hk_213 rfl (Nat.le_of_ble_eq_true rfl) rfl rfl ?_
        refine kg_iinc (y := (x4 + 1)) (L2 := [.ref (1076 + 1), .ref (q1 + 1), .int (x2 ||| (if vz17.1 = 0 then 0 else (v_162 (vz17.2 1127 x4.toNatClampNeg)) : Int32)), .int x3, .int (x4 + 1), .int x5, u6, u7, u8]) hk_213 rfl rfl rfl rfl rfl ?_
        refine kg_goto hk_213 rfl ?_
        have hF := Option.some.inj hF
        exact hK _ hF.symm _ _ _ _
      · have hg := gz20
        by_cases cz18 : vz17.1 = 0
        · have hK := kv_T cz18 hK
          refine kg_ifT hk_213 rfl (jc_T0 cz18) ?_
          refine kg_push (x := 0) hk_213 rfl (by decide) rfl ?_
          exact hK
        · have hg := wv_F cz18 hg
          have hK := kv_F cz18 hK
          have gz19 := hg
          refine kg_ifF hk_213 rfl (jc_F0 cz18) rfl ?_
          refine kg_aload hk_213 rfl rfl rfl ?_
          refine kg_get (v := .ref (1127 + 1)) hk_213 rfl wk_1076_65 rfl rfl ?_
          refine kg_iload hk_213 rfl rfl rfl ?_
          refine kg_ald (y := (vz17.2 1127 x4.toNatClampNeg)) hk_213 rfl wc_1127 gz19 rfl rfl ?_
          refine kg_call (as := [.int (vz17.2 1127 x4.toNatClampNeg)]) (rest := [.int x2]) hk_213 rfl (Or.inl rfl) rfl rfl rfl (Nat.not_lt.mpr (Nat.le_of_ble_eq_true rfl)) (v_162_ok) (by decide) rfl ?_
          refine kg_goto hk_213 rfl ?_
          exact hK
    · refine kg_ifT hk_213 rfl (jc_T1 cz15) ?_
      refine kg_push (x := 0) hk_213 rfl (by decide) rfl ?_
      refine kg_bin (z := (x2 ||| 0)) hk_213 rfl rfl rfl ?_
      refine kg_istore (L2 := [.ref (1076 + 1), .ref (q1 + 1), .int (x2 ||| 0), .int x3, .int x4, .int x5, u6, u7, u8]) hk_213 rfl (Nat.le_of_ble_eq_true rfl) rfl rfl ?_
      refine kg_iinc (y := (x4 + 1)) (L2 := [.ref (1076 + 1), .ref (q1 + 1), .int (x2 ||| 0), .int x3, .int (x4 + 1), .int x5, u6, u7, u8]) hk_213 rfl rfl rfl rfl rfl ?_
      refine kg_goto hk_213 rfl ?_
      have hF := Option.some.inj hF
      exact hK _ hF.symm _ _ _ _
def q_213_48 (h : Hp) (q1 : Nat) (x2 : Int32) (x3 : Int32) (x4 : Int32) (s0 : Int32) : Option ((Int32 × Int32 × Int32 × Hp) ⊕ Int32 × Hp) :=
  if s0 = 0 then
    (q_213_64 h q1 x2 x3 x4 s0)
  else
    (w_gd (w_ix x4 40) <|
    (p_194 h (h 1076 77) (h 1127 x4.toNatClampNeg)).bind fun vz22 =>
    if vz22.1 = 0 then
      ((p_195 vz22.2 1 x3).bind fun vz24 =>
      q_213_64 vz24 q1 x2 x3 x4 s0)
    else
      (q_213_64 vz22.2 q1 x2 x3 x4 s0))
theorem q_213_48_ok {X : List Int32} {o : kO}  {h : Hp} {q1 : Nat} {s0 : Int32} {x2 : Int32} {x3 : Int32} {x4 : Int32} (t1 : w_tab[q1]? = some (50, (w_len q1), [])) {r : (Int32 × Int32 × Int32 × Hp) ⊕ Int32 × Hp} (hF : q_213_48 h q1 x2 x3 x4 s0 = some r) (hK : ∀ s' : Int32 × Int32 × Int32 × Hp, r = .inl s' → ∀ (u5 : Value) (u6 : Value) (u7 : Value) (u8 : Value), k_Go X 6 213 (6, [.ref (1076 + 1), .ref (q1 + 1), .int (s'.1), .int (s'.2.1), .int (s'.2.2.1), u5, u6, u7, u8], []) s'.2.2.2 o) (hX0 : ∀ e : Int32 × Hp, r = .inr e → ∀ (u3 : Value) (u4 : Value) (u5 : Value) (u6 : Value) (u7 : Value) (u8 : Value), k_Go X 6 213 (88, [.ref (1076 + 1), .ref (q1 + 1), .int e.1, u3, u4, u5, u6, u7, u8], []) e.2 o) : ∀ (u5 : Value) (u6 : Value) (u7 : Value) (u8 : Value), k_Go X 6 213 (48, [.ref (1076 + 1), .ref (q1 + 1), .int x2, .int x3, .int x4, u5, u6, u7, u8], [.int s0]) h o := by
  intro u5 u6 u7 u8
  unfold q_213_48 at hF
  refine kg_istore (L2 := [.ref (1076 + 1), .ref (q1 + 1), .int x2, .int x3, .int x4, .int s0, u6, u7, u8]) hk_213 rfl (Nat.le_of_ble_eq_true rfl) rfl rfl ?_
  refine kg_iload hk_213 rfl rfl rfl ?_
  refine wf_if hF (fun cz13 hF => ?_) (fun cz13 hF => ?_)
  · refine kg_ifT hk_213 rfl (jc_T0 cz13) ?_
    exact q_213_64_ok t1 hF hK hX0 _ _ _
  · refine kg_ifF hk_213 rfl (jc_F0 cz13) rfl ?_
    refine kg_aload hk_213 rfl rfl rfl ?_
    refine kg_aload hk_213 rfl rfl rfl ?_
    refine kg_get (v := .int (h 1076 77)) hk_213 rfl wk_1076_77 rfl rfl ?_
    refine kg_aload hk_213 rfl rfl rfl ?_
    refine kg_get (v := .ref (1127 + 1)) hk_213 rfl wk_1076_65 rfl rfl ?_
    refine kg_iload hk_213 rfl rfl rfl ?_
    refine wf_gd hF (fun gz21 hF => ?_)
    refine kg_ald (y := (h 1127 x4.toNatClampNeg)) hk_213 rfl wc_1127 gz21 rfl rfl ?_
    refine wf_bind hF (fun vz22 hvz22 hF => ?_)
    refine kg_call (as := [.ref (1076 + 1), .int (h 1076 77), .int (h 1127 x4.toNatClampNeg)]) (rest := []) hk_213 rfl (Or.inr (Or.inr (Or.inr ⟨Or.inl rfl, _, _, rfl, wc_1076⟩))) rfl rfl rfl (Nat.not_lt.mpr (Nat.le_of_ble_eq_true rfl)) (p_194_ok hvz22) (by decide) rfl ?_
    refine wf_if hF (fun cz23 hF => ?_) (fun cz23 hF => ?_)
    · refine kg_ifF hk_213 rfl (jc_F1 cz23) rfl ?_
      refine kg_aload hk_213 rfl rfl rfl ?_
      refine kg_push (x := 1) hk_213 rfl (by decide) rfl ?_
      refine kg_iload hk_213 rfl rfl rfl ?_
      refine wf_bind hF (fun vz24 hvz24 hF => ?_)
      refine kg_call (as := [.ref (1076 + 1), .int 1, .int x3]) (rest := []) hk_213 rfl (Or.inr (Or.inr (Or.inr ⟨Or.inl rfl, _, _, rfl, wc_1076⟩))) rfl rfl rfl (Nat.not_lt.mpr (Nat.le_of_ble_eq_true rfl)) (p_195_ok hvz24) (by decide) rfl ?_
      exact q_213_64_ok t1 hF hK hX0 _ _ _
    · refine kg_ifT hk_213 rfl (jc_T1 cz23) ?_
      exact q_213_64_ok t1 hF hK hX0 _ _ _
def q_213_26 (h : Hp) (q1 : Nat) (x2 : Int32) (x4 : Int32) (s0 : Int32) : Option ((Int32 × Int32 × Int32 × Hp) ⊕ Int32 × Hp) :=
  w_gd (w_ix x4 40) <|
  w_gd ((if (v_148 (h 1127 x4.toNatClampNeg)) = 0 then true else (w_ix (h 1076 77) 16) && (w_ix x4 40))) <|
  q_213_48 h q1 x2 s0 x4 (if (v_148 (h 1127 x4.toNatClampNeg)) = 0 then 0 else (if ((h 1083 (h 1076 77).toNatClampNeg) &&& (v_162 (h 1127 x4.toNatClampNeg))) = 0 then 1 else 0 : Int32) : Int32)
theorem q_213_26_ok {X : List Int32} {o : kO}  {h : Hp} {q1 : Nat} {s0 : Int32} {x2 : Int32} {x4 : Int32} (t1 : w_tab[q1]? = some (50, (w_len q1), [])) {r : (Int32 × Int32 × Int32 × Hp) ⊕ Int32 × Hp} (hF : q_213_26 h q1 x2 x4 s0 = some r) (hK : ∀ s' : Int32 × Int32 × Int32 × Hp, r = .inl s' → ∀ (u5 : Value) (u6 : Value) (u7 : Value) (u8 : Value), k_Go X 6 213 (6, [.ref (1076 + 1), .ref (q1 + 1), .int (s'.1), .int (s'.2.1), .int (s'.2.2.1), u5, u6, u7, u8], []) s'.2.2.2 o) (hX0 : ∀ e : Int32 × Hp, r = .inr e → ∀ (u3 : Value) (u4 : Value) (u5 : Value) (u6 : Value) (u7 : Value) (u8 : Value), k_Go X 6 213 (88, [.ref (1076 + 1), .ref (q1 + 1), .int e.1, u3, u4, u5, u6, u7, u8], []) e.2 o) : ∀ (u3 : Value) (u5 : Value) (u6 : Value) (u7 : Value) (u8 : Value), k_Go X 6 213 (26, [.ref (1076 + 1), .ref (q1 + 1), .int x2, u3, .int x4, u5, u6, u7, u8], [.int s0]) h o := by
  intro u3 u5 u6 u7 u8
  unfold q_213_26 at hF
  refine kg_istore (L2 := [.ref (1076 + 1), .ref (q1 + 1), .int x2, .int s0, .int x4, u5, u6, u7, u8]) hk_213 rfl (Nat.le_of_ble_eq_true rfl) rfl rfl ?_
  refine kg_aload hk_213 rfl rfl rfl ?_
  refine kg_get (v := .ref (1127 + 1)) hk_213 rfl wk_1076_65 rfl rfl ?_
  refine kg_iload hk_213 rfl rfl rfl ?_
  refine wf_gd hF (fun gz7 hF => ?_)
  refine kg_ald (y := (h 1127 x4.toNatClampNeg)) hk_213 rfl wc_1127 gz7 rfl rfl ?_
  refine kg_call (as := [.int (h 1127 x4.toNatClampNeg)]) (rest := []) hk_213 rfl (Or.inl rfl) rfl rfl rfl (Nat.not_lt.mpr (Nat.le_of_ble_eq_true rfl)) (v_148_ok) (by decide) rfl ?_
  refine wf_gd hF (fun gz12 hF => ?_)
  refine kv_mid (p := 48) (L := [.ref (1076 + 1), .ref (q1 + 1), .int x2, .int s0, .int x4, u5, u6, u7, u8]) (S := [.int (if (v_148 (h 1127 x4.toNatClampNeg)) = 0 then 0 else (if ((h 1083 (h 1076 77).toNatClampNeg) &&& (v_162 (h 1127 x4.toNatClampNeg))) = 0 then 1 else 0 : Int32) : Int32)]) ?_ (fun hK => ?_)
  · exact q_213_48_ok t1 hF hK hX0 _ _ _ _
  · have hg := gz12
    by_cases cz8 : (v_148 (h 1127 x4.toNatClampNeg)) = 0
    · have hK := kv_T cz8 hK
      refine kg_ifT hk_213 rfl (jc_T0 cz8) ?_
      refine kg_push (x := 0) hk_213 rfl (by decide) rfl ?_
      exact hK
    · have hg := wv_F cz8 hg
      have hK := kv_F cz8 hK
      have gz9 := wb_1 hg
      have hg := wb_2 hg
      have gz10 := hg
      refine kg_ifF hk_213 rfl (jc_F0 cz8) rfl ?_
      refine kg_aload hk_213 rfl rfl rfl ?_
      refine kg_get (v := .ref (1083 + 1)) hk_213 rfl wk_1076_7 rfl rfl ?_
      refine kg_aload hk_213 rfl rfl rfl ?_
      refine kg_get (v := .int (h 1076 77)) hk_213 rfl wk_1076_77 rfl rfl ?_
      refine kg_ald (y := (h 1083 (h 1076 77).toNatClampNeg)) hk_213 rfl wc_1083 gz9 rfl rfl ?_
      refine kg_aload hk_213 rfl rfl rfl ?_
      refine kg_get (v := .ref (1127 + 1)) hk_213 rfl wk_1076_65 rfl rfl ?_
      refine kg_iload hk_213 rfl rfl rfl ?_
      refine kg_ald (y := (h 1127 x4.toNatClampNeg)) hk_213 rfl wc_1127 gz10 rfl rfl ?_
      refine kg_call (as := [.int (h 1127 x4.toNatClampNeg)]) (rest := [.int (h 1083 (h 1076 77).toNatClampNeg)]) hk_213 rfl (Or.inl rfl) rfl rfl rfl (Nat.not_lt.mpr (Nat.le_of_ble_eq_true rfl)) (v_162_ok) (by decide) rfl ?_
      refine kg_bin (z := ((h 1083 (h 1076 77).toNatClampNeg) &&& (v_162 (h 1127 x4.toNatClampNeg)))) hk_213 rfl rfl rfl ?_
      by_cases cz11 : ((h 1083 (h 1076 77).toNatClampNeg) &&& (v_162 (h 1127 x4.toNatClampNeg))) = 0
      · have hK := kv_T cz11 hK
        refine kg_ifF hk_213 rfl (jc_F1 cz11) rfl ?_
        refine kg_push (x := 1) hk_213 rfl (by decide) rfl ?_
        refine kg_goto hk_213 rfl ?_
        exact hK
      · have hK := kv_F cz11 hK
        refine kg_ifT hk_213 rfl (jc_T1 cz11) ?_
        refine kg_push (x := 0) hk_213 rfl (by decide) rfl ?_
        exact hK
def l_213_6 (q1 : Nat) (x2 : Int32) (x3 : Int32) (x4 : Int32) (h : Hp) : Option ((Int32 × Int32 × Int32 × Hp) ⊕ Int32 × Hp) :=
  if x4 < (h 1076 66) then
    (if (h 1076 75) = 0 then
      (w_gd ((if x4 = 0 then true else w_ix (x4 - 1) 40)) <|
      q_213_26 h q1 x2 x4 (if x4 = 0 then x4 else (if (h 1127 (x4 - 1).toNatClampNeg) = 59 then x4 else x3 : Int32) : Int32))
    else
      (some (.inr (x2, h))))
  else
    (some (.inr (x2, h)))
theorem l_213_6_st {X : List Int32} {o : kO}  {h : Hp} {q1 : Nat} {x2 : Int32} {x3 : Int32} {x4 : Int32} (t1 : w_tab[q1]? = some (50, (w_len q1), [])) {r : (Int32 × Int32 × Int32 × Hp) ⊕ Int32 × Hp} (hF : l_213_6 q1 x2 x3 x4 h = some r) (hK : ∀ s' : Int32 × Int32 × Int32 × Hp, r = .inl s' → ∀ (u5 : Value) (u6 : Value) (u7 : Value) (u8 : Value), k_Go X 6 213 (6, [.ref (1076 + 1), .ref (q1 + 1), .int (s'.1), .int (s'.2.1), .int (s'.2.2.1), u5, u6, u7, u8], []) s'.2.2.2 o) (hX0 : ∀ e : Int32 × Hp, r = .inr e → ∀ (u3 : Value) (u4 : Value) (u5 : Value) (u6 : Value) (u7 : Value) (u8 : Value), k_Go X 6 213 (88, [.ref (1076 + 1), .ref (q1 + 1), .int e.1, u3, u4, u5, u6, u7, u8], []) e.2 o) : ∀ (u5 : Value) (u6 : Value) (u7 : Value) (u8 : Value), k_Go X 6 213 (6, [.ref (1076 + 1), .ref (q1 + 1), .int x2, .int x3, .int x4, u5, u6, u7, u8], []) h o := by
  intro u5 u6 u7 u8
  refine kg_iload hk_213 rfl rfl rfl ?_
  refine kg_aload hk_213 rfl rfl rfl ?_
  refine kg_get (v := .int (h 1076 66)) hk_213 rfl wk_1076_66 rfl rfl ?_
  refine wf_if hF (fun cz1 hF => ?_) (fun cz1 hF => ?_)
  · refine kg_icF hk_213 rfl (jc_F3 cz1) rfl ?_
    refine kg_aload hk_213 rfl rfl rfl ?_
    refine kg_get (v := .int (h 1076 75)) hk_213 rfl wk_1076_75 rfl rfl ?_
    refine wf_if hF (fun cz2 hF => ?_) (fun cz2 hF => ?_)
    · refine kg_ifF hk_213 rfl (jc_F1 cz2) rfl ?_
      refine kg_iload hk_213 rfl rfl rfl ?_
      refine wf_gd hF (fun gz6 hF => ?_)
      refine kv_mid (p := 26) (L := [.ref (1076 + 1), .ref (q1 + 1), .int x2, .int x3, .int x4, u5, u6, u7, u8]) (S := [.int (if x4 = 0 then x4 else (if (h 1127 (x4 - 1).toNatClampNeg) = 59 then x4 else x3 : Int32) : Int32)]) ?_ (fun hK => ?_)
      · exact q_213_26_ok t1 hF hK hX0 _ _ _ _ _
      · have hg := gz6
        by_cases cz3 : x4 = 0
        · have hK := kv_T cz3 hK
          refine kg_ifT hk_213 rfl (jc_T0 cz3) ?_
          refine kg_iload hk_213 rfl rfl rfl ?_
          refine kg_goto hk_213 rfl ?_
          exact hK
        · have hg := wv_F cz3 hg
          have hK := kv_F cz3 hK
          have gz4 := hg
          refine kg_ifF hk_213 rfl (jc_F0 cz3) rfl ?_
          refine kg_aload hk_213 rfl rfl rfl ?_
          refine kg_get (v := .ref (1127 + 1)) hk_213 rfl wk_1076_65 rfl rfl ?_
          refine kg_iload hk_213 rfl rfl rfl ?_
          refine kg_push (x := 1) hk_213 rfl (by decide) rfl ?_
          refine kg_bin (z := (x4 - 1)) hk_213 rfl rfl rfl ?_
          refine kg_ald (y := (h 1127 (x4 - 1).toNatClampNeg)) hk_213 rfl wc_1127 gz4 rfl rfl ?_
          refine kg_push (x := 59) hk_213 rfl (by decide) rfl ?_
          by_cases cz5 : (h 1127 (x4 - 1).toNatClampNeg) = 59
          · have hK := kv_T cz5 hK
            refine kg_icF hk_213 rfl (jc_F1 cz5) rfl ?_
            refine kg_iload hk_213 rfl rfl rfl ?_
            refine kg_goto hk_213 rfl ?_
            exact hK
          · have hK := kv_F cz5 hK
            refine kg_icT hk_213 rfl (jc_T1 cz5) ?_
            refine kg_iload hk_213 rfl rfl rfl ?_
            exact hK
    · refine kg_ifT hk_213 rfl (jc_T1 cz2) ?_
      have hF := Option.some.inj hF
      exact hX0 _ hF.symm _ _ _ _ _ _
  · refine kg_icT hk_213 rfl (jc_T3 cz1) ?_
    have hF := Option.some.inj hF
    exact hX0 _ hF.symm _ _ _ _ _ _
theorem l_213_6_ok {X : List Int32} {o : kO}  {q1 : Nat} (t1 : w_tab[q1]? = some (50, (w_len q1), [])) {n : Nat} {s : Int32 × Int32 × Int32 × Hp} {e : Int32 × Hp} (hF : w_lp (fun (s : Int32 × Int32 × Int32 × Hp) => l_213_6 q1 s.1 s.2.1 s.2.2.1 s.2.2.2) n s = some e) (hX0 : ∀ (u3 : Value) (u4 : Value) (u5 : Value) (u6 : Value) (u7 : Value) (u8 : Value), k_Go X 6 213 (88, [.ref (1076 + 1), .ref (q1 + 1), .int e.1, u3, u4, u5, u6, u7, u8], []) e.2 o) : ∀ (u5 : Value) (u6 : Value) (u7 : Value) (u8 : Value), k_Go X 6 213 (6, [.ref (1076 + 1), .ref (q1 + 1), .int s.1, .int s.2.1, .int s.2.2.1, u5, u6, u7, u8], []) s.2.2.2 o := by
  exact w_lp_ok (P := (fun (s : Int32 × Int32 × Int32 × Hp) => ∀ (u5 : Value) (u6 : Value) (u7 : Value) (u8 : Value), k_Go X 6 213 (6, [.ref (1076 + 1), .ref (q1 + 1), .int s.1, .int s.2.1, .int s.2.2.1, u5, u6, u7, u8], []) s.2.2.2 o)) (Q := (fun (e : Int32 × Hp) => (∀ (u3 : Value) (u4 : Value) (u5 : Value) (u6 : Value) (u7 : Value) (u8 : Value), k_Go X 6 213 (88, [.ref (1076 + 1), .ref (q1 + 1), .int e.1, u3, u4, u5, u6, u7, u8], []) e.2 o))) (fun s r hF hK hX => l_213_6_st t1 hF hK (fun x hx => (hX _ hx))) n s e hF hX0
def q_213_149 (h : Hp) (q1 : Nat) (x2 : Int32) (x4 : Int32) (x7 : Int32) : Option ((Int32 × Int32 × Int32 × Int32 × Int32) ⊕ Int32 × Int32) :=
  w_gd (w_ix x7 40) <|
  some (.inl (x2, x4, (v_162 (h 1127 x7.toNatClampNeg)), 1, (x7 + 1)))
theorem q_213_149_ok {X : List Int32} {o : kO}  {h : Hp} {q1 : Nat} {x2 : Int32} {x4 : Int32} {x7 : Int32} (t1 : w_tab[q1]? = some (50, (w_len q1), [])) {r : (Int32 × Int32 × Int32 × Int32 × Int32) ⊕ Int32 × Int32} (hF : q_213_149 h q1 x2 x4 x7 = some r) (hK : ∀ s' : Int32 × Int32 × Int32 × Int32 × Int32, r = .inl s' → ∀ (u3 : Value) (u8 : Value), k_Go X 6 213 (105, [.ref (1076 + 1), .ref (q1 + 1), .int (s'.1), u3, .int (s'.2.1), .int (s'.2.2.1), .int (s'.2.2.2.1), .int (s'.2.2.2.2), u8], []) h o) (hX0 : ∀ e : Int32 × Int32, r = .inr e → ∀ (u3 : Value) (u5 : Value) (u6 : Value) (u7 : Value) (u8 : Value), k_Go X 6 213 (182, [.ref (1076 + 1), .ref (q1 + 1), .int e.1, u3, .int e.2, u5, u6, u7, u8], []) h o) : ∀ (u3 : Value) (u5 : Value) (u6 : Value) (u8 : Value), k_Go X 6 213 (149, [.ref (1076 + 1), .ref (q1 + 1), .int x2, u3, .int x4, u5, u6, .int x7, u8], []) h o := by
  intro u3 u5 u6 u8
  unfold q_213_149 at hF
  refine kg_aload hk_213 rfl rfl rfl ?_
  refine kg_get (v := .ref (1127 + 1)) hk_213 rfl wk_1076_65 rfl rfl ?_
  refine kg_iload hk_213 rfl rfl rfl ?_
  refine wf_gd hF (fun gz36 hF => ?_)
  refine kg_ald (y := (h 1127 x7.toNatClampNeg)) hk_213 rfl wc_1127 gz36 rfl rfl ?_
  refine kg_call (as := [.int (h 1127 x7.toNatClampNeg)]) (rest := []) hk_213 rfl (Or.inl rfl) rfl rfl rfl (Nat.not_lt.mpr (Nat.le_of_ble_eq_true rfl)) (v_162_ok) (by decide) rfl ?_
  refine kg_istore (L2 := [.ref (1076 + 1), .ref (q1 + 1), .int x2, u3, .int x4, .int (v_162 (h 1127 x7.toNatClampNeg)), u6, .int x7, u8]) hk_213 rfl (Nat.le_of_ble_eq_true rfl) rfl rfl ?_
  refine kg_push (x := 1) hk_213 rfl (by decide) rfl ?_
  refine kg_istore (L2 := [.ref (1076 + 1), .ref (q1 + 1), .int x2, u3, .int x4, .int (v_162 (h 1127 x7.toNatClampNeg)), .int 1, .int x7, u8]) hk_213 rfl (Nat.le_of_ble_eq_true rfl) rfl rfl ?_
  refine kg_goto hk_213 rfl ?_
  refine kg_iinc (y := (x7 + 1)) (L2 := [.ref (1076 + 1), .ref (q1 + 1), .int x2, u3, .int x4, .int (v_162 (h 1127 x7.toNatClampNeg)), .int 1, .int (x7 + 1), u8]) hk_213 rfl rfl rfl rfl rfl ?_
  refine kg_goto hk_213 rfl ?_
  have hF := Option.some.inj hF
  exact hK _ hF.symm _ _
def q_213_158 (h : Hp) (q1 : Nat) (x2 : Int32) (x4 : Int32) (x5 : Int32) (x6 : Int32) (x7 : Int32) (x8 : Int32) : Option ((Int32 × Int32 × Int32 × Int32 × Int32) ⊕ Int32 × Int32) :=
  if x8 = 0 then
    (w_gd (w_ix x7 40) <|
    if (v_148 (h 1127 x7.toNatClampNeg)) = 0 then
      (some (.inl (x2, x4, x5, x6, (x7 + 1))))
    else
      (w_gd ((if x6 = 0 then true else w_ix x7 40)) <|
      some (.inl (x2, x4, x5, (if x6 = 0 then 0 else (if (x2 &&& (v_162 (h 1127 x7.toNatClampNeg))) = 0 then 0 else 1 : Int32) : Int32), (x7 + 1)))))
  else
    (some (.inl (x2, x4, x5, x6, (x7 + 1))))
theorem q_213_158_ok {X : List Int32} {o : kO}  {h : Hp} {q1 : Nat} {x2 : Int32} {x4 : Int32} {x5 : Int32} {x6 : Int32} {x7 : Int32} {x8 : Int32} (t1 : w_tab[q1]? = some (50, (w_len q1), [])) {r : (Int32 × Int32 × Int32 × Int32 × Int32) ⊕ Int32 × Int32} (hF : q_213_158 h q1 x2 x4 x5 x6 x7 x8 = some r) (hK : ∀ s' : Int32 × Int32 × Int32 × Int32 × Int32, r = .inl s' → ∀ (u3 : Value) (u8 : Value), k_Go X 6 213 (105, [.ref (1076 + 1), .ref (q1 + 1), .int (s'.1), u3, .int (s'.2.1), .int (s'.2.2.1), .int (s'.2.2.2.1), .int (s'.2.2.2.2), u8], []) h o) (hX0 : ∀ e : Int32 × Int32, r = .inr e → ∀ (u3 : Value) (u5 : Value) (u6 : Value) (u7 : Value) (u8 : Value), k_Go X 6 213 (182, [.ref (1076 + 1), .ref (q1 + 1), .int e.1, u3, .int e.2, u5, u6, u7, u8], []) h o) : ∀ (u3 : Value), k_Go X 6 213 (158, [.ref (1076 + 1), .ref (q1 + 1), .int x2, u3, .int x4, .int x5, .int x6, .int x7, .int x8], []) h o := by
  intro u3
  unfold q_213_158 at hF
  refine kg_iload hk_213 rfl rfl rfl ?_
  refine wf_if hF (fun cz39 hF => ?_) (fun cz39 hF => ?_)
  · refine kg_ifF hk_213 rfl (jc_F1 cz39) rfl ?_
    refine kg_aload hk_213 rfl rfl rfl ?_
    refine kg_get (v := .ref (1127 + 1)) hk_213 rfl wk_1076_65 rfl rfl ?_
    refine kg_iload hk_213 rfl rfl rfl ?_
    refine wf_gd hF (fun gz40 hF => ?_)
    refine kg_ald (y := (h 1127 x7.toNatClampNeg)) hk_213 rfl wc_1127 gz40 rfl rfl ?_
    refine kg_call (as := [.int (h 1127 x7.toNatClampNeg)]) (rest := []) hk_213 rfl (Or.inl rfl) rfl rfl rfl (Nat.not_lt.mpr (Nat.le_of_ble_eq_true rfl)) (v_148_ok) (by decide) rfl ?_
    refine wf_if hF (fun cz41 hF => ?_) (fun cz41 hF => ?_)
    · refine kg_ifT hk_213 rfl (jc_T0 cz41) ?_
      refine kg_iinc (y := (x7 + 1)) (L2 := [.ref (1076 + 1), .ref (q1 + 1), .int x2, u3, .int x4, .int x5, .int x6, .int (x7 + 1), .int x8]) hk_213 rfl rfl rfl rfl rfl ?_
      refine kg_goto hk_213 rfl ?_
      have hF := Option.some.inj hF
      exact hK _ hF.symm _ _
    · refine kg_ifF hk_213 rfl (jc_F0 cz41) rfl ?_
      refine kg_iload hk_213 rfl rfl rfl ?_
      refine wf_gd hF (fun gz45 hF => ?_)
      refine kv_mid (p := 179) (L := [.ref (1076 + 1), .ref (q1 + 1), .int x2, u3, .int x4, .int x5, .int x6, .int x7, .int x8]) (S := [.int (if x6 = 0 then 0 else (if (x2 &&& (v_162 (h 1127 x7.toNatClampNeg))) = 0 then 0 else 1 : Int32) : Int32)]) ?_ (fun hK => ?_)
      · refine kg_istore (L2 := [.ref (1076 + 1), .ref (q1 + 1), .int x2, u3, .int x4, .int x5, .int (if x6 = 0 then 0 else (if (x2 &&& (v_162 (h 1127 x7.toNatClampNeg))) = 0 then 0 else 1 : Int32) : Int32), .int x7, .int x8]) hk_213 rfl (Nat.le_of_ble_eq_true rfl) rfl rfl ?_
        refine kg_iinc (y := (x7 + 1)) (L2 := [.ref (1076 + 1), .ref (q1 + 1), .int x2, u3, .int x4, .int x5, .int (if x6 = 0 then 0 else (if (x2 &&& (v_162 (h 1127 x7.toNatClampNeg))) = 0 then 0 else 1 : Int32) : Int32), .int (x7 + 1), .int x8]) hk_213 rfl rfl rfl rfl rfl ?_
        refine kg_goto hk_213 rfl ?_
        have hF := Option.some.inj hF
        exact hK _ hF.symm _ _
      · have hg := gz45
        by_cases cz42 : x6 = 0
        · have hK := kv_T cz42 hK
          refine kg_ifT hk_213 rfl (jc_T0 cz42) ?_
          refine kg_push (x := 0) hk_213 rfl (by decide) rfl ?_
          exact hK
        · have hg := wv_F cz42 hg
          have hK := kv_F cz42 hK
          have gz43 := hg
          refine kg_ifF hk_213 rfl (jc_F0 cz42) rfl ?_
          refine kg_iload hk_213 rfl rfl rfl ?_
          refine kg_aload hk_213 rfl rfl rfl ?_
          refine kg_get (v := .ref (1127 + 1)) hk_213 rfl wk_1076_65 rfl rfl ?_
          refine kg_iload hk_213 rfl rfl rfl ?_
          refine kg_ald (y := (h 1127 x7.toNatClampNeg)) hk_213 rfl wc_1127 gz43 rfl rfl ?_
          refine kg_call (as := [.int (h 1127 x7.toNatClampNeg)]) (rest := [.int x2]) hk_213 rfl (Or.inl rfl) rfl rfl rfl (Nat.not_lt.mpr (Nat.le_of_ble_eq_true rfl)) (v_162_ok) (by decide) rfl ?_
          refine kg_bin (z := (x2 &&& (v_162 (h 1127 x7.toNatClampNeg)))) hk_213 rfl rfl rfl ?_
          by_cases cz44 : (x2 &&& (v_162 (h 1127 x7.toNatClampNeg))) = 0
          · have hK := kv_T cz44 hK
            refine kg_ifT hk_213 rfl (jc_T0 cz44) ?_
            refine kg_push (x := 0) hk_213 rfl (by decide) rfl ?_
            exact hK
          · have hK := kv_F cz44 hK
            refine kg_ifF hk_213 rfl (jc_F0 cz44) rfl ?_
            refine kg_push (x := 1) hk_213 rfl (by decide) rfl ?_
            refine kg_goto hk_213 rfl ?_
            exact hK
  · refine kg_ifT hk_213 rfl (jc_T1 cz39) ?_
    refine kg_iinc (y := (x7 + 1)) (L2 := [.ref (1076 + 1), .ref (q1 + 1), .int x2, u3, .int x4, .int x5, .int x6, .int (x7 + 1), .int x8]) hk_213 rfl rfl rfl rfl rfl ?_
    refine kg_goto hk_213 rfl ?_
    have hF := Option.some.inj hF
    exact hK _ hF.symm _ _
def q_213_137 (h : Hp) (q1 : Nat) (x2 : Int32) (x4 : Int32) (x5 : Int32) (x6 : Int32) (x7 : Int32) (x8 : Int32) : Option ((Int32 × Int32 × Int32 × Int32 × Int32) ⊕ Int32 × Int32) :=
  if x8 = 0 then
    (if x7 = 0 then
      (q_213_149 h q1 x2 x4 x7)
    else
      (w_gd (w_ix (x7 - 1) 40) <|
      if (h 1127 (x7 - 1).toNatClampNeg) = 59 then
        (q_213_149 h q1 x2 x4 x7)
      else
        (q_213_158 h q1 x2 x4 x5 x6 x7 x8)))
  else
    (q_213_158 h q1 x2 x4 x5 x6 x7 x8)
theorem q_213_137_ok {X : List Int32} {o : kO}  {h : Hp} {q1 : Nat} {x2 : Int32} {x4 : Int32} {x5 : Int32} {x6 : Int32} {x7 : Int32} {x8 : Int32} (t1 : w_tab[q1]? = some (50, (w_len q1), [])) {r : (Int32 × Int32 × Int32 × Int32 × Int32) ⊕ Int32 × Int32} (hF : q_213_137 h q1 x2 x4 x5 x6 x7 x8 = some r) (hK : ∀ s' : Int32 × Int32 × Int32 × Int32 × Int32, r = .inl s' → ∀ (u3 : Value) (u8 : Value), k_Go X 6 213 (105, [.ref (1076 + 1), .ref (q1 + 1), .int (s'.1), u3, .int (s'.2.1), .int (s'.2.2.1), .int (s'.2.2.2.1), .int (s'.2.2.2.2), u8], []) h o) (hX0 : ∀ e : Int32 × Int32, r = .inr e → ∀ (u3 : Value) (u5 : Value) (u6 : Value) (u7 : Value) (u8 : Value), k_Go X 6 213 (182, [.ref (1076 + 1), .ref (q1 + 1), .int e.1, u3, .int e.2, u5, u6, u7, u8], []) h o) : ∀ (u3 : Value), k_Go X 6 213 (137, [.ref (1076 + 1), .ref (q1 + 1), .int x2, u3, .int x4, .int x5, .int x6, .int x7, .int x8], []) h o := by
  intro u3
  unfold q_213_137 at hF
  refine kg_iload hk_213 rfl rfl rfl ?_
  refine wf_if hF (fun cz34 hF => ?_) (fun cz34 hF => ?_)
  · refine kg_ifF hk_213 rfl (jc_F1 cz34) rfl ?_
    refine kg_iload hk_213 rfl rfl rfl ?_
    refine wf_if hF (fun cz35 hF => ?_) (fun cz35 hF => ?_)
    · refine kg_ifT hk_213 rfl (jc_T0 cz35) ?_
      exact q_213_149_ok t1 hF hK hX0 _ _ _ _
    · refine kg_ifF hk_213 rfl (jc_F0 cz35) rfl ?_
      refine kg_aload hk_213 rfl rfl rfl ?_
      refine kg_get (v := .ref (1127 + 1)) hk_213 rfl wk_1076_65 rfl rfl ?_
      refine kg_iload hk_213 rfl rfl rfl ?_
      refine kg_push (x := 1) hk_213 rfl (by decide) rfl ?_
      refine kg_bin (z := (x7 - 1)) hk_213 rfl rfl rfl ?_
      refine wf_gd hF (fun gz37 hF => ?_)
      refine kg_ald (y := (h 1127 (x7 - 1).toNatClampNeg)) hk_213 rfl wc_1127 gz37 rfl rfl ?_
      refine kg_push (x := 59) hk_213 rfl (by decide) rfl ?_
      refine wf_if hF (fun cz38 hF => ?_) (fun cz38 hF => ?_)
      · refine kg_icF hk_213 rfl (jc_F1 cz38) rfl ?_
        exact q_213_149_ok t1 hF hK hX0 _ _ _ _
      · refine kg_icT hk_213 rfl (jc_T1 cz38) ?_
        exact q_213_158_ok t1 hF hK hX0 _
  · refine kg_ifT hk_213 rfl (jc_T1 cz34) ?_
    exact q_213_158_ok t1 hF hK hX0 _
def q_213_122 (h : Hp) (q1 : Nat) (x2 : Int32) (x4 : Int32) (x5 : Int32) (x6 : Int32) (x7 : Int32) (s0 : Int32) : Option ((Int32 × Int32 × Int32 × Int32 × Int32) ⊕ Int32 × Int32) :=
  if s0 = 0 then
    (q_213_137 h q1 x2 x4 x5 x6 x7 s0)
  else
    (if x6 = 0 then
      (q_213_137 h q1 x2 x4 x5 x6 x7 s0)
    else
      (if (x2 &&& x5) = 0 then
        (q_213_137 h q1 (x2 ||| x5) 1 x5 x6 x7 s0)
      else
        (q_213_137 h q1 x2 x4 x5 x6 x7 s0)))
theorem q_213_122_ok {X : List Int32} {o : kO}  {h : Hp} {q1 : Nat} {s0 : Int32} {x2 : Int32} {x4 : Int32} {x5 : Int32} {x6 : Int32} {x7 : Int32} (t1 : w_tab[q1]? = some (50, (w_len q1), [])) {r : (Int32 × Int32 × Int32 × Int32 × Int32) ⊕ Int32 × Int32} (hF : q_213_122 h q1 x2 x4 x5 x6 x7 s0 = some r) (hK : ∀ s' : Int32 × Int32 × Int32 × Int32 × Int32, r = .inl s' → ∀ (u3 : Value) (u8 : Value), k_Go X 6 213 (105, [.ref (1076 + 1), .ref (q1 + 1), .int (s'.1), u3, .int (s'.2.1), .int (s'.2.2.1), .int (s'.2.2.2.1), .int (s'.2.2.2.2), u8], []) h o) (hX0 : ∀ e : Int32 × Int32, r = .inr e → ∀ (u3 : Value) (u5 : Value) (u6 : Value) (u7 : Value) (u8 : Value), k_Go X 6 213 (182, [.ref (1076 + 1), .ref (q1 + 1), .int e.1, u3, .int e.2, u5, u6, u7, u8], []) h o) : ∀ (u3 : Value) (u8 : Value), k_Go X 6 213 (122, [.ref (1076 + 1), .ref (q1 + 1), .int x2, u3, .int x4, .int x5, .int x6, .int x7, u8], [.int s0]) h o := by
  intro u3 u8
  unfold q_213_122 at hF
  refine kg_istore (L2 := [.ref (1076 + 1), .ref (q1 + 1), .int x2, u3, .int x4, .int x5, .int x6, .int x7, .int s0]) hk_213 rfl (Nat.le_of_ble_eq_true rfl) rfl rfl ?_
  refine kg_iload hk_213 rfl rfl rfl ?_
  refine wf_if hF (fun cz33 hF => ?_) (fun cz33 hF => ?_)
  · refine kg_ifT hk_213 rfl (jc_T0 cz33) ?_
    exact q_213_137_ok t1 hF hK hX0 _
  · refine kg_ifF hk_213 rfl (jc_F0 cz33) rfl ?_
    refine kg_iload hk_213 rfl rfl rfl ?_
    refine wf_if hF (fun cz46 hF => ?_) (fun cz46 hF => ?_)
    · refine kg_ifT hk_213 rfl (jc_T0 cz46) ?_
      exact q_213_137_ok t1 hF hK hX0 _
    · refine kg_ifF hk_213 rfl (jc_F0 cz46) rfl ?_
      refine kg_iload hk_213 rfl rfl rfl ?_
      refine kg_iload hk_213 rfl rfl rfl ?_
      refine kg_bin (z := (x2 &&& x5)) hk_213 rfl rfl rfl ?_
      refine wf_if hF (fun cz47 hF => ?_) (fun cz47 hF => ?_)
      · refine kg_ifF hk_213 rfl (jc_F1 cz47) rfl ?_
        refine kg_iload hk_213 rfl rfl rfl ?_
        refine kg_iload hk_213 rfl rfl rfl ?_
        refine kg_bin (z := (x2 ||| x5)) hk_213 rfl rfl rfl ?_
        refine kg_istore (L2 := [.ref (1076 + 1), .ref (q1 + 1), .int (x2 ||| x5), u3, .int x4, .int x5, .int x6, .int x7, .int s0]) hk_213 rfl (Nat.le_of_ble_eq_true rfl) rfl rfl ?_
        refine kg_push (x := 1) hk_213 rfl (by decide) rfl ?_
        refine kg_istore (L2 := [.ref (1076 + 1), .ref (q1 + 1), .int (x2 ||| x5), u3, .int 1, .int x5, .int x6, .int x7, .int s0]) hk_213 rfl (Nat.le_of_ble_eq_true rfl) rfl rfl ?_
        exact q_213_137_ok t1 hF hK hX0 _
      · refine kg_ifT hk_213 rfl (jc_T1 cz47) ?_
        exact q_213_137_ok t1 hF hK hX0 _
def l_213_105 (h : Hp) (q1 : Nat) (x2 : Int32) (x4 : Int32) (x5 : Int32) (x6 : Int32) (x7 : Int32) : Option ((Int32 × Int32 × Int32 × Int32 × Int32) ⊕ Int32 × Int32) :=
  if x7 ≤ (h 1076 66) then
    (w_gd ((if x7 = (h 1076 66) then true else w_ix x7 40)) <|
    q_213_122 h q1 x2 x4 x5 x6 x7 (if x7 = (h 1076 66) then 1 else (if (h 1127 x7.toNatClampNeg) = 59 then 1 else 0 : Int32) : Int32))
  else
    (some (.inr (x2, x4)))
theorem l_213_105_st {X : List Int32} {o : kO}  {h : Hp} {q1 : Nat} {x2 : Int32} {x4 : Int32} {x5 : Int32} {x6 : Int32} {x7 : Int32} (t1 : w_tab[q1]? = some (50, (w_len q1), [])) {r : (Int32 × Int32 × Int32 × Int32 × Int32) ⊕ Int32 × Int32} (hF : l_213_105 h q1 x2 x4 x5 x6 x7 = some r) (hK : ∀ s' : Int32 × Int32 × Int32 × Int32 × Int32, r = .inl s' → ∀ (u3 : Value) (u8 : Value), k_Go X 6 213 (105, [.ref (1076 + 1), .ref (q1 + 1), .int (s'.1), u3, .int (s'.2.1), .int (s'.2.2.1), .int (s'.2.2.2.1), .int (s'.2.2.2.2), u8], []) h o) (hX0 : ∀ e : Int32 × Int32, r = .inr e → ∀ (u3 : Value) (u5 : Value) (u6 : Value) (u7 : Value) (u8 : Value), k_Go X 6 213 (182, [.ref (1076 + 1), .ref (q1 + 1), .int e.1, u3, .int e.2, u5, u6, u7, u8], []) h o) : ∀ (u3 : Value) (u8 : Value), k_Go X 6 213 (105, [.ref (1076 + 1), .ref (q1 + 1), .int x2, u3, .int x4, .int x5, .int x6, .int x7, u8], []) h o := by
  intro u3 u8
  refine kg_iload hk_213 rfl rfl rfl ?_
  refine kg_aload hk_213 rfl rfl rfl ?_
  refine kg_get (v := .int (h 1076 66)) hk_213 rfl wk_1076_66 rfl rfl ?_
  refine wf_if hF (fun cz28 hF => ?_) (fun cz28 hF => ?_)
  · refine kg_icF hk_213 rfl (jc_F4 cz28) rfl ?_
    refine kg_iload hk_213 rfl rfl rfl ?_
    refine kg_aload hk_213 rfl rfl rfl ?_
    refine kg_get (v := .int (h 1076 66)) hk_213 rfl wk_1076_66 rfl rfl ?_
    refine wf_gd hF (fun gz32 hF => ?_)
    refine kv_mid (p := 122) (L := [.ref (1076 + 1), .ref (q1 + 1), .int x2, u3, .int x4, .int x5, .int x6, .int x7, u8]) (S := [.int (if x7 = (h 1076 66) then 1 else (if (h 1127 x7.toNatClampNeg) = 59 then 1 else 0 : Int32) : Int32)]) ?_ (fun hK => ?_)
    · exact q_213_122_ok t1 hF hK hX0 _ _
    · have hg := gz32
      by_cases cz29 : x7 = (h 1076 66)
      · have hK := kv_T cz29 hK
        refine kg_icT hk_213 rfl (jc_T0 cz29) ?_
        refine kg_push (x := 1) hk_213 rfl (by decide) rfl ?_
        refine kg_goto hk_213 rfl ?_
        exact hK
      · have hg := wv_F cz29 hg
        have hK := kv_F cz29 hK
        have gz30 := hg
        refine kg_icF hk_213 rfl (jc_F0 cz29) rfl ?_
        refine kg_aload hk_213 rfl rfl rfl ?_
        refine kg_get (v := .ref (1127 + 1)) hk_213 rfl wk_1076_65 rfl rfl ?_
        refine kg_iload hk_213 rfl rfl rfl ?_
        refine kg_ald (y := (h 1127 x7.toNatClampNeg)) hk_213 rfl wc_1127 gz30 rfl rfl ?_
        refine kg_push (x := 59) hk_213 rfl (by decide) rfl ?_
        by_cases cz31 : (h 1127 x7.toNatClampNeg) = 59
        · have hK := kv_T cz31 hK
          refine kg_icF hk_213 rfl (jc_F1 cz31) rfl ?_
          refine kg_push (x := 1) hk_213 rfl (by decide) rfl ?_
          refine kg_goto hk_213 rfl ?_
          exact hK
        · have hK := kv_F cz31 hK
          refine kg_icT hk_213 rfl (jc_T1 cz31) ?_
          refine kg_push (x := 0) hk_213 rfl (by decide) rfl ?_
          exact hK
  · refine kg_icT hk_213 rfl (jc_T4 cz28) ?_
    have hF := Option.some.inj hF
    exact hX0 _ hF.symm _ _ _ _ _
theorem l_213_105_ok {X : List Int32} {o : kO}  {h : Hp} {q1 : Nat} (t1 : w_tab[q1]? = some (50, (w_len q1), [])) {n : Nat} {s : Int32 × Int32 × Int32 × Int32 × Int32} {e : Int32 × Int32} (hF : w_lp (fun (s : Int32 × Int32 × Int32 × Int32 × Int32) => l_213_105 h q1 s.1 s.2.1 s.2.2.1 s.2.2.2.1 s.2.2.2.2) n s = some e) (hX0 : ∀ (u3 : Value) (u5 : Value) (u6 : Value) (u7 : Value) (u8 : Value), k_Go X 6 213 (182, [.ref (1076 + 1), .ref (q1 + 1), .int e.1, u3, .int e.2, u5, u6, u7, u8], []) h o) : ∀ (u3 : Value) (u8 : Value), k_Go X 6 213 (105, [.ref (1076 + 1), .ref (q1 + 1), .int s.1, u3, .int s.2.1, .int s.2.2.1, .int s.2.2.2.1, .int s.2.2.2.2, u8], []) h o := by
  exact w_lp_ok (P := (fun (s : Int32 × Int32 × Int32 × Int32 × Int32) => ∀ (u3 : Value) (u8 : Value), k_Go X 6 213 (105, [.ref (1076 + 1), .ref (q1 + 1), .int s.1, u3, .int s.2.1, .int s.2.2.1, .int s.2.2.2.1, .int s.2.2.2.2, u8], []) h o)) (Q := (fun (e : Int32 × Int32) => (∀ (u3 : Value) (u5 : Value) (u6 : Value) (u7 : Value) (u8 : Value), k_Go X 6 213 (182, [.ref (1076 + 1), .ref (q1 + 1), .int e.1, u3, .int e.2, u5, u6, u7, u8], []) h o))) (fun s r hF hK hX => l_213_105_st t1 hF hK (fun x hx => (hX _ hx))) n s e hF hX0
def l_213_95 (h : Hp) (q1 : Nat) (x2 : Int32) (x4 : Int32) : Option ((Int32 × Int32) ⊕ Int32) :=
  if x4 = 0 then
    (some (.inr x2))
  else
    ((w_lp (fun (s : Int32 × Int32 × Int32 × Int32 × Int32) => l_213_105 h q1 s.1 s.2.1 s.2.2.1 s.2.2.2.1 s.2.2.2.2) w_N (x2, 0, 0, 1, 0)).bind fun ez48 =>
    some (.inl (ez48.1, ez48.2)))
theorem l_213_95_st {X : List Int32} {o : kO}  {h : Hp} {q1 : Nat} {x2 : Int32} {x4 : Int32} (t1 : w_tab[q1]? = some (50, (w_len q1), [])) {r : (Int32 × Int32) ⊕ Int32} (hF : l_213_95 h q1 x2 x4 = some r) (hK : ∀ s' : Int32 × Int32, r = .inl s' → ∀ (u3 : Value) (u5 : Value) (u6 : Value) (u7 : Value) (u8 : Value), k_Go X 6 213 (95, [.ref (1076 + 1), .ref (q1 + 1), .int (s'.1), u3, .int (s'.2), u5, u6, u7, u8], []) h o) (hX0 : ∀ e : Int32, r = .inr e → ∀ (u3 : Value) (u4 : Value) (u5 : Value) (u6 : Value) (u7 : Value) (u8 : Value), k_Go X 6 213 (183, [.ref (1076 + 1), .ref (q1 + 1), .int e, u3, u4, u5, u6, u7, u8], []) h o) : ∀ (u3 : Value) (u5 : Value) (u6 : Value) (u7 : Value) (u8 : Value), k_Go X 6 213 (95, [.ref (1076 + 1), .ref (q1 + 1), .int x2, u3, .int x4, u5, u6, u7, u8], []) h o := by
  intro u3 u5 u6 u7 u8
  refine kg_iload hk_213 rfl rfl rfl ?_
  refine wf_if hF (fun cz27 hF => ?_) (fun cz27 hF => ?_)
  · refine kg_ifT hk_213 rfl (jc_T0 cz27) ?_
    have hF := Option.some.inj hF
    exact hX0 _ hF.symm _ _ _ _ _ _
  · refine kg_ifF hk_213 rfl (jc_F0 cz27) rfl ?_
    refine kg_push (x := 0) hk_213 rfl (by decide) rfl ?_
    refine kg_istore (L2 := [.ref (1076 + 1), .ref (q1 + 1), .int x2, u3, .int 0, u5, u6, u7, u8]) hk_213 rfl (Nat.le_of_ble_eq_true rfl) rfl rfl ?_
    refine kg_push (x := 0) hk_213 rfl (by decide) rfl ?_
    refine kg_istore (L2 := [.ref (1076 + 1), .ref (q1 + 1), .int x2, u3, .int 0, .int 0, u6, u7, u8]) hk_213 rfl (Nat.le_of_ble_eq_true rfl) rfl rfl ?_
    refine kg_push (x := 1) hk_213 rfl (by decide) rfl ?_
    refine kg_istore (L2 := [.ref (1076 + 1), .ref (q1 + 1), .int x2, u3, .int 0, .int 0, .int 1, u7, u8]) hk_213 rfl (Nat.le_of_ble_eq_true rfl) rfl rfl ?_
    refine kg_push (x := 0) hk_213 rfl (by decide) rfl ?_
    refine kg_istore (L2 := [.ref (1076 + 1), .ref (q1 + 1), .int x2, u3, .int 0, .int 0, .int 1, .int 0, u8]) hk_213 rfl (Nat.le_of_ble_eq_true rfl) rfl rfl ?_
    refine wf_bind hF (fun ez48 hez48 hF => ?_)
    refine l_213_105_ok t1 hez48 ?_ _ _
    intro u3 u5 u6 u7 u8
    refine kg_goto hk_213 rfl ?_
    have hF := Option.some.inj hF
    exact hK _ hF.symm _ _ _ _ _
theorem l_213_95_ok {X : List Int32} {o : kO}  {h : Hp} {q1 : Nat} (t1 : w_tab[q1]? = some (50, (w_len q1), [])) {n : Nat} {s : Int32 × Int32} {e : Int32} (hF : w_lp (fun (s : Int32 × Int32) => l_213_95 h q1 s.1 s.2) n s = some e) (hX0 : ∀ (u3 : Value) (u4 : Value) (u5 : Value) (u6 : Value) (u7 : Value) (u8 : Value), k_Go X 6 213 (183, [.ref (1076 + 1), .ref (q1 + 1), .int e, u3, u4, u5, u6, u7, u8], []) h o) : ∀ (u3 : Value) (u5 : Value) (u6 : Value) (u7 : Value) (u8 : Value), k_Go X 6 213 (95, [.ref (1076 + 1), .ref (q1 + 1), .int s.1, u3, .int s.2, u5, u6, u7, u8], []) h o := by
  exact w_lp_ok (P := (fun (s : Int32 × Int32) => ∀ (u3 : Value) (u5 : Value) (u6 : Value) (u7 : Value) (u8 : Value), k_Go X 6 213 (95, [.ref (1076 + 1), .ref (q1 + 1), .int s.1, u3, .int s.2, u5, u6, u7, u8], []) h o)) (Q := (fun (e : Int32) => (∀ (u3 : Value) (u4 : Value) (u5 : Value) (u6 : Value) (u7 : Value) (u8 : Value), k_Go X 6 213 (183, [.ref (1076 + 1), .ref (q1 + 1), .int e, u3, u4, u5, u6, u7, u8], []) h o))) (fun s r hF hK hX => l_213_95_st t1 hF hK (fun x hx => (hX _ hx))) n s e hF hX0
def l_213_187 (x2 : Int32) (x5 : Int32) (x6 : Int32) (h : Hp) : Option ((Int32 × Int32 × Hp) ⊕ Int32 × Hp) :=
  if x6 < 26 then
    (w_gd (w_ix (h 1076 77) 16) <|
    w_gd (w_ix (9 * x6) 234) <|
    w_let (w_up h 1131 ((9 * x6).toNatClampNeg) (-1)) fun hz53 =>
    w_gd (w_ix ((9 * x6) + 1) 234) <|
    w_let (w_up hz53 1131 (((9 * x6) + 1).toNatClampNeg) (((x2 >>> (x6 &&& 31)) &&& ((h 1083 (h 1076 77).toNatClampNeg) >>> (x6 &&& 31))) &&& 1)) fun hz55 =>
    some (.inl ((x5 + (((x2 >>> (x6 &&& 31)) &&& ((h 1083 (h 1076 77).toNatClampNeg) >>> (x6 &&& 31))) &&& 1)), (x6 + 1), hz55)))
  else
    (some (.inr (x5, h)))
theorem l_213_187_st {X : List Int32} {o : kO}  {h : Hp} {q1 : Nat} {x2 : Int32} {x5 : Int32} {x6 : Int32} (t1 : w_tab[q1]? = some (50, (w_len q1), [])) {r : (Int32 × Int32 × Hp) ⊕ Int32 × Hp} (hF : l_213_187 x2 x5 x6 h = some r) (hK : ∀ s' : Int32 × Int32 × Hp, r = .inl s' → ∀ (u3 : Value) (u4 : Value) (u7 : Value) (u8 : Value), k_Go X 6 213 (187, [.ref (1076 + 1), .ref (q1 + 1), .int x2, u3, u4, .int (s'.1), .int (s'.2.1), u7, u8], []) s'.2.2 o) (hX0 : ∀ e : Int32 × Hp, r = .inr e → ∀ (u2 : Value) (u3 : Value) (u4 : Value) (u6 : Value) (u7 : Value) (u8 : Value), k_Go X 6 213 (226, [.ref (1076 + 1), .ref (q1 + 1), u2, u3, u4, .int e.1, u6, u7, u8], []) e.2 o) : ∀ (u3 : Value) (u4 : Value) (u7 : Value) (u8 : Value), k_Go X 6 213 (187, [.ref (1076 + 1), .ref (q1 + 1), .int x2, u3, u4, .int x5, .int x6, u7, u8], []) h o := by
  intro u3 u4 u7 u8
  refine kg_iload hk_213 rfl rfl rfl ?_
  refine kg_push (x := 26) hk_213 rfl (by decide) rfl ?_
  refine wf_if hF (fun cz50 hF => ?_) (fun cz50 hF => ?_)
  · refine kg_icF hk_213 rfl (jc_F3 cz50) rfl ?_
    refine kg_iload hk_213 rfl rfl rfl ?_
    refine kg_iload hk_213 rfl rfl rfl ?_
    refine kg_bin (z := (x2 >>> (x6 &&& 31))) hk_213 rfl rfl rfl ?_
    refine kg_aload hk_213 rfl rfl rfl ?_
    refine kg_get (v := .ref (1083 + 1)) hk_213 rfl wk_1076_7 rfl rfl ?_
    refine kg_aload hk_213 rfl rfl rfl ?_
    refine kg_get (v := .int (h 1076 77)) hk_213 rfl wk_1076_77 rfl rfl ?_
    refine wf_gd hF (fun gz51 hF => ?_)
    refine kg_ald (y := (h 1083 (h 1076 77).toNatClampNeg)) hk_213 rfl wc_1083 gz51 rfl rfl ?_
    refine kg_iload hk_213 rfl rfl rfl ?_
    refine kg_bin (z := ((h 1083 (h 1076 77).toNatClampNeg) >>> (x6 &&& 31))) hk_213 rfl rfl rfl ?_
    refine kg_bin (z := ((x2 >>> (x6 &&& 31)) &&& ((h 1083 (h 1076 77).toNatClampNeg) >>> (x6 &&& 31)))) hk_213 rfl rfl rfl ?_
    refine kg_push (x := 1) hk_213 rfl (by decide) rfl ?_
    refine kg_bin (z := (((x2 >>> (x6 &&& 31)) &&& ((h 1083 (h 1076 77).toNatClampNeg) >>> (x6 &&& 31))) &&& 1)) hk_213 rfl rfl rfl ?_
    refine kg_istore (L2 := [.ref (1076 + 1), .ref (q1 + 1), .int x2, u3, u4, .int x5, .int x6, .int (((x2 >>> (x6 &&& 31)) &&& ((h 1083 (h 1076 77).toNatClampNeg) >>> (x6 &&& 31))) &&& 1), u8]) hk_213 rfl (Nat.le_of_ble_eq_true rfl) rfl rfl ?_
    refine kg_iload hk_213 rfl rfl rfl ?_
    refine kg_iload hk_213 rfl rfl rfl ?_
    refine kg_bin (z := (x5 + (((x2 >>> (x6 &&& 31)) &&& ((h 1083 (h 1076 77).toNatClampNeg) >>> (x6 &&& 31))) &&& 1))) hk_213 rfl rfl rfl ?_
    refine kg_istore (L2 := [.ref (1076 + 1), .ref (q1 + 1), .int x2, u3, u4, .int (x5 + (((x2 >>> (x6 &&& 31)) &&& ((h 1083 (h 1076 77).toNatClampNeg) >>> (x6 &&& 31))) &&& 1)), .int x6, .int (((x2 >>> (x6 &&& 31)) &&& ((h 1083 (h 1076 77).toNatClampNeg) >>> (x6 &&& 31))) &&& 1), u8]) hk_213 rfl (Nat.le_of_ble_eq_true rfl) rfl rfl ?_
    refine kg_aload hk_213 rfl rfl rfl ?_
    refine kg_get (v := .ref (1131 + 1)) hk_213 rfl wk_1076_73 rfl rfl ?_
    refine kg_push (x := 9) hk_213 rfl (by decide) rfl ?_
    refine kg_iload hk_213 rfl rfl rfl ?_
    refine kg_bin (z := (9 * x6)) hk_213 rfl rfl rfl ?_
    refine kg_push (x := (-1)) hk_213 rfl (by decide) rfl ?_
    refine wf_gd hF (fun gz52 hF => ?_)
    refine wf_let hF (fun hz53 hhz53 hF => ?_)
    refine kg_ast hk_213 rfl wc_1131 gz52 hhz53 rfl ?_
    refine kg_aload hk_213 rfl rfl rfl ?_
    refine kg_get (v := .ref (1131 + 1)) hk_213 rfl wk_1076_73 rfl rfl ?_
    refine kg_push (x := 9) hk_213 rfl (by decide) rfl ?_
    refine kg_iload hk_213 rfl rfl rfl ?_
    refine kg_bin (z := (9 * x6)) hk_213 rfl rfl rfl ?_
    refine kg_push (x := 1) hk_213 rfl (by decide) rfl ?_
    refine kg_bin (z := ((9 * x6) + 1)) hk_213 rfl rfl rfl ?_
    refine kg_iload hk_213 rfl rfl rfl ?_
    refine wf_gd hF (fun gz54 hF => ?_)
    refine wf_let hF (fun hz55 hhz55 hF => ?_)
    refine kg_ast hk_213 rfl wc_1131 gz54 hhz55 rfl ?_
    refine kg_iinc (y := (x6 + 1)) (L2 := [.ref (1076 + 1), .ref (q1 + 1), .int x2, u3, u4, .int (x5 + (((x2 >>> (x6 &&& 31)) &&& ((h 1083 (h 1076 77).toNatClampNeg) >>> (x6 &&& 31))) &&& 1)), .int (x6 + 1), .int (((x2 >>> (x6 &&& 31)) &&& ((h 1083 (h 1076 77).toNatClampNeg) >>> (x6 &&& 31))) &&& 1), u8]) hk_213 rfl rfl rfl rfl rfl ?_
    refine kg_goto hk_213 rfl ?_
    have hF := Option.some.inj hF
    exact hK _ hF.symm _ _ _ _
  · refine kg_icT hk_213 rfl (jc_T3 cz50) ?_
    have hF := Option.some.inj hF
    exact hX0 _ hF.symm _ _ _ _ _ _
theorem l_213_187_ok {X : List Int32} {o : kO}  {q1 : Nat} {x2 : Int32} (t1 : w_tab[q1]? = some (50, (w_len q1), [])) {n : Nat} {s : Int32 × Int32 × Hp} {e : Int32 × Hp} (hF : w_lp (fun (s : Int32 × Int32 × Hp) => l_213_187 x2 s.1 s.2.1 s.2.2) n s = some e) (hX0 : ∀ (u2 : Value) (u3 : Value) (u4 : Value) (u6 : Value) (u7 : Value) (u8 : Value), k_Go X 6 213 (226, [.ref (1076 + 1), .ref (q1 + 1), u2, u3, u4, .int e.1, u6, u7, u8], []) e.2 o) : ∀ (u3 : Value) (u4 : Value) (u7 : Value) (u8 : Value), k_Go X 6 213 (187, [.ref (1076 + 1), .ref (q1 + 1), .int x2, u3, u4, .int s.1, .int s.2.1, u7, u8], []) s.2.2 o := by
  exact w_lp_ok (P := (fun (s : Int32 × Int32 × Hp) => ∀ (u3 : Value) (u4 : Value) (u7 : Value) (u8 : Value), k_Go X 6 213 (187, [.ref (1076 + 1), .ref (q1 + 1), .int x2, u3, u4, .int s.1, .int s.2.1, u7, u8], []) s.2.2 o)) (Q := (fun (e : Int32 × Hp) => (∀ (u2 : Value) (u3 : Value) (u4 : Value) (u6 : Value) (u7 : Value) (u8 : Value), k_Go X 6 213 (226, [.ref (1076 + 1), .ref (q1 + 1), u2, u3, u4, .int e.1, u6, u7, u8], []) e.2 o))) (fun s r hF hK hX => l_213_187_st t1 hF hK (fun x hx => (hX _ hx))) n s e hF hX0
def q_213_94 (h : Hp) (q1 : Nat) (x2 : Int32) (s0 : Int32) : Option (Hp) :=
  (w_lp (fun (s : Int32 × Int32) => l_213_95 h q1 s.1 s.2) w_N (x2, s0)).bind fun ez49 =>
  (w_lp (fun (s : Int32 × Int32 × Hp) => l_213_187 ez49 s.1 s.2.1 s.2.2) w_N (0, 0, h)).bind fun ez56 =>
  w_gd (w_ix (9 * (ez56.2 1076 77)) (w_len q1)) <|
  w_let (w_up ez56.2 q1 ((9 * (ez56.2 1076 77)).toNatClampNeg) (-1)) fun hz58 =>
  w_gd (w_ix ((9 * (hz58 1076 77)) + 1) (w_len q1)) <|
  w_let (w_up hz58 q1 (((9 * (hz58 1076 77)) + 1).toNatClampNeg) ez56.1) fun hz60 =>
  some hz60
theorem q_213_94_ok {X : List Int32}   {h : Hp} {q1 : Nat} {s0 : Int32} {x2 : Int32} (t1 : w_tab[q1]? = some (50, (w_len q1), [])) {r : Hp} (hF : q_213_94 h q1 x2 s0 = some r)  : ∀ (u3 : Value) (u4 : Value) (u5 : Value) (u6 : Value) (u7 : Value) (u8 : Value), k_Go X 6 213 (94, [.ref (1076 + 1), .ref (q1 + 1), .int x2, u3, u4, u5, u6, u7, u8], [.int s0]) h (.inl none, r) := by
  intro u3 u4 u5 u6 u7 u8
  unfold q_213_94 at hF
  refine kg_istore (L2 := [.ref (1076 + 1), .ref (q1 + 1), .int x2, u3, .int s0, u5, u6, u7, u8]) hk_213 rfl (Nat.le_of_ble_eq_true rfl) rfl rfl ?_
  refine wf_bind hF (fun ez49 hez49 hF => ?_)
  refine l_213_95_ok t1 hez49 ?_ _ _ _ _ _
  intro u3 u4 u5 u6 u7 u8
  refine kg_push (x := 0) hk_213 rfl (by decide) rfl ?_
  refine kg_istore (L2 := [.ref (1076 + 1), .ref (q1 + 1), .int ez49, u3, u4, .int 0, u6, u7, u8]) hk_213 rfl (Nat.le_of_ble_eq_true rfl) rfl rfl ?_
  refine kg_push (x := 0) hk_213 rfl (by decide) rfl ?_
  refine kg_istore (L2 := [.ref (1076 + 1), .ref (q1 + 1), .int ez49, u3, u4, .int 0, .int 0, u7, u8]) hk_213 rfl (Nat.le_of_ble_eq_true rfl) rfl rfl ?_
  refine wf_bind hF (fun ez56 hez56 hF => ?_)
  refine l_213_187_ok t1 hez56 ?_ _ _ _ _
  intro u2 u3 u4 u6 u7 u8
  refine kg_aload hk_213 rfl rfl rfl ?_
  refine kg_push (x := 9) hk_213 rfl (by decide) rfl ?_
  refine kg_aload hk_213 rfl rfl rfl ?_
  refine kg_get (v := .int (ez56.2 1076 77)) hk_213 rfl wk_1076_77 rfl rfl ?_
  refine kg_bin (z := (9 * (ez56.2 1076 77))) hk_213 rfl rfl rfl ?_
  refine kg_push (x := (-1)) hk_213 rfl (by decide) rfl ?_
  refine wf_gd hF (fun gz57 hF => ?_)
  refine wf_let hF (fun hz58 hhz58 hF => ?_)
  refine kg_ast hk_213 rfl t1 gz57 hhz58 rfl ?_
  refine kg_aload hk_213 rfl rfl rfl ?_
  refine kg_push (x := 9) hk_213 rfl (by decide) rfl ?_
  refine kg_aload hk_213 rfl rfl rfl ?_
  refine kg_get (v := .int (hz58 1076 77)) hk_213 rfl wk_1076_77 rfl rfl ?_
  refine kg_bin (z := (9 * (hz58 1076 77))) hk_213 rfl rfl rfl ?_
  refine kg_push (x := 1) hk_213 rfl (by decide) rfl ?_
  refine kg_bin (z := ((9 * (hz58 1076 77)) + 1)) hk_213 rfl rfl rfl ?_
  refine kg_iload hk_213 rfl rfl rfl ?_
  refine wf_gd hF (fun gz59 hF => ?_)
  refine wf_let hF (fun hz60 hhz60 hF => ?_)
  refine kg_ast hk_213 rfl t1 gz59 hhz60 rfl ?_
  have hF := Option.some.inj hF
  subst hF
  exact kg_ret hk_213 rfl rfl
def q_213_88 (h : Hp) (q1 : Nat) (x2 : Int32) : Option (Hp) :=
  q_213_94 h q1 x2 (if (h 1076 75) = 0 then 1 else 0 : Int32)
theorem q_213_88_ok {X : List Int32}   {h : Hp} {q1 : Nat} {x2 : Int32} (t1 : w_tab[q1]? = some (50, (w_len q1), [])) {r : Hp} (hF : q_213_88 h q1 x2 = some r)  : ∀ (u3 : Value) (u4 : Value) (u5 : Value) (u6 : Value) (u7 : Value) (u8 : Value), k_Go X 6 213 (88, [.ref (1076 + 1), .ref (q1 + 1), .int x2, u3, u4, u5, u6, u7, u8], []) h (.inl none, r) := by
  intro u3 u4 u5 u6 u7 u8
  unfold q_213_88 at hF
  refine kg_aload hk_213 rfl rfl rfl ?_
  refine kg_get (v := .int (h 1076 75)) hk_213 rfl wk_1076_75 rfl rfl ?_
  refine kv_mid (p := 94) (L := [.ref (1076 + 1), .ref (q1 + 1), .int x2, u3, u4, u5, u6, u7, u8]) (S := [.int (if (h 1076 75) = 0 then 1 else 0 : Int32)]) ?_ (fun hK => ?_)
  · exact q_213_94_ok t1 hF _ _ _ _ _ _
  · by_cases cz26 : (h 1076 75) = 0
    · have hK := kv_T cz26 hK
      refine kg_ifF hk_213 rfl (jc_F1 cz26) rfl ?_
      refine kg_push (x := 1) hk_213 rfl (by decide) rfl ?_
      refine kg_goto hk_213 rfl ?_
      exact hK
    · have hK := kv_F cz26 hK
      refine kg_ifT hk_213 rfl (jc_T1 cz26) ?_
      refine kg_push (x := 0) hk_213 rfl (by decide) rfl ?_
      exact hK
def p_213 (h : Hp) (q1 : Nat) : Option (Hp) :=
  (w_lp (fun (s : Int32 × Int32 × Int32 × Hp) => l_213_6 q1 s.1 s.2.1 s.2.2.1 s.2.2.2) w_N (0, 0, 0, h)).bind fun ez25 =>
  q_213_88 ez25.2 q1 ez25.1
theorem p_213_ok {X : List Int32}  {h : Hp} {q1 : Nat} (t1 : w_tab[q1]? = some (50, w_len q1, [])) {r : Hp} (hF : p_213 h q1 = some r) : k_Ev X 6 213 [.ref (1076 + 1), .ref (q1 + 1)] h (.inl none, r) := by
  refine k_of hk_213 ?_
  show k_Go X 6 213 (0, [.ref (1076 + 1), .ref (q1 + 1), (.retAddr 0), (.retAddr 0), (.retAddr 0), (.retAddr 0), (.retAddr 0), (.retAddr 0), (.retAddr 0)], []) h _
  unfold p_213 at hF
  refine kg_push (x := 0) hk_213 rfl (by decide) rfl ?_
  refine kg_istore (L2 := [.ref (1076 + 1), .ref (q1 + 1), .int 0, (.retAddr 0), (.retAddr 0), (.retAddr 0), (.retAddr 0), (.retAddr 0), (.retAddr 0)]) hk_213 rfl (Nat.le_of_ble_eq_true rfl) rfl rfl ?_
  refine kg_push (x := 0) hk_213 rfl (by decide) rfl ?_
  refine kg_istore (L2 := [.ref (1076 + 1), .ref (q1 + 1), .int 0, .int 0, (.retAddr 0), (.retAddr 0), (.retAddr 0), (.retAddr 0), (.retAddr 0)]) hk_213 rfl (Nat.le_of_ble_eq_true rfl) rfl rfl ?_
  refine kg_push (x := 0) hk_213 rfl (by decide) rfl ?_
  refine kg_istore (L2 := [.ref (1076 + 1), .ref (q1 + 1), .int 0, .int 0, .int 0, (.retAddr 0), (.retAddr 0), (.retAddr 0), (.retAddr 0)]) hk_213 rfl (Nat.le_of_ble_eq_true rfl) rfl rfl ?_
  refine wf_bind hF (fun ez25 hez25 hF => ?_)
  refine l_213_6_ok t1 hez25 ?_ _ _ _ _
  intro u3 u4 u5 u6 u7 u8
  exact q_213_88_ok t1 hF _ _ _ _ _ _
-- NotebookWeirModel.evaluates(II[I[I)Z
theorem hk_216 : jP[216]? = some (jc_216, 8, [], []) := by rfl
def l_216_34 (x1 : Int32) (x5 : Int32) (h : Hp) : Option ((Int32 × Hp) ⊕ Hp) :=
  if x5 < (h 1076 28) then
    (w_gd (w_ix ((40 * x1) + x5) 640) <|
    w_gd (w_ix x5 40) <|
    w_let (w_up h 1099 x5.toNatClampNeg (h 1095 ((40 * x1) + x5).toNatClampNeg)) fun hz9 =>
    some (.inl ((x5 + 1), hz9)))
  else
    (some (.inr h))
theorem l_216_34_st {X : List Int32} {o : kO}  {h : Hp} {q3 : Nat} {q4 : Nat} {x1 : Int32} {x5 : Int32} (t3 : w_tab[q3]? = some (50, (w_len q3), [])) (t4 : w_tab[q4]? = some (50, (w_len q4), [])) {r : (Int32 × Hp) ⊕ Hp} (hF : l_216_34 x1 x5 h = some r) (hK : ∀ s' : Int32 × Hp, r = .inl s' → ∀ (u2 : Value) (u6 : Value) (u7 : Value), k_Go X 9 216 (34, [.ref (1076 + 1), .int x1, u2, .ref (q3 + 1), .ref (q4 + 1), .int (s'.1), u6, u7], []) s'.2 o) (hX0 : ∀ e : Hp, r = .inr e → ∀ (u2 : Value) (u5 : Value) (u6 : Value) (u7 : Value), k_Go X 9 216 (52, [.ref (1076 + 1), .int x1, u2, .ref (q3 + 1), .ref (q4 + 1), u5, u6, u7], []) e o) : ∀ (u2 : Value) (u6 : Value) (u7 : Value), k_Go X 9 216 (34, [.ref (1076 + 1), .int x1, u2, .ref (q3 + 1), .ref (q4 + 1), .int x5, u6, u7], []) h o := by
  intro u2 u6 u7
  refine kg_iload hk_216 rfl rfl rfl ?_
  refine kg_aload hk_216 rfl rfl rfl ?_
  refine kg_get (v := .int (h 1076 28)) hk_216 rfl wk_1076_28 rfl rfl ?_
  refine wf_if hF (fun cz6 hF => ?_) (fun cz6 hF => ?_)
  · refine kg_icF hk_216 rfl (jc_F3 cz6) rfl ?_
    refine kg_aload hk_216 rfl rfl rfl ?_
    refine kg_get (v := .ref (1099 + 1)) hk_216 rfl wk_1076_27 rfl rfl ?_
    refine kg_iload hk_216 rfl rfl rfl ?_
    refine kg_aload hk_216 rfl rfl rfl ?_
    refine kg_get (v := .ref (1095 + 1)) hk_216 rfl wk_1076_23 rfl rfl ?_
    refine kg_push (x := 40) hk_216 rfl (by decide) rfl ?_
    refine kg_iload hk_216 rfl rfl rfl ?_
    refine kg_bin (z := (40 * x1)) hk_216 rfl rfl rfl ?_
    refine kg_iload hk_216 rfl rfl rfl ?_
    refine kg_bin (z := ((40 * x1) + x5)) hk_216 rfl rfl rfl ?_
    refine wf_gd hF (fun gz7 hF => ?_)
    refine kg_ald (y := (h 1095 ((40 * x1) + x5).toNatClampNeg)) hk_216 rfl wc_1095 gz7 rfl rfl ?_
    refine wf_gd hF (fun gz8 hF => ?_)
    refine wf_let hF (fun hz9 hhz9 hF => ?_)
    refine kg_ast hk_216 rfl wc_1099 gz8 hhz9 rfl ?_
    refine kg_iinc (y := (x5 + 1)) (L2 := [.ref (1076 + 1), .int x1, u2, .ref (q3 + 1), .ref (q4 + 1), .int (x5 + 1), u6, u7]) hk_216 rfl rfl rfl rfl rfl ?_
    refine kg_goto hk_216 rfl ?_
    have hF := Option.some.inj hF
    exact hK _ hF.symm _ _ _
  · refine kg_icT hk_216 rfl (jc_T3 cz6) ?_
    have hF := Option.some.inj hF
    exact hX0 _ hF.symm _ _ _ _
theorem l_216_34_ok {X : List Int32} {o : kO}  {q3 : Nat} {q4 : Nat} {x1 : Int32} (t3 : w_tab[q3]? = some (50, (w_len q3), [])) (t4 : w_tab[q4]? = some (50, (w_len q4), [])) {n : Nat} {s : Int32 × Hp} {e : Hp} (hF : w_lp (fun (s : Int32 × Hp) => l_216_34 x1 s.1 s.2) n s = some e) (hX0 : ∀ (u2 : Value) (u5 : Value) (u6 : Value) (u7 : Value), k_Go X 9 216 (52, [.ref (1076 + 1), .int x1, u2, .ref (q3 + 1), .ref (q4 + 1), u5, u6, u7], []) e o) : ∀ (u2 : Value) (u6 : Value) (u7 : Value), k_Go X 9 216 (34, [.ref (1076 + 1), .int x1, u2, .ref (q3 + 1), .ref (q4 + 1), .int s.1, u6, u7], []) s.2 o := by
  exact w_lp_ok (P := (fun (s : Int32 × Hp) => ∀ (u2 : Value) (u6 : Value) (u7 : Value), k_Go X 9 216 (34, [.ref (1076 + 1), .int x1, u2, .ref (q3 + 1), .ref (q4 + 1), .int s.1, u6, u7], []) s.2 o)) (Q := (fun (e : Hp) => (∀ (u2 : Value) (u5 : Value) (u6 : Value) (u7 : Value), k_Go X 9 216 (52, [.ref (1076 + 1), .int x1, u2, .ref (q3 + 1), .ref (q4 + 1), u5, u6, u7], []) e o))) (fun s r hF hK hX => l_216_34_st t3 t4 hF hK (fun x hx => (hX _ hx))) n s e hF hX0
def l_216_105 (x1 : Int32) (q3 : Nat) (x5 : Int32) (x6 : Int32) (h : Hp) : Option ((Int32 × Hp) ⊕ Hp) :=
  if x6 < 26 then
    (w_gd (w_ix ((234 * x1) + (9 * x6)) (w_len q3)) <|
    w_let (w_up h q3 (((234 * x1) + (9 * x6)).toNatClampNeg) (-2)) fun hz24 =>
    if (hz24 1076 75) = 0 then
      (if ((x5 >>> (x6 &&& 31)) &&& 1) = 1 then
        ((p_193 hz24 1131 (9 * x6) q3 ((234 * x1) + (9 * x6))).bind fun vz27 =>
        some (.inl ((x6 + 1), vz27)))
      else
        (some (.inl ((x6 + 1), hz24))))
    else
      (some (.inl ((x6 + 1), hz24))))
  else
    (some (.inr h))
theorem l_216_105_st {X : List Int32} {o : kO}  {h : Hp} {q3 : Nat} {x1 : Int32} {x5 : Int32} {x6 : Int32} (t3 : w_tab[q3]? = some (50, (w_len q3), [])) {r : (Int32 × Hp) ⊕ Hp} (hF : l_216_105 x1 q3 x5 x6 h = some r) (hK : ∀ s' : Int32 × Hp, r = .inl s' → ∀ (u2 : Value) (u4 : Value) (u7 : Value), k_Go X 9 216 (105, [.ref (1076 + 1), .int x1, u2, .ref (q3 + 1), u4, .int x5, .int (s'.1), u7], []) s'.2 o) (hX0 : ∀ e : Hp, r = .inr e → ∀ (u1 : Value) (u2 : Value) (u3 : Value) (u4 : Value) (u5 : Value) (u6 : Value) (u7 : Value), k_Go X 9 216 (141, [.ref (1076 + 1), u1, u2, u3, u4, u5, u6, u7], []) e o) : ∀ (u2 : Value) (u4 : Value) (u7 : Value), k_Go X 9 216 (105, [.ref (1076 + 1), .int x1, u2, .ref (q3 + 1), u4, .int x5, .int x6, u7], []) h o := by
  intro u2 u4 u7
  refine kg_iload hk_216 rfl rfl rfl ?_
  refine kg_push (x := 26) hk_216 rfl (by decide) rfl ?_
  refine wf_if hF (fun cz22 hF => ?_) (fun cz22 hF => ?_)
  · refine kg_icF hk_216 rfl (jc_F3 cz22) rfl ?_
    refine kg_push (x := 234) hk_216 rfl (by decide) rfl ?_
    refine kg_iload hk_216 rfl rfl rfl ?_
    refine kg_bin (z := (234 * x1)) hk_216 rfl rfl rfl ?_
    refine kg_push (x := 9) hk_216 rfl (by decide) rfl ?_
    refine kg_iload hk_216 rfl rfl rfl ?_
    refine kg_bin (z := (9 * x6)) hk_216 rfl rfl rfl ?_
    refine kg_bin (z := ((234 * x1) + (9 * x6))) hk_216 rfl rfl rfl ?_
    refine kg_istore (L2 := [.ref (1076 + 1), .int x1, u2, .ref (q3 + 1), u4, .int x5, .int x6, .int ((234 * x1) + (9 * x6))]) hk_216 rfl (Nat.le_of_ble_eq_true rfl) rfl rfl ?_
    refine kg_aload hk_216 rfl rfl rfl ?_
    refine kg_iload hk_216 rfl rfl rfl ?_
    refine kg_push (x := (-2)) hk_216 rfl (by decide) rfl ?_
    refine wf_gd hF (fun gz23 hF => ?_)
    refine wf_let hF (fun hz24 hhz24 hF => ?_)
    refine kg_ast hk_216 rfl t3 gz23 hhz24 rfl ?_
    refine kg_aload hk_216 rfl rfl rfl ?_
    refine kg_get (v := .int (hz24 1076 75)) hk_216 rfl wk_1076_75 rfl rfl ?_
    refine wf_if hF (fun cz25 hF => ?_) (fun cz25 hF => ?_)
    · refine kg_ifF hk_216 rfl (jc_F1 cz25) rfl ?_
      refine kg_iload hk_216 rfl rfl rfl ?_
      refine kg_iload hk_216 rfl rfl rfl ?_
      refine kg_bin (z := (x5 >>> (x6 &&& 31))) hk_216 rfl rfl rfl ?_
      refine kg_push (x := 1) hk_216 rfl (by decide) rfl ?_
      refine kg_bin (z := ((x5 >>> (x6 &&& 31)) &&& 1)) hk_216 rfl rfl rfl ?_
      refine kg_push (x := 1) hk_216 rfl (by decide) rfl ?_
      refine wf_if hF (fun cz26 hF => ?_) (fun cz26 hF => ?_)
      · refine kg_icF hk_216 rfl (jc_F1 cz26) rfl ?_
        refine kg_aload hk_216 rfl rfl rfl ?_
        refine kg_aload hk_216 rfl rfl rfl ?_
        refine kg_get (v := .ref (1131 + 1)) hk_216 rfl wk_1076_73 rfl rfl ?_
        refine kg_push (x := 9) hk_216 rfl (by decide) rfl ?_
        refine kg_iload hk_216 rfl rfl rfl ?_
        refine kg_bin (z := (9 * x6)) hk_216 rfl rfl rfl ?_
        refine kg_aload hk_216 rfl rfl rfl ?_
        refine kg_iload hk_216 rfl rfl rfl ?_
        refine wf_bind hF (fun vz27 hvz27 hF => ?_)
        refine kg_call (as := [.ref (1076 + 1), .ref (1131 + 1), .int (9 * x6), .ref (q3 + 1), .int ((234 * x1) + (9 * x6))]) (rest := []) hk_216 rfl (Or.inr (Or.inr (Or.inr ⟨Or.inl rfl, _, _, rfl, wc_1076⟩))) rfl rfl rfl (Nat.not_lt.mpr (Nat.le_of_ble_eq_true rfl)) (p_193_ok (w_lenE wc_1131) (w_lenE t3) hvz27) (by decide) rfl ?_
        refine kg_iinc (y := (x6 + 1)) (L2 := [.ref (1076 + 1), .int x1, u2, .ref (q3 + 1), u4, .int x5, .int (x6 + 1), .int ((234 * x1) + (9 * x6))]) hk_216 rfl rfl rfl rfl rfl ?_
        refine kg_goto hk_216 rfl ?_
        have hF := Option.some.inj hF
        exact hK _ hF.symm _ _ _
      · refine kg_icT hk_216 rfl (jc_T1 cz26) ?_
        refine kg_iinc (y := (x6 + 1)) (L2 := [.ref (1076 + 1), .int x1, u2, .ref (q3 + 1), u4, .int x5, .int (x6 + 1), .int ((234 * x1) + (9 * x6))]) hk_216 rfl rfl rfl rfl rfl ?_
        refine kg_goto hk_216 rfl ?_
        have hF := Option.some.inj hF
        exact hK _ hF.symm _ _ _
    · refine kg_ifT hk_216 rfl (jc_T1 cz25) ?_
      refine kg_iinc (y := (x6 + 1)) (L2 := [.ref (1076 + 1), .int x1, u2, .ref (q3 + 1), u4, .int x5, .int (x6 + 1), .int ((234 * x1) + (9 * x6))]) hk_216 rfl rfl rfl rfl rfl ?_
      refine kg_goto hk_216 rfl ?_
      have hF := Option.some.inj hF
      exact hK _ hF.symm _ _ _
  · refine kg_icT hk_216 rfl (jc_T3 cz22) ?_
    have hF := Option.some.inj hF
    exact hX0 _ hF.symm _ _ _ _ _ _ _
theorem l_216_105_ok {X : List Int32} {o : kO}  {q3 : Nat} {x1 : Int32} {x5 : Int32} (t3 : w_tab[q3]? = some (50, (w_len q3), [])) {n : Nat} {s : Int32 × Hp} {e : Hp} (hF : w_lp (fun (s : Int32 × Hp) => l_216_105 x1 q3 x5 s.1 s.2) n s = some e) (hX0 : ∀ (u1 : Value) (u2 : Value) (u3 : Value) (u4 : Value) (u5 : Value) (u6 : Value) (u7 : Value), k_Go X 9 216 (141, [.ref (1076 + 1), u1, u2, u3, u4, u5, u6, u7], []) e o) : ∀ (u2 : Value) (u4 : Value) (u7 : Value), k_Go X 9 216 (105, [.ref (1076 + 1), .int x1, u2, .ref (q3 + 1), u4, .int x5, .int s.1, u7], []) s.2 o := by
  exact w_lp_ok (P := (fun (s : Int32 × Hp) => ∀ (u2 : Value) (u4 : Value) (u7 : Value), k_Go X 9 216 (105, [.ref (1076 + 1), .int x1, u2, .ref (q3 + 1), u4, .int x5, .int s.1, u7], []) s.2 o)) (Q := (fun (e : Hp) => (∀ (u1 : Value) (u2 : Value) (u3 : Value) (u4 : Value) (u5 : Value) (u6 : Value) (u7 : Value), k_Go X 9 216 (141, [.ref (1076 + 1), u1, u2, u3, u4, u5, u6, u7], []) e o))) (fun s r hF hK hX => l_216_105_st t3 hF hK (fun x hx => (hX _ hx))) n s e hF hX0
def q_216_93 (h : Hp) (x1 : Int32) (q3 : Nat) : Option (Int32 × Hp) :=
  w_gd (w_ix x1 16) <|
  w_gd (w_ix x1 16) <|
  (w_lp (fun (s : Int32 × Hp) => l_216_105 x1 q3 ((h 1083 x1.toNatClampNeg) ||| (h 1084 x1.toNatClampNeg)) s.1 s.2) w_N (0, h)).bind fun ez28 =>
  w_let (w_up ez28 1076 29 0) fun hz29 =>
  some ((if (hz29 1076 75) = 0 then 1 else 0 : Int32), hz29)
theorem q_216_93_ok {X : List Int32}   {h : Hp} {q3 : Nat} {x1 : Int32} (t3 : w_tab[q3]? = some (50, (w_len q3), [])) {r : Int32 × Hp} (hF : q_216_93 h x1 q3 = some r)  : ∀ (u2 : Value) (u4 : Value) (u5 : Value) (u6 : Value) (u7 : Value), k_Go X 9 216 (93, [.ref (1076 + 1), .int x1, u2, .ref (q3 + 1), u4, u5, u6, u7], []) h (.inl (some (.int r.1)), r.2) := by
  intro u2 u4 u5 u6 u7
  unfold q_216_93 at hF
  refine kg_aload hk_216 rfl rfl rfl ?_
  refine kg_get (v := .ref (1083 + 1)) hk_216 rfl wk_1076_7 rfl rfl ?_
  refine kg_iload hk_216 rfl rfl rfl ?_
  refine wf_gd hF (fun gz20 hF => ?_)
  refine kg_ald (y := (h 1083 x1.toNatClampNeg)) hk_216 rfl wc_1083 gz20 rfl rfl ?_
  refine kg_aload hk_216 rfl rfl rfl ?_
  refine kg_get (v := .ref (1084 + 1)) hk_216 rfl wk_1076_8 rfl rfl ?_
  refine kg_iload hk_216 rfl rfl rfl ?_
  refine wf_gd hF (fun gz21 hF => ?_)
  refine kg_ald (y := (h 1084 x1.toNatClampNeg)) hk_216 rfl wc_1084 gz21 rfl rfl ?_
  refine kg_bin (z := ((h 1083 x1.toNatClampNeg) ||| (h 1084 x1.toNatClampNeg))) hk_216 rfl rfl rfl ?_
  refine kg_istore (L2 := [.ref (1076 + 1), .int x1, u2, .ref (q3 + 1), u4, .int ((h 1083 x1.toNatClampNeg) ||| (h 1084 x1.toNatClampNeg)), u6, u7]) hk_216 rfl (Nat.le_of_ble_eq_true rfl) rfl rfl ?_
  refine kg_push (x := 0) hk_216 rfl (by decide) rfl ?_
  refine kg_istore (L2 := [.ref (1076 + 1), .int x1, u2, .ref (q3 + 1), u4, .int ((h 1083 x1.toNatClampNeg) ||| (h 1084 x1.toNatClampNeg)), .int 0, u7]) hk_216 rfl (Nat.le_of_ble_eq_true rfl) rfl rfl ?_
  refine wf_bind hF (fun ez28 hez28 hF => ?_)
  refine l_216_105_ok t3 hez28 ?_ _ _ _
  intro u1 u2 u3 u4 u5 u6 u7
  refine kg_aload hk_216 rfl rfl rfl ?_
  refine kg_push (x := 0) hk_216 rfl (by decide) rfl ?_
  refine wf_let hF (fun hz29 hhz29 hF => ?_)
  refine kg_put hk_216 rfl wk_1076_29 rfl rfl hhz29 rfl ?_
  refine kg_aload hk_216 rfl rfl rfl ?_
  refine kg_get (v := .int (hz29 1076 75)) hk_216 rfl wk_1076_75 rfl rfl ?_
  refine kv_mid (p := 150) (L := [.ref (1076 + 1), u1, u2, u3, u4, u5, u6, u7]) (S := [.int (if (hz29 1076 75) = 0 then 1 else 0 : Int32)]) ?_ (fun hK => ?_)
  · have hF := Option.some.inj hF
    subst hF
    exact kg_iret hk_216 rfl (Or.inr (w_boi rfl rfl)) rfl
  · by_cases cz30 : (hz29 1076 75) = 0
    · have hK := kv_T cz30 hK
      refine kg_ifF hk_216 rfl (jc_F1 cz30) rfl ?_
      refine kg_push (x := 1) hk_216 rfl (by decide) rfl ?_
      refine kg_goto hk_216 rfl ?_
      exact hK
    · have hK := kv_F cz30 hK
      refine kg_ifT hk_216 rfl (jc_T1 cz30) ?_
      refine kg_push (x := 0) hk_216 rfl (by decide) rfl ?_
      exact hK
def q_216_31 (h : Hp) (x1 : Int32) (q3 : Nat) (q4 : Nat) (s0 : Int32) : Option (Int32 × Hp) :=
  w_let (w_up h 1076 28 s0) fun hz5 =>
  (w_lp (fun (s : Int32 × Hp) => l_216_34 x1 s.1 s.2) w_N (0, hz5)).bind fun ez10 =>
  (p_161 ez10 x1).bind fun vz11 =>
  w_let (w_up vz11 1076 75 0) fun hz12 =>
  w_let (w_up hz12 1076 76 (-1)) fun hz13 =>
  w_let (w_up hz13 1076 74 0) fun hz14 =>
  w_gd (w_ix (9 * x1) (w_len q4)) <|
  w_let (w_up hz14 q4 ((9 * x1).toNatClampNeg) (-2)) fun hz16 =>
  w_gd (w_ix x1 16) <|
  if (hz16 1081 x1.toNatClampNeg) = 1 then
    ((p_211 hz16 q4).bind fun vz19 =>
    q_216_93 vz19 x1 q3)
  else
    (w_gd (w_ix x1 16) <|
    if (hz16 1081 x1.toNatClampNeg) = 2 then
      ((p_213 hz16 q4).bind fun vz33 =>
      q_216_93 vz33 x1 q3)
    else
      ((p_208 hz16 q4).bind fun vz34 =>
      q_216_93 vz34 x1 q3))
theorem q_216_31_ok {X : List Int32}   {h : Hp} {q3 : Nat} {q4 : Nat} {s0 : Int32} {x1 : Int32} (t3 : w_tab[q3]? = some (50, (w_len q3), [])) (t4 : w_tab[q4]? = some (50, (w_len q4), [])) {r : Int32 × Hp} (hF : q_216_31 h x1 q3 q4 s0 = some r)  : ∀ (u2 : Value) (u5 : Value) (u6 : Value) (u7 : Value), k_Go X 9 216 (31, [.ref (1076 + 1), .int x1, u2, .ref (q3 + 1), .ref (q4 + 1), u5, u6, u7], [.int s0, .ref (1076 + 1)]) h (.inl (some (.int r.1)), r.2) := by
  intro u2 u5 u6 u7
  unfold q_216_31 at hF
  refine wf_let hF (fun hz5 hhz5 hF => ?_)
  refine kg_put hk_216 rfl wk_1076_28 rfl rfl hhz5 rfl ?_
  refine kg_push (x := 0) hk_216 rfl (by decide) rfl ?_
  refine kg_istore (L2 := [.ref (1076 + 1), .int x1, u2, .ref (q3 + 1), .ref (q4 + 1), .int 0, u6, u7]) hk_216 rfl (Nat.le_of_ble_eq_true rfl) rfl rfl ?_
  refine wf_bind hF (fun ez10 hez10 hF => ?_)
  refine l_216_34_ok t3 t4 hez10 ?_ _ _ _
  intro u2 u5 u6 u7
  refine kg_aload hk_216 rfl rfl rfl ?_
  refine kg_iload hk_216 rfl rfl rfl ?_
  refine wf_bind hF (fun vz11 hvz11 hF => ?_)
  refine kg_call (as := [.ref (1076 + 1), .int x1]) (rest := []) hk_216 rfl (Or.inr (Or.inr (Or.inr ⟨Or.inl rfl, _, _, rfl, wc_1076⟩))) rfl rfl rfl (Nat.not_lt.mpr (Nat.le_of_ble_eq_true rfl)) (p_161_ok hvz11) (by decide) rfl ?_
  refine kg_aload hk_216 rfl rfl rfl ?_
  refine kg_push (x := 0) hk_216 rfl (by decide) rfl ?_
  refine wf_let hF (fun hz12 hhz12 hF => ?_)
  refine kg_put hk_216 rfl wk_1076_75 rfl rfl hhz12 rfl ?_
  refine kg_aload hk_216 rfl rfl rfl ?_
  refine kg_push (x := (-1)) hk_216 rfl (by decide) rfl ?_
  refine wf_let hF (fun hz13 hhz13 hF => ?_)
  refine kg_put hk_216 rfl wk_1076_76 rfl rfl hhz13 rfl ?_
  refine kg_aload hk_216 rfl rfl rfl ?_
  refine kg_push (x := 0) hk_216 rfl (by decide) rfl ?_
  refine wf_let hF (fun hz14 hhz14 hF => ?_)
  refine kg_put hk_216 rfl wk_1076_74 rfl rfl hhz14 rfl ?_
  refine kg_aload hk_216 rfl rfl rfl ?_
  refine kg_push (x := 9) hk_216 rfl (by decide) rfl ?_
  refine kg_iload hk_216 rfl rfl rfl ?_
  refine kg_bin (z := (9 * x1)) hk_216 rfl rfl rfl ?_
  refine kg_push (x := (-2)) hk_216 rfl (by decide) rfl ?_
  refine wf_gd hF (fun gz15 hF => ?_)
  refine wf_let hF (fun hz16 hhz16 hF => ?_)
  refine kg_ast hk_216 rfl t4 gz15 hhz16 rfl ?_
  refine kg_aload hk_216 rfl rfl rfl ?_
  refine kg_get (v := .ref (1081 + 1)) hk_216 rfl wk_1076_5 rfl rfl ?_
  refine kg_iload hk_216 rfl rfl rfl ?_
  refine wf_gd hF (fun gz17 hF => ?_)
  refine kg_ald (y := (hz16 1081 x1.toNatClampNeg)) hk_216 rfl wc_1081 gz17 rfl rfl ?_
  refine kg_push (x := 1) hk_216 rfl (by decide) rfl ?_
  refine wf_if hF (fun cz18 hF => ?_) (fun cz18 hF => ?_)
  · refine kg_icF hk_216 rfl (jc_F1 cz18) rfl ?_
    refine kg_aload hk_216 rfl rfl rfl ?_
    refine kg_aload hk_216 rfl rfl rfl ?_
    refine wf_bind hF (fun vz19 hvz19 hF => ?_)
    refine kg_call (as := [.ref (1076 + 1), .ref (q4 + 1)]) (rest := []) hk_216 rfl (Or.inr (Or.inr (Or.inr ⟨Or.inl rfl, _, _, rfl, wc_1076⟩))) rfl rfl rfl (Nat.not_lt.mpr (Nat.le_of_ble_eq_true rfl)) (p_211_ok (w_lenE t4) hvz19) (by decide) rfl ?_
    refine kg_goto hk_216 rfl ?_
    exact q_216_93_ok t3 hF _ _ _ _ _
  · refine kg_icT hk_216 rfl (jc_T1 cz18) ?_
    refine kg_aload hk_216 rfl rfl rfl ?_
    refine kg_get (v := .ref (1081 + 1)) hk_216 rfl wk_1076_5 rfl rfl ?_
    refine kg_iload hk_216 rfl rfl rfl ?_
    refine wf_gd hF (fun gz31 hF => ?_)
    refine kg_ald (y := (hz16 1081 x1.toNatClampNeg)) hk_216 rfl wc_1081 gz31 rfl rfl ?_
    refine kg_push (x := 2) hk_216 rfl (by decide) rfl ?_
    refine wf_if hF (fun cz32 hF => ?_) (fun cz32 hF => ?_)
    · refine kg_icF hk_216 rfl (jc_F1 cz32) rfl ?_
      refine kg_aload hk_216 rfl rfl rfl ?_
      refine kg_aload hk_216 rfl rfl rfl ?_
      refine wf_bind hF (fun vz33 hvz33 hF => ?_)
      refine kg_call (as := [.ref (1076 + 1), .ref (q4 + 1)]) (rest := []) hk_216 rfl (Or.inr (Or.inr (Or.inr ⟨Or.inl rfl, _, _, rfl, wc_1076⟩))) rfl rfl rfl (Nat.not_lt.mpr (Nat.le_of_ble_eq_true rfl)) (p_213_ok (w_lenE t4) hvz33) (by decide) rfl ?_
      refine kg_goto hk_216 rfl ?_
      exact q_216_93_ok t3 hF _ _ _ _ _
    · refine kg_icT hk_216 rfl (jc_T1 cz32) ?_
      refine kg_aload hk_216 rfl rfl rfl ?_
      refine kg_aload hk_216 rfl rfl rfl ?_
      refine wf_bind hF (fun vz34 hvz34 hF => ?_)
      refine kg_call (as := [.ref (1076 + 1), .ref (q4 + 1)]) (rest := []) hk_216 rfl (Or.inr (Or.inr (Or.inr ⟨Or.inl rfl, _, _, rfl, wc_1076⟩))) rfl rfl rfl (Nat.not_lt.mpr (Nat.le_of_ble_eq_true rfl)) (p_208_ok (w_lenE t4) hvz34) (by decide) rfl ?_
      exact q_216_93_ok t3 hF _ _ _ _ _
def q_216_30 (h : Hp) (x1 : Int32) (q3 : Nat) (q4 : Nat) : Option (Int32 × Hp) :=
  q_216_31 h x1 q3 q4 0
theorem q_216_30_ok {X : List Int32}   {h : Hp} {q3 : Nat} {q4 : Nat} {x1 : Int32} (t3 : w_tab[q3]? = some (50, (w_len q3), [])) (t4 : w_tab[q4]? = some (50, (w_len q4), [])) {r : Int32 × Hp} (hF : q_216_30 h x1 q3 q4 = some r)  : ∀ (u2 : Value) (u5 : Value) (u6 : Value) (u7 : Value), k_Go X 9 216 (30, [.ref (1076 + 1), .int x1, u2, .ref (q3 + 1), .ref (q4 + 1), u5, u6, u7], [.ref (1076 + 1)]) h (.inl (some (.int r.1)), r.2) := by
  intro u2 u5 u6 u7
  unfold q_216_30 at hF
  refine kg_push (x := 0) hk_216 rfl (by decide) rfl ?_
  exact q_216_31_ok t3 t4 hF _ _ _ _
def p_216 (h : Hp) (x1 : Int32) (x2 : Int32) (q3 : Nat) (q4 : Nat) : Option (Int32 × Hp) :=
  w_let (w_up h 1076 77 x1) fun hz1 =>
  w_let (w_up hz1 1076 29 x2) fun hz2 =>
  w_let (w_up hz2 1076 30 0) fun hz3 =>
  if x2 = 0 then
    (q_216_30 hz3 x1 q3 q4)
  else
    (w_gd (w_ix x1 16) <|
    (p_214 hz3 x1 1097 (40 * x1) (hz3 1098 x1.toNatClampNeg)).bind fun vz36 =>
    w_gd ((if vz36 = 0 then true else w_ix x1 16)) <|
    q_216_31 hz3 x1 q3 q4 (if vz36 = 0 then 0 else (hz3 1096 x1.toNatClampNeg) : Int32))
theorem p_216_ok {X : List Int32}  {h : Hp} {x1 : Int32} {x2 : Int32} {q3 : Nat} {q4 : Nat} (t3 : w_tab[q3]? = some (50, w_len q3, [])) (t4 : w_tab[q4]? = some (50, w_len q4, [])) {r : Int32 × Hp} (hF : p_216 h x1 x2 q3 q4 = some r) : k_Ev X 9 216 [.ref (1076 + 1), .int x1, .int x2, .ref (q3 + 1), .ref (q4 + 1)] h (.inl (some (.int r.1)), r.2) := by
  refine k_of hk_216 ?_
  show k_Go X 9 216 (0, [.ref (1076 + 1), .int x1, .int x2, .ref (q3 + 1), .ref (q4 + 1), (.retAddr 0), (.retAddr 0), (.retAddr 0)], []) h _
  unfold p_216 at hF
  refine kg_aload hk_216 rfl rfl rfl ?_
  refine kg_iload hk_216 rfl rfl rfl ?_
  refine wf_let hF (fun hz1 hhz1 hF => ?_)
  refine kg_put hk_216 rfl wk_1076_77 rfl rfl hhz1 rfl ?_
  refine kg_aload hk_216 rfl rfl rfl ?_
  refine kg_iload hk_216 rfl rfl rfl ?_
  refine wf_let hF (fun hz2 hhz2 hF => ?_)
  refine kg_put hk_216 rfl wk_1076_29 rfl rfl hhz2 rfl ?_
  refine kg_aload hk_216 rfl rfl rfl ?_
  refine kg_push (x := 0) hk_216 rfl (by decide) rfl ?_
  refine wf_let hF (fun hz3 hhz3 hF => ?_)
  refine kg_put hk_216 rfl wk_1076_30 rfl rfl hhz3 rfl ?_
  refine kg_aload hk_216 rfl rfl rfl ?_
  refine kg_iload hk_216 rfl rfl rfl ?_
  refine wf_if hF (fun cz4 hF => ?_) (fun cz4 hF => ?_)
  · refine kg_ifT hk_216 rfl (jc_T0 cz4) ?_
    exact q_216_30_ok t3 t4 hF _ _ _ _
  · refine kg_ifF hk_216 rfl (jc_F0 cz4) rfl ?_
    refine kg_aload hk_216 rfl rfl rfl ?_
    refine kg_iload hk_216 rfl rfl rfl ?_
    refine kg_aload hk_216 rfl rfl rfl ?_
    refine kg_get (v := .ref (1097 + 1)) hk_216 rfl wk_1076_25 rfl rfl ?_
    refine kg_push (x := 40) hk_216 rfl (by decide) rfl ?_
    refine kg_iload hk_216 rfl rfl rfl ?_
    refine kg_bin (z := (40 * x1)) hk_216 rfl rfl rfl ?_
    refine kg_aload hk_216 rfl rfl rfl ?_
    refine kg_get (v := .ref (1098 + 1)) hk_216 rfl wk_1076_26 rfl rfl ?_
    refine kg_iload hk_216 rfl rfl rfl ?_
    refine wf_gd hF (fun gz35 hF => ?_)
    refine kg_ald (y := (hz3 1098 x1.toNatClampNeg)) hk_216 rfl wc_1098 gz35 rfl rfl ?_
    refine wf_bind hF (fun vz36 hvz36 hF => ?_)
    refine kg_call (as := [.ref (1076 + 1), .int x1, .ref (1097 + 1), .int (40 * x1), .int (hz3 1098 x1.toNatClampNeg)]) (rest := [.ref (1076 + 1)]) hk_216 rfl (Or.inr (Or.inr (Or.inr ⟨Or.inl rfl, _, _, rfl, wc_1076⟩))) rfl rfl rfl (Nat.not_lt.mpr (Nat.le_of_ble_eq_true rfl)) (p_214_ok (w_lenE wc_1097) hvz36) (by decide) rfl ?_
    refine wf_gd hF (fun gz39 hF => ?_)
    refine kv_mid (p := 31) (L := [.ref (1076 + 1), .int x1, .int x2, .ref (q3 + 1), .ref (q4 + 1), (.retAddr 0), (.retAddr 0), (.retAddr 0)]) (S := [.int (if vz36 = 0 then 0 else (hz3 1096 x1.toNatClampNeg) : Int32), .ref (1076 + 1)]) ?_ (fun hK => ?_)
    · exact q_216_31_ok t3 t4 hF _ _ _ _
    · have hg := gz39
      by_cases cz37 : vz36 = 0
      · have hK := kv_T cz37 hK
        refine kg_ifT hk_216 rfl (jc_T0 cz37) ?_
        refine kg_push (x := 0) hk_216 rfl (by decide) rfl ?_
        exact hK
      · have hg := wv_F cz37 hg
        have hK := kv_F cz37 hK
        have gz38 := hg
        refine kg_ifF hk_216 rfl (jc_F0 cz37) rfl ?_
        refine kg_aload hk_216 rfl rfl rfl ?_
        refine kg_get (v := .ref (1096 + 1)) hk_216 rfl wk_1076_24 rfl rfl ?_
        refine kg_iload hk_216 rfl rfl rfl ?_
        refine kg_ald (y := (hz3 1096 x1.toNatClampNeg)) hk_216 rfl wc_1096 gz38 rfl rfl ?_
        refine kg_goto hk_216 rfl ?_
        exact hK
-- NotebookWeirModel.keepsValues(I[II)V
theorem hk_219 : jP[219]? = some (jc_219, 5, [], []) := by rfl
def l_219_2 (x1 : Int32) (q2 : Nat) (x3 : Int32) (x4 : Int32) (h : Hp) : Option ((Int32 × Hp) ⊕ Hp) :=
  if x4 < 26 then
    (w_gd (w_ix x1 16) <|
    if (((h 1085 x1.toNatClampNeg) >>> (x4 &&& 31)) &&& 1) = 1 then
      ((p_194 h x1 (97 + x4)).bind fun vz4 =>
      (p_193 vz4.2 1132 0 q2 (x3 + (9 * x4))).bind fun vz5 =>
      some (.inl ((x4 + 1), vz5)))
    else
      (some (.inl ((x4 + 1), h))))
  else
    (some (.inr h))
theorem l_219_2_st {X : List Int32} {o : kO}  {h : Hp} {q2 : Nat} {x1 : Int32} {x3 : Int32} {x4 : Int32} (t2 : w_tab[q2]? = some (50, (w_len q2), [])) {r : (Int32 × Hp) ⊕ Hp} (hF : l_219_2 x1 q2 x3 x4 h = some r) (hK : ∀ s' : Int32 × Hp, r = .inl s' → k_Go X 5 219 (2, [.ref (1076 + 1), .int x1, .ref (q2 + 1), .int x3, .int (s'.1)], []) s'.2 o) (hX0 : ∀ e : Hp, r = .inr e → (.inl none, e) = o) : k_Go X 5 219 (2, [.ref (1076 + 1), .int x1, .ref (q2 + 1), .int x3, .int x4], []) h o := by
  refine kg_iload hk_219 rfl rfl rfl ?_
  refine kg_push (x := 26) hk_219 rfl (by decide) rfl ?_
  refine wf_if hF (fun cz1 hF => ?_) (fun cz1 hF => ?_)
  · refine kg_icF hk_219 rfl (jc_F3 cz1) rfl ?_
    refine kg_aload hk_219 rfl rfl rfl ?_
    refine kg_get (v := .ref (1085 + 1)) hk_219 rfl wk_1076_9 rfl rfl ?_
    refine kg_iload hk_219 rfl rfl rfl ?_
    refine wf_gd hF (fun gz2 hF => ?_)
    refine kg_ald (y := (h 1085 x1.toNatClampNeg)) hk_219 rfl wc_1085 gz2 rfl rfl ?_
    refine kg_iload hk_219 rfl rfl rfl ?_
    refine kg_bin (z := ((h 1085 x1.toNatClampNeg) >>> (x4 &&& 31))) hk_219 rfl rfl rfl ?_
    refine kg_push (x := 1) hk_219 rfl (by decide) rfl ?_
    refine kg_bin (z := (((h 1085 x1.toNatClampNeg) >>> (x4 &&& 31)) &&& 1)) hk_219 rfl rfl rfl ?_
    refine kg_push (x := 1) hk_219 rfl (by decide) rfl ?_
    refine wf_if hF (fun cz3 hF => ?_) (fun cz3 hF => ?_)
    · refine kg_icF hk_219 rfl (jc_F1 cz3) rfl ?_
      refine kg_aload hk_219 rfl rfl rfl ?_
      refine kg_iload hk_219 rfl rfl rfl ?_
      refine kg_push (x := 97) hk_219 rfl (by decide) rfl ?_
      refine kg_iload hk_219 rfl rfl rfl ?_
      refine kg_bin (z := (97 + x4)) hk_219 rfl rfl rfl ?_
      refine wf_bind hF (fun vz4 hvz4 hF => ?_)
      refine kg_call (as := [.ref (1076 + 1), .int x1, .int (97 + x4)]) (rest := []) hk_219 rfl (Or.inr (Or.inr (Or.inr ⟨Or.inl rfl, _, _, rfl, wc_1076⟩))) rfl rfl rfl (Nat.not_lt.mpr (Nat.le_of_ble_eq_true rfl)) (p_194_ok hvz4) (by decide) rfl ?_
      refine kg_pop hk_219 rfl rfl rfl ?_
      refine kg_aload hk_219 rfl rfl rfl ?_
      refine kg_aload hk_219 rfl rfl rfl ?_
      refine kg_get (v := .ref (1132 + 1)) hk_219 rfl wk_1076_78 rfl rfl ?_
      refine kg_push (x := 0) hk_219 rfl (by decide) rfl ?_
      refine kg_aload hk_219 rfl rfl rfl ?_
      refine kg_iload hk_219 rfl rfl rfl ?_
      refine kg_push (x := 9) hk_219 rfl (by decide) rfl ?_
      refine kg_iload hk_219 rfl rfl rfl ?_
      refine kg_bin (z := (9 * x4)) hk_219 rfl rfl rfl ?_
      refine kg_bin (z := (x3 + (9 * x4))) hk_219 rfl rfl rfl ?_
      refine wf_bind hF (fun vz5 hvz5 hF => ?_)
      refine kg_call (as := [.ref (1076 + 1), .ref (1132 + 1), .int 0, .ref (q2 + 1), .int (x3 + (9 * x4))]) (rest := []) hk_219 rfl (Or.inr (Or.inr (Or.inr ⟨Or.inl rfl, _, _, rfl, wc_1076⟩))) rfl rfl rfl (Nat.not_lt.mpr (Nat.le_of_ble_eq_true rfl)) (p_193_ok (w_lenE wc_1132) (w_lenE t2) hvz5) (by decide) rfl ?_
      refine kg_iinc (y := (x4 + 1)) (L2 := [.ref (1076 + 1), .int x1, .ref (q2 + 1), .int x3, .int (x4 + 1)]) hk_219 rfl rfl rfl rfl rfl ?_
      refine kg_goto hk_219 rfl ?_
      have hF := Option.some.inj hF
      exact hK _ hF.symm
    · refine kg_icT hk_219 rfl (jc_T1 cz3) ?_
      refine kg_iinc (y := (x4 + 1)) (L2 := [.ref (1076 + 1), .int x1, .ref (q2 + 1), .int x3, .int (x4 + 1)]) hk_219 rfl rfl rfl rfl rfl ?_
      refine kg_goto hk_219 rfl ?_
      have hF := Option.some.inj hF
      exact hK _ hF.symm
  · refine kg_icT hk_219 rfl (jc_T3 cz1) ?_
    have hF := Option.some.inj hF
    exact kg_ret hk_219 rfl (hX0 _ hF.symm)
theorem l_219_2_ok {X : List Int32} {o : kO}  {q2 : Nat} {x1 : Int32} {x3 : Int32} (t2 : w_tab[q2]? = some (50, (w_len q2), [])) {n : Nat} {s : Int32 × Hp} {e : Hp} (hF : w_lp (fun (s : Int32 × Hp) => l_219_2 x1 q2 x3 s.1 s.2) n s = some e) (hX0 : (.inl none, e) = o) : k_Go X 5 219 (2, [.ref (1076 + 1), .int x1, .ref (q2 + 1), .int x3, .int s.1], []) s.2 o := by
  exact w_lp_ok (P := (fun (s : Int32 × Hp) => k_Go X 5 219 (2, [.ref (1076 + 1), .int x1, .ref (q2 + 1), .int x3, .int s.1], []) s.2 o)) (Q := (fun (e : Hp) => ((.inl none, e) = o))) (fun s r hF hK hX => l_219_2_st t2 hF hK (fun x hx => (hX _ hx))) n s e hF hX0
def p_219 (h : Hp) (x1 : Int32) (q2 : Nat) (x3 : Int32) : Option (Hp) :=
  w_lp (fun (s : Int32 × Hp) => l_219_2 x1 q2 x3 s.1 s.2) w_N (0, h)
theorem p_219_ok {X : List Int32}  {h : Hp} {x1 : Int32} {q2 : Nat} {x3 : Int32} (t2 : w_tab[q2]? = some (50, w_len q2, [])) {r : Hp} (hF : p_219 h x1 q2 x3 = some r) : k_Ev X 5 219 [.ref (1076 + 1), .int x1, .ref (q2 + 1), .int x3] h (.inl none, r) := by
  refine k_of hk_219 ?_
  show k_Go X 5 219 (0, [.ref (1076 + 1), .int x1, .ref (q2 + 1), .int x3, (.retAddr 0)], []) h _
  unfold p_219 at hF
  refine kg_push (x := 0) hk_219 rfl (by decide) rfl ?_
  refine kg_istore (L2 := [.ref (1076 + 1), .int x1, .ref (q2 + 1), .int x3, .int 0]) hk_219 rfl (Nat.le_of_ble_eq_true rfl) rfl rfl ?_
  exact l_219_2_ok t2 hF rfl
