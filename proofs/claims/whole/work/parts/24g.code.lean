/-! ===== the methods as functions over the flat heap, and that the interpreter does what they say (printed by wip/whole/dec.py) ===== -/
-- NotebookWeirModel.isBetween(III)Z
theorem hk_147 : jP[147]? = some (jc_147, 3, [], []) := by rfl
def v_147 (x0 : Int32) (x1 : Int32) (x2 : Int32) : Int32 := (if x0 < x1 then 0 else (if x0 ≤ x2 then 1 else 0 : Int32) : Int32)
theorem v_147_bo (x0 : Int32) (x1 : Int32) (x2 : Int32) : w_bo (v_147 x0 x1 x2) = true := by
  unfold v_147
  exact (w_boi rfl (w_boi rfl rfl))
theorem v_147_ok {X : List Int32} {h : Hp} {x0 : Int32} {x1 : Int32} {x2 : Int32}  : k_Ev X 0 147 [.int x0, .int x1, .int x2] h (.inl (some (.int (v_147 x0 x1 x2))), h) := by
  refine k_of hk_147 ?_
  show k_Go X 0 147 (0, [.int x0, .int x1, .int x2], []) h _
  generalize hv : v_147 x0 x1 x2 = z
  unfold v_147 at hv
  refine kg_iload hk_147 rfl rfl rfl ?_
  refine kg_iload hk_147 rfl rfl rfl ?_
  refine kv_mid (p := 9) (L := [.int x0, .int x1, .int x2]) (S := [.int (if x0 < x1 then 0 else (if x0 ≤ x2 then 1 else 0 : Int32) : Int32)]) ?_ (fun hK => ?_)
  · exact kg_iret hk_147 rfl (Or.inr (w_boi rfl (w_boi rfl rfl))) (by rw [hv])
  · by_cases cz1 : x0 < x1
    · have hK := kv_T cz1 hK
      refine kg_icT hk_147 rfl (jc_T2 cz1) ?_
      refine kg_push (x := 0) hk_147 rfl (by decide) rfl ?_
      exact hK
    · have hK := kv_F cz1 hK
      refine kg_icF hk_147 rfl (jc_F2 cz1) rfl ?_
      refine kg_iload hk_147 rfl rfl rfl ?_
      refine kg_iload hk_147 rfl rfl rfl ?_
      by_cases cz2 : x0 ≤ x2
      · have hK := kv_T cz2 hK
        refine kg_icF hk_147 rfl (jc_F4 cz2) rfl ?_
        refine kg_push (x := 1) hk_147 rfl (by decide) rfl ?_
        refine kg_goto hk_147 rfl ?_
        exact hK
      · have hK := kv_F cz2 hK
        refine kg_icT hk_147 rfl (jc_T4 cz2) ?_
        refine kg_push (x := 0) hk_147 rfl (by decide) rfl ?_
        exact hK
-- NotebookWeirModel.isLetter(I)Z
theorem hk_148 : jP[148]? = some (jc_148, 1, [], []) := by rfl
def v_148 (x0 : Int32) : Int32 := (v_147 x0 97 122)
theorem v_148_bo (x0 : Int32) : w_bo (v_148 x0) = true := by
  unfold v_148
  exact (v_147_bo _ _ _)
theorem v_148_ok {X : List Int32} {h : Hp} {x0 : Int32}  : k_Ev X 1 148 [.int x0] h (.inl (some (.int (v_148 x0))), h) := by
  refine k_of hk_148 ?_
  show k_Go X 1 148 (0, [.int x0], []) h _
  generalize hv : v_148 x0 = z
  unfold v_148 at hv
  refine kg_iload hk_148 rfl rfl rfl ?_
  refine kg_push (x := 97) hk_148 rfl (by decide) rfl ?_
  refine kg_push (x := 122) hk_148 rfl (by decide) rfl ?_
  refine kg_call (as := [.int x0, .int 97, .int 122]) (rest := []) hk_148 rfl (Or.inl rfl) rfl rfl rfl (Nat.not_lt.mpr (Nat.le_of_ble_eq_true rfl)) (v_147_ok) (by decide) rfl ?_
  exact kg_iret hk_148 rfl (Or.inr (v_147_bo _ _ _)) (by rw [hv])
-- NotebookWeirModel.isDigit(I)Z
theorem hk_149 : jP[149]? = some (jc_149, 1, [], []) := by rfl
def v_149 (x0 : Int32) : Int32 := (v_147 x0 48 57)
theorem v_149_bo (x0 : Int32) : w_bo (v_149 x0) = true := by
  unfold v_149
  exact (v_147_bo _ _ _)
theorem v_149_ok {X : List Int32} {h : Hp} {x0 : Int32}  : k_Ev X 1 149 [.int x0] h (.inl (some (.int (v_149 x0))), h) := by
  refine k_of hk_149 ?_
  show k_Go X 1 149 (0, [.int x0], []) h _
  generalize hv : v_149 x0 = z
  unfold v_149 at hv
  refine kg_iload hk_149 rfl rfl rfl ?_
  refine kg_push (x := 48) hk_149 rfl (by decide) rfl ?_
  refine kg_push (x := 57) hk_149 rfl (by decide) rfl ?_
  refine kg_call (as := [.int x0, .int 48, .int 57]) (rest := []) hk_149 rfl (Or.inl rfl) rfl rfl rfl (Nat.not_lt.mpr (Nat.le_of_ble_eq_true rfl)) (v_147_ok) (by decide) rfl ?_
  exact kg_iret hk_149 rfl (Or.inr (v_147_bo _ _ _)) (by rw [hv])
-- NotebookWeirModel.sign()I
theorem hk_150 : jP[150]? = some (jc_150, 1, [], []) := by rfl
def v_150 (h : Hp)  : Int32 := (if (h 1076 67) < (h 1076 66) then (h 1127 (h 1076 67).toNatClampNeg) else 0 : Int32)
def g_150 (h : Hp)  : Bool := (if (h 1076 67) < (h 1076 66) then w_ix (h 1076 67) 40 else true)
theorem v_150_ok {X : List Int32} {h : Hp}   (hg : g_150 h = true) : k_Ev X 0 150 [.ref (1076 + 1)] h (.inl (some (.int (v_150 h))), h) := by
  refine k_of hk_150 ?_
  show k_Go X 0 150 (0, [.ref (1076 + 1)], []) h _
  generalize hv : v_150 h = z
  unfold v_150 at hv
  unfold g_150 at hg
  have gz3 := hg
  refine kg_aload hk_150 rfl rfl rfl ?_
  refine kg_get (v := .int (h 1076 67)) hk_150 rfl wk_1076_67 rfl rfl ?_
  refine kg_aload hk_150 rfl rfl rfl ?_
  refine kg_get (v := .int (h 1076 66)) hk_150 rfl wk_1076_66 rfl rfl ?_
  refine kv_mid (p := 12) (L := [.ref (1076 + 1)]) (S := [.int (if (h 1076 67) < (h 1076 66) then (h 1127 (h 1076 67).toNatClampNeg) else 0 : Int32)]) ?_ (fun hK => ?_)
  · exact kg_iret hk_150 rfl (Or.inl rfl) (by rw [hv])
  · have hg := gz3
    by_cases cz1 : (h 1076 67) < (h 1076 66)
    · have hg := wv_T cz1 hg
      have hK := kv_T cz1 hK
      have gz2 := hg
      refine kg_icF hk_150 rfl (jc_F3 cz1) rfl ?_
      refine kg_aload hk_150 rfl rfl rfl ?_
      refine kg_get (v := .ref (1127 + 1)) hk_150 rfl wk_1076_65 rfl rfl ?_
      refine kg_aload hk_150 rfl rfl rfl ?_
      refine kg_get (v := .int (h 1076 67)) hk_150 rfl wk_1076_67 rfl rfl ?_
      refine kg_ald (y := (h 1127 (h 1076 67).toNatClampNeg)) hk_150 rfl wc_1127 gz2 rfl rfl ?_
      refine kg_goto hk_150 rfl ?_
      exact hK
    · have hK := kv_F cz1 hK
      refine kg_icT hk_150 rfl (jc_T3 cz1) ?_
      refine kg_push (x := 0) hk_150 rfl (by decide) rfl ?_
      exact hK
-- NotebookWeirModel.isPrefix()Z
theorem hk_151 : jP[151]? = some (jc_151, 1, [], []) := by rfl
def v_151 (h : Hp)  : Int32 := (if ((h 1076 67) + 1) < (h 1076 66) then (if (v_148 (h 1127 (h 1076 67).toNatClampNeg)) = 0 then 0 else (if (h 1127 ((h 1076 67) + 1).toNatClampNeg) = 61 then 1 else (if (h 1127 ((h 1076 67) + 1).toNatClampNeg) = 33 then 1 else 0 : Int32) : Int32) : Int32) else 0 : Int32)
def g_151 (h : Hp)  : Bool := (if ((h 1076 67) + 1) < (h 1076 66) then (w_ix (h 1076 67) 40) && ((if (v_148 (h 1127 (h 1076 67).toNatClampNeg)) = 0 then true else (w_ix ((h 1076 67) + 1) 40) && ((if (h 1127 ((h 1076 67) + 1).toNatClampNeg) = 61 then true else w_ix ((h 1076 67) + 1) 40)))) else true)
theorem v_151_bo (h : Hp)  : w_bo (v_151 h) = true := by
  unfold v_151
  exact (w_boi (w_boi rfl (w_boi rfl (w_boi rfl rfl))) rfl)
theorem v_151_ok {X : List Int32} {h : Hp}   (hg : g_151 h = true) : k_Ev X 2 151 [.ref (1076 + 1)] h (.inl (some (.int (v_151 h))), h) := by
  refine k_of hk_151 ?_
  show k_Go X 2 151 (0, [.ref (1076 + 1)], []) h _
  generalize hv : v_151 h = z
  unfold v_151 at hv
  unfold g_151 at hg
  have gz8 := hg
  refine kg_aload hk_151 rfl rfl rfl ?_
  refine kg_get (v := .int (h 1076 67)) hk_151 rfl wk_1076_67 rfl rfl ?_
  refine kg_push (x := 1) hk_151 rfl (by decide) rfl ?_
  refine kg_bin (z := ((h 1076 67) + 1)) hk_151 rfl rfl rfl ?_
  refine kg_aload hk_151 rfl rfl rfl ?_
  refine kg_get (v := .int (h 1076 66)) hk_151 rfl wk_1076_66 rfl rfl ?_
  refine kv_mid (p := 35) (L := [.ref (1076 + 1)]) (S := [.int (if ((h 1076 67) + 1) < (h 1076 66) then (if (v_148 (h 1127 (h 1076 67).toNatClampNeg)) = 0 then 0 else (if (h 1127 ((h 1076 67) + 1).toNatClampNeg) = 61 then 1 else (if (h 1127 ((h 1076 67) + 1).toNatClampNeg) = 33 then 1 else 0 : Int32) : Int32) : Int32) else 0 : Int32)]) ?_ (fun hK => ?_)
  · exact kg_iret hk_151 rfl (Or.inr (w_boi (w_boi rfl (w_boi rfl (w_boi rfl rfl))) rfl)) (by rw [hv])
  · have hg := gz8
    by_cases cz1 : ((h 1076 67) + 1) < (h 1076 66)
    · have hg := wv_T cz1 hg
      have hK := kv_T cz1 hK
      have gz2 := wb_1 hg
      have hg := wb_2 hg
      refine kg_icF hk_151 rfl (jc_F3 cz1) rfl ?_
      refine kg_aload hk_151 rfl rfl rfl ?_
      refine kg_get (v := .ref (1127 + 1)) hk_151 rfl wk_1076_65 rfl rfl ?_
      refine kg_aload hk_151 rfl rfl rfl ?_
      refine kg_get (v := .int (h 1076 67)) hk_151 rfl wk_1076_67 rfl rfl ?_
      refine kg_ald (y := (h 1127 (h 1076 67).toNatClampNeg)) hk_151 rfl wc_1127 gz2 rfl rfl ?_
      refine kg_call (as := [.int (h 1127 (h 1076 67).toNatClampNeg)]) (rest := []) hk_151 rfl (Or.inl rfl) rfl rfl rfl (Nat.not_lt.mpr (Nat.le_of_ble_eq_true rfl)) (v_148_ok) (by decide) rfl ?_
      by_cases cz3 : (v_148 (h 1127 (h 1076 67).toNatClampNeg)) = 0
      · have hK := kv_T cz3 hK
        refine kg_ifT hk_151 rfl (jc_T0 cz3) ?_
        refine kg_push (x := 0) hk_151 rfl (by decide) rfl ?_
        exact hK
      · have hg := wv_F cz3 hg
        have hK := kv_F cz3 hK
        have gz4 := wb_1 hg
        have hg := wb_2 hg
        refine kg_ifF hk_151 rfl (jc_F0 cz3) rfl ?_
        refine kg_aload hk_151 rfl rfl rfl ?_
        refine kg_get (v := .ref (1127 + 1)) hk_151 rfl wk_1076_65 rfl rfl ?_
        refine kg_aload hk_151 rfl rfl rfl ?_
        refine kg_get (v := .int (h 1076 67)) hk_151 rfl wk_1076_67 rfl rfl ?_
        refine kg_push (x := 1) hk_151 rfl (by decide) rfl ?_
        refine kg_bin (z := ((h 1076 67) + 1)) hk_151 rfl rfl rfl ?_
        refine kg_ald (y := (h 1127 ((h 1076 67) + 1).toNatClampNeg)) hk_151 rfl wc_1127 gz4 rfl rfl ?_
        refine kg_push (x := 61) hk_151 rfl (by decide) rfl ?_
        by_cases cz5 : (h 1127 ((h 1076 67) + 1).toNatClampNeg) = 61
        · have hK := kv_T cz5 hK
          refine kg_icT hk_151 rfl (jc_T0 cz5) ?_
          refine kg_push (x := 1) hk_151 rfl (by decide) rfl ?_
          refine kg_goto hk_151 rfl ?_
          exact hK
        · have hg := wv_F cz5 hg
          have hK := kv_F cz5 hK
          have gz6 := hg
          refine kg_icF hk_151 rfl (jc_F0 cz5) rfl ?_
          refine kg_aload hk_151 rfl rfl rfl ?_
          refine kg_get (v := .ref (1127 + 1)) hk_151 rfl wk_1076_65 rfl rfl ?_
          refine kg_aload hk_151 rfl rfl rfl ?_
          refine kg_get (v := .int (h 1076 67)) hk_151 rfl wk_1076_67 rfl rfl ?_
          refine kg_push (x := 1) hk_151 rfl (by decide) rfl ?_
          refine kg_bin (z := ((h 1076 67) + 1)) hk_151 rfl rfl rfl ?_
          refine kg_ald (y := (h 1127 ((h 1076 67) + 1).toNatClampNeg)) hk_151 rfl wc_1127 gz6 rfl rfl ?_
          refine kg_push (x := 33) hk_151 rfl (by decide) rfl ?_
          by_cases cz7 : (h 1127 ((h 1076 67) + 1).toNatClampNeg) = 33
          · have hK := kv_T cz7 hK
            refine kg_icF hk_151 rfl (jc_F1 cz7) rfl ?_
            refine kg_push (x := 1) hk_151 rfl (by decide) rfl ?_
            refine kg_goto hk_151 rfl ?_
            exact hK
          · have hK := kv_F cz7 hK
            refine kg_icT hk_151 rfl (jc_T1 cz7) ?_
            refine kg_push (x := 0) hk_151 rfl (by decide) rfl ?_
            exact hK
    · have hK := kv_F cz1 hK
      refine kg_icT hk_151 rfl (jc_T3 cz1) ?_
      refine kg_push (x := 0) hk_151 rfl (by decide) rfl ?_
      exact hK
-- NotebookWeirModel.digits()Z
theorem hk_152 : jP[152]? = some (jc_152, 2, [], []) := by rfl
def l_152_2 (x1 : Int32) (h : Hp) : Option ((Int32 × Hp) ⊕ Int32 × Hp) :=
  if x1 < 6 then
    (w_gd (g_150 h) <|
    if (v_149 (v_150 h)) = 0 then
      (some (.inr (x1, h)))
    else
      (w_let (w_up h 1076 67 ((h 1076 67) + 1)) fun hz4 =>
      some (.inl ((x1 + 1), hz4))))
  else
    (some (.inr (x1, h)))
theorem l_152_2_st {X : List Int32} {o : kO}  {h : Hp} {x1 : Int32}  {r : (Int32 × Hp) ⊕ Int32 × Hp} (hF : l_152_2 x1 h = some r) (hK : ∀ s' : Int32 × Hp, r = .inl s' → k_Go X 2 152 (2, [.ref (1076 + 1), .int (s'.1)], []) s'.2 o) (hX0 : ∀ e : Int32 × Hp, r = .inr e → k_Go X 2 152 (17, [.ref (1076 + 1), .int e.1], []) e.2 o) : k_Go X 2 152 (2, [.ref (1076 + 1), .int x1], []) h o := by
  refine kg_iload hk_152 rfl rfl rfl ?_
  refine kg_push (x := 6) hk_152 rfl (by decide) rfl ?_
  refine wf_if hF (fun cz1 hF => ?_) (fun cz1 hF => ?_)
  · refine kg_icF hk_152 rfl (jc_F3 cz1) rfl ?_
    refine kg_aload hk_152 rfl rfl rfl ?_
    refine wf_gd hF (fun gz2 hF => ?_)
    refine kg_call (as := [.ref (1076 + 1)]) (rest := []) hk_152 rfl (Or.inr (Or.inr (Or.inr ⟨Or.inl rfl, _, _, rfl, wc_1076⟩))) rfl rfl rfl (Nat.not_lt.mpr (Nat.le_of_ble_eq_true rfl)) (v_150_ok gz2) (by decide) rfl ?_
    refine kg_call (as := [.int (v_150 h)]) (rest := []) hk_152 rfl (Or.inl rfl) rfl rfl rfl (Nat.not_lt.mpr (Nat.le_of_ble_eq_true rfl)) (v_149_ok) (by decide) rfl ?_
    refine wf_if hF (fun cz3 hF => ?_) (fun cz3 hF => ?_)
    · refine kg_ifT hk_152 rfl (jc_T0 cz3) ?_
      have hF := Option.some.inj hF
      exact hX0 _ hF.symm
    · refine kg_ifF hk_152 rfl (jc_F0 cz3) rfl ?_
      refine kg_aload hk_152 rfl rfl rfl ?_
      refine kg_dup hk_152 rfl rfl rfl ?_
      refine kg_get (v := .int (h 1076 67)) hk_152 rfl wk_1076_67 rfl rfl ?_
      refine kg_push (x := 1) hk_152 rfl (by decide) rfl ?_
      refine kg_bin (z := ((h 1076 67) + 1)) hk_152 rfl rfl rfl ?_
      refine wf_let hF (fun hz4 hhz4 hF => ?_)
      refine kg_put hk_152 rfl wk_1076_67 rfl rfl hhz4 rfl ?_
      refine kg_iinc (y := (x1 + 1)) (L2 := [.ref (1076 + 1), .int (x1 + 1)]) hk_152 rfl rfl rfl rfl rfl ?_
      refine kg_goto hk_152 rfl ?_
      have hF := Option.some.inj hF
      exact hK _ hF.symm
  · refine kg_icT hk_152 rfl (jc_T3 cz1) ?_
    have hF := Option.some.inj hF
    exact hX0 _ hF.symm
theorem l_152_2_ok {X : List Int32} {o : kO}    {n : Nat} {s : Int32 × Hp} {e : Int32 × Hp} (hF : w_lp (fun (s : Int32 × Hp) => l_152_2 s.1 s.2) n s = some e) (hX0 : k_Go X 2 152 (17, [.ref (1076 + 1), .int e.1], []) e.2 o) : k_Go X 2 152 (2, [.ref (1076 + 1), .int s.1], []) s.2 o := by
  exact w_lp_ok (P := (fun (s : Int32 × Hp) => k_Go X 2 152 (2, [.ref (1076 + 1), .int s.1], []) s.2 o)) (Q := (fun (e : Int32 × Hp) => (k_Go X 2 152 (17, [.ref (1076 + 1), .int e.1], []) e.2 o))) (fun s r hF hK hX => l_152_2_st hF hK (fun x hx => (hX _ hx))) n s e hF hX0
def q_152_17 (h : Hp) (x1 : Int32) : Option (Int32 × Hp) :=
  w_gd ((if x1 ≤ 0 then true else g_150 h)) <|
  some ((if x1 ≤ 0 then 0 else (if (v_149 (v_150 h)) = 0 then 1 else 0 : Int32) : Int32), h)
theorem q_152_17_ok {X : List Int32}   {h : Hp} {x1 : Int32}  {r : Int32 × Hp} (hF : q_152_17 h x1 = some r)  : k_Go X 2 152 (17, [.ref (1076 + 1), .int x1], []) h (.inl (some (.int r.1)), r.2) := by
  unfold q_152_17 at hF
  refine kg_iload hk_152 rfl rfl rfl ?_
  refine wf_gd hF (fun gz9 hF => ?_)
  refine kv_mid (p := 26) (L := [.ref (1076 + 1), .int x1]) (S := [.int (if x1 ≤ 0 then 0 else (if (v_149 (v_150 h)) = 0 then 1 else 0 : Int32) : Int32)]) ?_ (fun hK => ?_)
  · have hF := Option.some.inj hF
    subst hF
    exact kg_iret hk_152 rfl (Or.inr (w_boi rfl (w_boi rfl rfl))) rfl
  · have hg := gz9
    by_cases cz6 : x1 ≤ 0
    · have hK := kv_T cz6 hK
      refine kg_ifT hk_152 rfl (jc_T5 cz6) ?_
      refine kg_push (x := 0) hk_152 rfl (by decide) rfl ?_
      exact hK
    · have hg := wv_F cz6 hg
      have hK := kv_F cz6 hK
      have gz7 := hg
      refine kg_ifF hk_152 rfl (jc_F5 cz6) rfl ?_
      refine kg_aload hk_152 rfl rfl rfl ?_
      refine kg_call (as := [.ref (1076 + 1)]) (rest := []) hk_152 rfl (Or.inr (Or.inr (Or.inr ⟨Or.inl rfl, _, _, rfl, wc_1076⟩))) rfl rfl rfl (Nat.not_lt.mpr (Nat.le_of_ble_eq_true rfl)) (v_150_ok gz7) (by decide) rfl ?_
      refine kg_call (as := [.int (v_150 h)]) (rest := []) hk_152 rfl (Or.inl rfl) rfl rfl rfl (Nat.not_lt.mpr (Nat.le_of_ble_eq_true rfl)) (v_149_ok) (by decide) rfl ?_
      by_cases cz8 : (v_149 (v_150 h)) = 0
      · have hK := kv_T cz8 hK
        refine kg_ifF hk_152 rfl (jc_F1 cz8) rfl ?_
        refine kg_push (x := 1) hk_152 rfl (by decide) rfl ?_
        refine kg_goto hk_152 rfl ?_
        exact hK
      · have hK := kv_F cz8 hK
        refine kg_ifT hk_152 rfl (jc_T1 cz8) ?_
        refine kg_push (x := 0) hk_152 rfl (by decide) rfl ?_
        exact hK
def p_152 (h : Hp) : Option (Int32 × Hp) :=
  (w_lp (fun (s : Int32 × Hp) => l_152_2 s.1 s.2) w_N (0, h)).bind fun ez5 =>
  q_152_17 ez5.2 ez5.1
theorem p_152_ok {X : List Int32}  {h : Hp}   {r : Int32 × Hp} (hF : p_152 h = some r) : k_Ev X 2 152 [.ref (1076 + 1)] h (.inl (some (.int r.1)), r.2) := by
  refine k_of hk_152 ?_
  show k_Go X 2 152 (0, [.ref (1076 + 1), (.retAddr 0)], []) h _
  unfold p_152 at hF
  refine kg_push (x := 0) hk_152 rfl (by decide) rfl ?_
  refine kg_istore (L2 := [.ref (1076 + 1), .int 0]) hk_152 rfl (Nat.le_of_ble_eq_true rfl) rfl rfl ?_
  refine wf_bind hF (fun ez5 hez5 hF => ?_)
  refine l_152_2_ok hez5 ?_
  exact q_152_17_ok hF
-- NotebookWeirModel.isExpression()Z
theorem hk_153 : jP[153]? = some (jc_153, 4, [], []) := by rfl
def q_153_151 (h : Hp) : Option ((Int32 × Hp) ⊕ Int32 × Hp) :=
  w_let (w_up h 1076 67 ((h 1076 67) + 1)) fun hz23 =>
  some (.inl (1, hz23))
theorem q_153_151_ok {X : List Int32} {o : kO}  {h : Hp}  {r : (Int32 × Hp) ⊕ Int32 × Hp} (hF : q_153_151 h = some r) (hK : ∀ s' : Int32 × Hp, r = .inl s' → ∀ (u2 : Value) (u3 : Value), k_Go X 3 153 (5, [.ref (1076 + 1), .int (s'.1), u2, u3], []) s'.2 o) (hX0 : ∀ e : Int32 × Hp, r = .inr e → (.inl (some (.int e.1)), e.2) = o) : ∀ (u1 : Value) (u2 : Value) (u3 : Value), k_Go X 3 153 (151, [.ref (1076 + 1), u1, u2, u3], []) h o := by
  intro u1 u2 u3
  unfold q_153_151 at hF
  refine kg_aload hk_153 rfl rfl rfl ?_
  refine kg_dup hk_153 rfl rfl rfl ?_
  refine kg_get (v := .int (h 1076 67)) hk_153 rfl wk_1076_67 rfl rfl ?_
  refine kg_push (x := 1) hk_153 rfl (by decide) rfl ?_
  refine kg_bin (z := ((h 1076 67) + 1)) hk_153 rfl rfl rfl ?_
  refine wf_let hF (fun hz23 hhz23 hF => ?_)
  refine kg_put hk_153 rfl wk_1076_67 rfl rfl hhz23 rfl ?_
  refine kg_push (x := 1) hk_153 rfl (by decide) rfl ?_
  refine kg_istore (L2 := [.ref (1076 + 1), .int 1, u2, u3]) hk_153 rfl (Nat.le_of_ble_eq_true rfl) rfl rfl ?_
  refine kg_goto hk_153 rfl ?_
  refine kg_goto hk_153 rfl ?_
  have hF := Option.some.inj hF
  exact hK _ hF.symm _ _
def q_153_186 (h : Hp) (x2 : Int32) (x3 : Int32) : Option ((Int32 × Hp) ⊕ Int32 × Hp) :=
  if x2 = 44 then
    (if x3 = 0 then
      (some (.inr (0, h)))
    else
      (w_gd (w_ix ((h 1076 70) - 1) 80) <|
      if (h 1129 ((h 1076 70) - 1).toNatClampNeg) < 8 then
        (w_gd (w_ix ((h 1076 70) - 1) 80) <|
        w_gd (w_ix ((h 1076 70) - 1) 80) <|
        w_let (w_up h 1129 (((h 1076 70) - 1).toNatClampNeg) ((h 1129 ((h 1076 70) - 1).toNatClampNeg) + 1)) fun hz36 =>
        w_let (w_up hz36 1076 67 ((hz36 1076 67) + 1)) fun hz37 =>
        some (.inl (1, hz37)))
      else
        (some (.inr (0, h)))))
  else
    (some (.inr (0, h)))
theorem q_153_186_ok {X : List Int32} {o : kO}  {h : Hp} {x2 : Int32} {x3 : Int32}  {r : (Int32 × Hp) ⊕ Int32 × Hp} (hF : q_153_186 h x2 x3 = some r) (hK : ∀ s' : Int32 × Hp, r = .inl s' → ∀ (u2 : Value) (u3 : Value), k_Go X 3 153 (5, [.ref (1076 + 1), .int (s'.1), u2, u3], []) s'.2 o) (hX0 : ∀ e : Int32 × Hp, r = .inr e → (.inl (some (.int e.1)), e.2) = o) : ∀ (u1 : Value), k_Go X 3 153 (186, [.ref (1076 + 1), u1, .int x2, .int x3], []) h o := by
  intro u1
  unfold q_153_186 at hF
  refine kg_iload hk_153 rfl rfl rfl ?_
  refine kg_push (x := 44) hk_153 rfl (by decide) rfl ?_
  refine wf_if hF (fun cz30 hF => ?_) (fun cz30 hF => ?_)
  · refine kg_icF hk_153 rfl (jc_F1 cz30) rfl ?_
    refine kg_iload hk_153 rfl rfl rfl ?_
    refine wf_if hF (fun cz31 hF => ?_) (fun cz31 hF => ?_)
    · refine kg_ifT hk_153 rfl (jc_T0 cz31) ?_
      refine kg_push (x := 0) hk_153 rfl (by decide) rfl ?_
      have hF := Option.some.inj hF
      exact kg_iret hk_153 rfl (Or.inr rfl) (hX0 _ hF.symm)
    · refine kg_ifF hk_153 rfl (jc_F0 cz31) rfl ?_
      refine kg_aload hk_153 rfl rfl rfl ?_
      refine kg_get (v := .ref (1129 + 1)) hk_153 rfl wk_1076_69 rfl rfl ?_
      refine kg_aload hk_153 rfl rfl rfl ?_
      refine kg_get (v := .int (h 1076 70)) hk_153 rfl wk_1076_70 rfl rfl ?_
      refine kg_push (x := 1) hk_153 rfl (by decide) rfl ?_
      refine kg_bin (z := ((h 1076 70) - 1)) hk_153 rfl rfl rfl ?_
      refine wf_gd hF (fun gz32 hF => ?_)
      refine kg_ald (y := (h 1129 ((h 1076 70) - 1).toNatClampNeg)) hk_153 rfl wc_1129 gz32 rfl rfl ?_
      refine kg_push (x := 8) hk_153 rfl (by decide) rfl ?_
      refine wf_if hF (fun cz33 hF => ?_) (fun cz33 hF => ?_)
      · refine kg_icF hk_153 rfl (jc_F3 cz33) rfl ?_
        refine kg_aload hk_153 rfl rfl rfl ?_
        refine kg_get (v := .ref (1129 + 1)) hk_153 rfl wk_1076_69 rfl rfl ?_
        refine kg_aload hk_153 rfl rfl rfl ?_
        refine kg_get (v := .int (h 1076 70)) hk_153 rfl wk_1076_70 rfl rfl ?_
        refine kg_push (x := 1) hk_153 rfl (by decide) rfl ?_
        refine kg_bin (z := ((h 1076 70) - 1)) hk_153 rfl rfl rfl ?_
        refine kg_dup2 hk_153 rfl ⟨rfl, rfl⟩ rfl ?_
        refine wf_gd hF (fun gz34 hF => ?_)
        refine kg_ald (y := (h 1129 ((h 1076 70) - 1).toNatClampNeg)) hk_153 rfl wc_1129 gz34 rfl rfl ?_
        refine kg_push (x := 1) hk_153 rfl (by decide) rfl ?_
        refine kg_bin (z := ((h 1129 ((h 1076 70) - 1).toNatClampNeg) + 1)) hk_153 rfl rfl rfl ?_
        refine wf_gd hF (fun gz35 hF => ?_)
        refine wf_let hF (fun hz36 hhz36 hF => ?_)
        refine kg_ast hk_153 rfl wc_1129 gz35 hhz36 rfl ?_
        refine kg_aload hk_153 rfl rfl rfl ?_
        refine kg_dup hk_153 rfl rfl rfl ?_
        refine kg_get (v := .int (hz36 1076 67)) hk_153 rfl wk_1076_67 rfl rfl ?_
        refine kg_push (x := 1) hk_153 rfl (by decide) rfl ?_
        refine kg_bin (z := ((hz36 1076 67) + 1)) hk_153 rfl rfl rfl ?_
        refine wf_let hF (fun hz37 hhz37 hF => ?_)
        refine kg_put hk_153 rfl wk_1076_67 rfl rfl hhz37 rfl ?_
        refine kg_push (x := 1) hk_153 rfl (by decide) rfl ?_
        refine kg_istore (L2 := [.ref (1076 + 1), .int 1, .int x2, .int x3]) hk_153 rfl (Nat.le_of_ble_eq_true rfl) rfl rfl ?_
        refine kg_goto hk_153 rfl ?_
        refine kg_goto hk_153 rfl ?_
        have hF := Option.some.inj hF
        exact hK _ hF.symm _ _
      · refine kg_icT hk_153 rfl (jc_T3 cz33) ?_
        refine kg_push (x := 0) hk_153 rfl (by decide) rfl ?_
        have hF := Option.some.inj hF
        exact kg_iret hk_153 rfl (Or.inr rfl) (hX0 _ hF.symm)
  · refine kg_icT hk_153 rfl (jc_T1 cz30) ?_
    refine kg_push (x := 0) hk_153 rfl (by decide) rfl ?_
    have hF := Option.some.inj hF
    exact kg_iret hk_153 rfl (Or.inr rfl) (hX0 _ hF.symm)
def q_153_173 (h : Hp) (x1 : Int32) : Option ((Int32 × Hp) ⊕ Int32 × Hp) :=
  w_let (w_up h 1076 70 ((h 1076 70) - 1)) fun hz38 =>
  w_let (w_up hz38 1076 67 ((hz38 1076 67) + 1)) fun hz39 =>
  some (.inl (x1, hz39))
theorem q_153_173_ok {X : List Int32} {o : kO}  {h : Hp} {x1 : Int32}  {r : (Int32 × Hp) ⊕ Int32 × Hp} (hF : q_153_173 h x1 = some r) (hK : ∀ s' : Int32 × Hp, r = .inl s' → ∀ (u2 : Value) (u3 : Value), k_Go X 3 153 (5, [.ref (1076 + 1), .int (s'.1), u2, u3], []) s'.2 o) (hX0 : ∀ e : Int32 × Hp, r = .inr e → (.inl (some (.int e.1)), e.2) = o) : ∀ (u2 : Value) (u3 : Value), k_Go X 3 153 (173, [.ref (1076 + 1), .int x1, u2, u3], []) h o := by
  intro u2 u3
  unfold q_153_173 at hF
  refine kg_aload hk_153 rfl rfl rfl ?_
  refine kg_dup hk_153 rfl rfl rfl ?_
  refine kg_get (v := .int (h 1076 70)) hk_153 rfl wk_1076_70 rfl rfl ?_
  refine kg_push (x := 1) hk_153 rfl (by decide) rfl ?_
  refine kg_bin (z := ((h 1076 70) - 1)) hk_153 rfl rfl rfl ?_
  refine wf_let hF (fun hz38 hhz38 hF => ?_)
  refine kg_put hk_153 rfl wk_1076_70 rfl rfl hhz38 rfl ?_
  refine kg_aload hk_153 rfl rfl rfl ?_
  refine kg_dup hk_153 rfl rfl rfl ?_
  refine kg_get (v := .int (hz38 1076 67)) hk_153 rfl wk_1076_67 rfl rfl ?_
  refine kg_push (x := 1) hk_153 rfl (by decide) rfl ?_
  refine kg_bin (z := ((hz38 1076 67) + 1)) hk_153 rfl rfl rfl ?_
  refine wf_let hF (fun hz39 hhz39 hF => ?_)
  refine kg_put hk_153 rfl wk_1076_67 rfl rfl hhz39 rfl ?_
  refine kg_goto hk_153 rfl ?_
  refine kg_goto hk_153 rfl ?_
  have hF := Option.some.inj hF
  exact hK _ hF.symm _ _
def q_153_168 (h : Hp) (x1 : Int32) (x2 : Int32) (x3 : Int32) : Option ((Int32 × Hp) ⊕ Int32 × Hp) :=
  if x2 = 93 then
    (if x3 = 0 then
      (q_153_186 h x2 x3)
    else
      (q_153_173 h x1))
  else
    (q_153_186 h x2 x3)
theorem q_153_168_ok {X : List Int32} {o : kO}  {h : Hp} {x1 : Int32} {x2 : Int32} {x3 : Int32}  {r : (Int32 × Hp) ⊕ Int32 × Hp} (hF : q_153_168 h x1 x2 x3 = some r) (hK : ∀ s' : Int32 × Hp, r = .inl s' → ∀ (u2 : Value) (u3 : Value), k_Go X 3 153 (5, [.ref (1076 + 1), .int (s'.1), u2, u3], []) s'.2 o) (hX0 : ∀ e : Int32 × Hp, r = .inr e → (.inl (some (.int e.1)), e.2) = o) : k_Go X 3 153 (168, [.ref (1076 + 1), .int x1, .int x2, .int x3], []) h o := by
  unfold q_153_168 at hF
  refine kg_iload hk_153 rfl rfl rfl ?_
  refine kg_push (x := 93) hk_153 rfl (by decide) rfl ?_
  refine wf_if hF (fun cz28 hF => ?_) (fun cz28 hF => ?_)
  · refine kg_icF hk_153 rfl (jc_F1 cz28) rfl ?_
    refine kg_iload hk_153 rfl rfl rfl ?_
    refine wf_if hF (fun cz29 hF => ?_) (fun cz29 hF => ?_)
    · refine kg_ifT hk_153 rfl (jc_T0 cz29) ?_
      exact q_153_186_ok hF hK hX0 _
    · refine kg_ifF hk_153 rfl (jc_F0 cz29) rfl ?_
      exact q_153_173_ok hF hK hX0 _ _
  · refine kg_icT hk_153 rfl (jc_T1 cz28) ?_
    exact q_153_186_ok hF hK hX0 _
def q_153_116 (h : Hp) (x1 : Int32) (x2 : Int32) (x3 : Int32) : Option ((Int32 × Hp) ⊕ Int32 × Hp) :=
  if x1 = 0 then
    (if x2 = 46 then
      (w_let (w_up h 1076 67 ((h 1076 67) + 1)) fun hz18 =>
      w_gd (g_150 hz18) <|
      if (v_149 (v_150 hz18)) = 0 then
        (some (.inr (0, hz18)))
      else
        (w_let (w_up hz18 1076 67 ((hz18 1076 67) + 1)) fun hz21 =>
        some (.inl (x1, hz21))))
    else
      (if x2 = 43 then
        (q_153_151 h)
      else
        (if x2 = 45 then
          (q_153_151 h)
        else
          (if x2 = 42 then
            (q_153_151 h)
          else
            (if x2 = 41 then
              (if (h 1076 70) ≤ 0 then
                (q_153_168 h x1 x2 x3)
              else
                (if x3 = 0 then
                  (q_153_173 h x1)
                else
                  (q_153_168 h x1 x2 x3)))
            else
              (q_153_168 h x1 x2 x3))))))
  else
    (some (.inr (0, h)))
theorem q_153_116_ok {X : List Int32} {o : kO}  {h : Hp} {x1 : Int32} {x2 : Int32} {x3 : Int32}  {r : (Int32 × Hp) ⊕ Int32 × Hp} (hF : q_153_116 h x1 x2 x3 = some r) (hK : ∀ s' : Int32 × Hp, r = .inl s' → ∀ (u2 : Value) (u3 : Value), k_Go X 3 153 (5, [.ref (1076 + 1), .int (s'.1), u2, u3], []) s'.2 o) (hX0 : ∀ e : Int32 × Hp, r = .inr e → (.inl (some (.int e.1)), e.2) = o) : k_Go X 3 153 (116, [.ref (1076 + 1), .int x1, .int x2, .int x3], []) h o := by
  unfold q_153_116 at hF
  refine kg_iload hk_153 rfl rfl rfl ?_
  refine wf_if hF (fun cz16 hF => ?_) (fun cz16 hF => ?_)
  · refine kg_ifT hk_153 rfl (jc_T0 cz16) ?_
    refine kg_iload hk_153 rfl rfl rfl ?_
    refine kg_push (x := 46) hk_153 rfl (by decide) rfl ?_
    refine wf_if hF (fun cz17 hF => ?_) (fun cz17 hF => ?_)
    · refine kg_icF hk_153 rfl (jc_F1 cz17) rfl ?_
      refine kg_aload hk_153 rfl rfl rfl ?_
      refine kg_dup hk_153 rfl rfl rfl ?_
      refine kg_get (v := .int (h 1076 67)) hk_153 rfl wk_1076_67 rfl rfl ?_
      refine kg_push (x := 1) hk_153 rfl (by decide) rfl ?_
      refine kg_bin (z := ((h 1076 67) + 1)) hk_153 rfl rfl rfl ?_
      refine wf_let hF (fun hz18 hhz18 hF => ?_)
      refine kg_put hk_153 rfl wk_1076_67 rfl rfl hhz18 rfl ?_
      refine kg_aload hk_153 rfl rfl rfl ?_
      refine wf_gd hF (fun gz19 hF => ?_)
      refine kg_call (as := [.ref (1076 + 1)]) (rest := []) hk_153 rfl (Or.inr (Or.inr (Or.inr ⟨Or.inl rfl, _, _, rfl, wc_1076⟩))) rfl rfl rfl (Nat.not_lt.mpr (Nat.le_of_ble_eq_true rfl)) (v_150_ok gz19) (by decide) rfl ?_
      refine kg_call (as := [.int (v_150 hz18)]) (rest := []) hk_153 rfl (Or.inl rfl) rfl rfl rfl (Nat.not_lt.mpr (Nat.le_of_ble_eq_true rfl)) (v_149_ok) (by decide) rfl ?_
      refine wf_if hF (fun cz20 hF => ?_) (fun cz20 hF => ?_)
      · refine kg_ifF hk_153 rfl (jc_F1 cz20) rfl ?_
        refine kg_push (x := 0) hk_153 rfl (by decide) rfl ?_
        have hF := Option.some.inj hF
        exact kg_iret hk_153 rfl (Or.inr rfl) (hX0 _ hF.symm)
      · refine kg_ifT hk_153 rfl (jc_T1 cz20) ?_
        refine kg_aload hk_153 rfl rfl rfl ?_
        refine kg_dup hk_153 rfl rfl rfl ?_
        refine kg_get (v := .int (hz18 1076 67)) hk_153 rfl wk_1076_67 rfl rfl ?_
        refine kg_push (x := 1) hk_153 rfl (by decide) rfl ?_
        refine kg_bin (z := ((hz18 1076 67) + 1)) hk_153 rfl rfl rfl ?_
        refine wf_let hF (fun hz21 hhz21 hF => ?_)
        refine kg_put hk_153 rfl wk_1076_67 rfl rfl hhz21 rfl ?_
        refine kg_goto hk_153 rfl ?_
        refine kg_goto hk_153 rfl ?_
        have hF := Option.some.inj hF
        exact hK _ hF.symm _ _
    · refine kg_icT hk_153 rfl (jc_T1 cz17) ?_
      refine kg_iload hk_153 rfl rfl rfl ?_
      refine kg_push (x := 43) hk_153 rfl (by decide) rfl ?_
      refine wf_if hF (fun cz22 hF => ?_) (fun cz22 hF => ?_)
      · refine kg_icT hk_153 rfl (jc_T0 cz22) ?_
        exact q_153_151_ok hF hK hX0 _ _ _
      · refine kg_icF hk_153 rfl (jc_F0 cz22) rfl ?_
        refine kg_iload hk_153 rfl rfl rfl ?_
        refine kg_push (x := 45) hk_153 rfl (by decide) rfl ?_
        refine wf_if hF (fun cz24 hF => ?_) (fun cz24 hF => ?_)
        · refine kg_icT hk_153 rfl (jc_T0 cz24) ?_
          exact q_153_151_ok hF hK hX0 _ _ _
        · refine kg_icF hk_153 rfl (jc_F0 cz24) rfl ?_
          refine kg_iload hk_153 rfl rfl rfl ?_
          refine kg_push (x := 42) hk_153 rfl (by decide) rfl ?_
          refine wf_if hF (fun cz25 hF => ?_) (fun cz25 hF => ?_)
          · refine kg_icF hk_153 rfl (jc_F1 cz25) rfl ?_
            exact q_153_151_ok hF hK hX0 _ _ _
          · refine kg_icT hk_153 rfl (jc_T1 cz25) ?_
            refine kg_iload hk_153 rfl rfl rfl ?_
            refine kg_push (x := 41) hk_153 rfl (by decide) rfl ?_
            refine wf_if hF (fun cz26 hF => ?_) (fun cz26 hF => ?_)
            · refine kg_icF hk_153 rfl (jc_F1 cz26) rfl ?_
              refine kg_aload hk_153 rfl rfl rfl ?_
              refine kg_get (v := .int (h 1076 70)) hk_153 rfl wk_1076_70 rfl rfl ?_
              refine wf_if hF (fun cz27 hF => ?_) (fun cz27 hF => ?_)
              · refine kg_ifT hk_153 rfl (jc_T5 cz27) ?_
                exact q_153_168_ok hF hK hX0
              · refine kg_ifF hk_153 rfl (jc_F5 cz27) rfl ?_
                refine kg_iload hk_153 rfl rfl rfl ?_
                refine wf_if hF (fun cz40 hF => ?_) (fun cz40 hF => ?_)
                · refine kg_ifT hk_153 rfl (jc_T0 cz40) ?_
                  exact q_153_173_ok hF hK hX0 _ _
                · refine kg_ifF hk_153 rfl (jc_F0 cz40) rfl ?_
                  exact q_153_168_ok hF hK hX0
            · refine kg_icT hk_153 rfl (jc_T1 cz26) ?_
              exact q_153_168_ok hF hK hX0
  · refine kg_ifF hk_153 rfl (jc_F0 cz16) rfl ?_
    refine kg_push (x := 0) hk_153 rfl (by decide) rfl ?_
    have hF := Option.some.inj hF
    exact kg_iret hk_153 rfl (Or.inr rfl) (hX0 _ hF.symm)
def q_153_91 (h : Hp) (x1 : Int32) (x2 : Int32) : Option ((Int32 × Hp) ⊕ Int32 × Hp) :=
  w_gd (w_ix (h 1076 70) 80) <|
  w_let (w_up h 1128 ((h 1076 70).toNatClampNeg) x2) fun hz43 =>
  w_gd (w_ix (hz43 1076 70) 80) <|
  w_let (w_up hz43 1129 ((hz43 1076 70).toNatClampNeg) 1) fun hz45 =>
  w_let (w_up hz45 1076 70 ((hz45 1076 70) + 1)) fun hz46 =>
  w_let (w_up hz46 1076 67 ((hz46 1076 67) + 1)) fun hz47 =>
  some (.inl (x1, hz47))
theorem q_153_91_ok {X : List Int32} {o : kO}  {h : Hp} {x1 : Int32} {x2 : Int32}  {r : (Int32 × Hp) ⊕ Int32 × Hp} (hF : q_153_91 h x1 x2 = some r) (hK : ∀ s' : Int32 × Hp, r = .inl s' → ∀ (u2 : Value) (u3 : Value), k_Go X 3 153 (5, [.ref (1076 + 1), .int (s'.1), u2, u3], []) s'.2 o) (hX0 : ∀ e : Int32 × Hp, r = .inr e → (.inl (some (.int e.1)), e.2) = o) : ∀ (u3 : Value), k_Go X 3 153 (91, [.ref (1076 + 1), .int x1, .int x2, u3], []) h o := by
  intro u3
  unfold q_153_91 at hF
  refine kg_aload hk_153 rfl rfl rfl ?_
  refine kg_get (v := .ref (1128 + 1)) hk_153 rfl wk_1076_68 rfl rfl ?_
  refine kg_aload hk_153 rfl rfl rfl ?_
  refine kg_get (v := .int (h 1076 70)) hk_153 rfl wk_1076_70 rfl rfl ?_
  refine kg_iload hk_153 rfl rfl rfl ?_
  refine wf_gd hF (fun gz42 hF => ?_)
  refine wf_let hF (fun hz43 hhz43 hF => ?_)
  refine kg_ast hk_153 rfl wc_1128 gz42 hhz43 rfl ?_
  refine kg_aload hk_153 rfl rfl rfl ?_
  refine kg_get (v := .ref (1129 + 1)) hk_153 rfl wk_1076_69 rfl rfl ?_
  refine kg_aload hk_153 rfl rfl rfl ?_
  refine kg_get (v := .int (hz43 1076 70)) hk_153 rfl wk_1076_70 rfl rfl ?_
  refine kg_push (x := 1) hk_153 rfl (by decide) rfl ?_
  refine wf_gd hF (fun gz44 hF => ?_)
  refine wf_let hF (fun hz45 hhz45 hF => ?_)
  refine kg_ast hk_153 rfl wc_1129 gz44 hhz45 rfl ?_
  refine kg_aload hk_153 rfl rfl rfl ?_
  refine kg_dup hk_153 rfl rfl rfl ?_
  refine kg_get (v := .int (hz45 1076 70)) hk_153 rfl wk_1076_70 rfl rfl ?_
  refine kg_push (x := 1) hk_153 rfl (by decide) rfl ?_
  refine kg_bin (z := ((hz45 1076 70) + 1)) hk_153 rfl rfl rfl ?_
  refine wf_let hF (fun hz46 hhz46 hF => ?_)
  refine kg_put hk_153 rfl wk_1076_70 rfl rfl hhz46 rfl ?_
  refine kg_aload hk_153 rfl rfl rfl ?_
  refine kg_dup hk_153 rfl rfl rfl ?_
  refine kg_get (v := .int (hz46 1076 67)) hk_153 rfl wk_1076_67 rfl rfl ?_
  refine kg_push (x := 1) hk_153 rfl (by decide) rfl ?_
  refine kg_bin (z := ((hz46 1076 67) + 1)) hk_153 rfl rfl rfl ?_
  refine wf_let hF (fun hz47 hhz47 hF => ?_)
  refine kg_put hk_153 rfl wk_1076_67 rfl rfl hhz47 rfl ?_
  refine kg_goto hk_153 rfl ?_
  refine kg_goto hk_153 rfl ?_
  have hF := Option.some.inj hF
  exact hK _ hF.symm _ _
def q_153_83 (h : Hp) (x1 : Int32) (x2 : Int32) (x3 : Int32) : Option ((Int32 × Hp) ⊕ Int32 × Hp) :=
  if x1 = 0 then
    (q_153_116 h x1 x2 x3)
  else
    (if x2 = 40 then
      (q_153_91 h x1 x2)
    else
      (if x2 = 91 then
        (q_153_91 h x1 x2)
      else
        (q_153_116 h x1 x2 x3)))
theorem q_153_83_ok {X : List Int32} {o : kO}  {h : Hp} {x1 : Int32} {x2 : Int32} {x3 : Int32}  {r : (Int32 × Hp) ⊕ Int32 × Hp} (hF : q_153_83 h x1 x2 x3 = some r) (hK : ∀ s' : Int32 × Hp, r = .inl s' → ∀ (u2 : Value) (u3 : Value), k_Go X 3 153 (5, [.ref (1076 + 1), .int (s'.1), u2, u3], []) s'.2 o) (hX0 : ∀ e : Int32 × Hp, r = .inr e → (.inl (some (.int e.1)), e.2) = o) : k_Go X 3 153 (83, [.ref (1076 + 1), .int x1, .int x2, .int x3], []) h o := by
  unfold q_153_83 at hF
  refine kg_iload hk_153 rfl rfl rfl ?_
  refine wf_if hF (fun cz15 hF => ?_) (fun cz15 hF => ?_)
  · refine kg_ifT hk_153 rfl (jc_T0 cz15) ?_
    exact q_153_116_ok hF hK hX0
  · refine kg_ifF hk_153 rfl (jc_F0 cz15) rfl ?_
    refine kg_iload hk_153 rfl rfl rfl ?_
    refine kg_push (x := 40) hk_153 rfl (by decide) rfl ?_
    refine wf_if hF (fun cz41 hF => ?_) (fun cz41 hF => ?_)
    · refine kg_icT hk_153 rfl (jc_T0 cz41) ?_
      exact q_153_91_ok hF hK hX0 _
    · refine kg_icF hk_153 rfl (jc_F0 cz41) rfl ?_
      refine kg_iload hk_153 rfl rfl rfl ?_
      refine kg_push (x := 91) hk_153 rfl (by decide) rfl ?_
      refine wf_if hF (fun cz48 hF => ?_) (fun cz48 hF => ?_)
      · refine kg_icF hk_153 rfl (jc_F1 cz48) rfl ?_
        exact q_153_91_ok hF hK hX0 _
      · refine kg_icT hk_153 rfl (jc_T1 cz48) ?_
        exact q_153_116_ok hF hK hX0
def q_153_71 (h : Hp) (x1 : Int32) (x2 : Int32) (x3 : Int32) : Option ((Int32 × Hp) ⊕ Int32 × Hp) :=
  if x1 = 0 then
    (q_153_83 h x1 x2 x3)
  else
    (if x2 = 35 then
      (w_let (w_up h 1076 67 ((h 1076 67) + 1)) fun hz50 =>
      some (.inl (x1, hz50)))
    else
      (q_153_83 h x1 x2 x3))
theorem q_153_71_ok {X : List Int32} {o : kO}  {h : Hp} {x1 : Int32} {x2 : Int32} {x3 : Int32}  {r : (Int32 × Hp) ⊕ Int32 × Hp} (hF : q_153_71 h x1 x2 x3 = some r) (hK : ∀ s' : Int32 × Hp, r = .inl s' → ∀ (u2 : Value) (u3 : Value), k_Go X 3 153 (5, [.ref (1076 + 1), .int (s'.1), u2, u3], []) s'.2 o) (hX0 : ∀ e : Int32 × Hp, r = .inr e → (.inl (some (.int e.1)), e.2) = o) : k_Go X 3 153 (71, [.ref (1076 + 1), .int x1, .int x2, .int x3], []) h o := by
  unfold q_153_71 at hF
  refine kg_iload hk_153 rfl rfl rfl ?_
  refine wf_if hF (fun cz14 hF => ?_) (fun cz14 hF => ?_)
  · refine kg_ifT hk_153 rfl (jc_T0 cz14) ?_
    exact q_153_83_ok hF hK hX0
  · refine kg_ifF hk_153 rfl (jc_F0 cz14) rfl ?_
    refine kg_iload hk_153 rfl rfl rfl ?_
    refine kg_push (x := 35) hk_153 rfl (by decide) rfl ?_
    refine wf_if hF (fun cz49 hF => ?_) (fun cz49 hF => ?_)
    · refine kg_icF hk_153 rfl (jc_F1 cz49) rfl ?_
      refine kg_aload hk_153 rfl rfl rfl ?_
      refine kg_dup hk_153 rfl rfl rfl ?_
      refine kg_get (v := .int (h 1076 67)) hk_153 rfl wk_1076_67 rfl rfl ?_
      refine kg_push (x := 1) hk_153 rfl (by decide) rfl ?_
      refine kg_bin (z := ((h 1076 67) + 1)) hk_153 rfl rfl rfl ?_
      refine wf_let hF (fun hz50 hhz50 hF => ?_)
      refine kg_put hk_153 rfl wk_1076_67 rfl rfl hhz50 rfl ?_
      refine kg_goto hk_153 rfl ?_
      refine kg_goto hk_153 rfl ?_
      have hF := Option.some.inj hF
      exact hK _ hF.symm _ _
    · refine kg_icT hk_153 rfl (jc_T1 cz49) ?_
      exact q_153_83_ok hF hK hX0
def q_153_62 (h : Hp) : Option ((Int32 × Hp) ⊕ Int32 × Hp) :=
  w_let (w_up h 1076 67 ((h 1076 67) + 1)) fun hz53 =>
  some (.inl (0, hz53))
theorem q_153_62_ok {X : List Int32} {o : kO}  {h : Hp}  {r : (Int32 × Hp) ⊕ Int32 × Hp} (hF : q_153_62 h = some r) (hK : ∀ s' : Int32 × Hp, r = .inl s' → ∀ (u2 : Value) (u3 : Value), k_Go X 3 153 (5, [.ref (1076 + 1), .int (s'.1), u2, u3], []) s'.2 o) (hX0 : ∀ e : Int32 × Hp, r = .inr e → (.inl (some (.int e.1)), e.2) = o) : ∀ (u1 : Value) (u2 : Value) (u3 : Value), k_Go X 3 153 (62, [.ref (1076 + 1), u1, u2, u3], []) h o := by
  intro u1 u2 u3
  unfold q_153_62 at hF
  refine kg_aload hk_153 rfl rfl rfl ?_
  refine kg_dup hk_153 rfl rfl rfl ?_
  refine kg_get (v := .int (h 1076 67)) hk_153 rfl wk_1076_67 rfl rfl ?_
  refine kg_push (x := 1) hk_153 rfl (by decide) rfl ?_
  refine kg_bin (z := ((h 1076 67) + 1)) hk_153 rfl rfl rfl ?_
  refine wf_let hF (fun hz53 hhz53 hF => ?_)
  refine kg_put hk_153 rfl wk_1076_67 rfl rfl hhz53 rfl ?_
  refine kg_push (x := 0) hk_153 rfl (by decide) rfl ?_
  refine kg_istore (L2 := [.ref (1076 + 1), .int 0, u2, u3]) hk_153 rfl (Nat.le_of_ble_eq_true rfl) rfl rfl ?_
  refine kg_goto hk_153 rfl ?_
  refine kg_goto hk_153 rfl ?_
  have hF := Option.some.inj hF
  exact hK _ hF.symm _ _
def q_153_51 (h : Hp) (x1 : Int32) (x2 : Int32) (x3 : Int32) : Option ((Int32 × Hp) ⊕ Int32 × Hp) :=
  if x1 = 0 then
    (q_153_71 h x1 x2 x3)
  else
    (if (v_148 x2) = 0 then
      (if x2 = 63 then
        (q_153_62 h)
      else
        (if x2 = 64 then
          (q_153_62 h)
        else
          (q_153_71 h x1 x2 x3)))
    else
      (q_153_62 h))
theorem q_153_51_ok {X : List Int32} {o : kO}  {h : Hp} {x1 : Int32} {x2 : Int32} {x3 : Int32}  {r : (Int32 × Hp) ⊕ Int32 × Hp} (hF : q_153_51 h x1 x2 x3 = some r) (hK : ∀ s' : Int32 × Hp, r = .inl s' → ∀ (u2 : Value) (u3 : Value), k_Go X 3 153 (5, [.ref (1076 + 1), .int (s'.1), u2, u3], []) s'.2 o) (hX0 : ∀ e : Int32 × Hp, r = .inr e → (.inl (some (.int e.1)), e.2) = o) : k_Go X 3 153 (51, [.ref (1076 + 1), .int x1, .int x2, .int x3], []) h o := by
  unfold q_153_51 at hF
  refine kg_iload hk_153 rfl rfl rfl ?_
  refine wf_if hF (fun cz13 hF => ?_) (fun cz13 hF => ?_)
  · refine kg_ifT hk_153 rfl (jc_T0 cz13) ?_
    exact q_153_71_ok hF hK hX0
  · refine kg_ifF hk_153 rfl (jc_F0 cz13) rfl ?_
    refine kg_iload hk_153 rfl rfl rfl ?_
    refine kg_call (as := [.int x2]) (rest := []) hk_153 rfl (Or.inl rfl) rfl rfl rfl (Nat.not_lt.mpr (Nat.le_of_ble_eq_true rfl)) (v_148_ok) (by decide) rfl ?_
    refine wf_if hF (fun cz51 hF => ?_) (fun cz51 hF => ?_)
    · refine kg_ifF hk_153 rfl (jc_F1 cz51) rfl ?_
      refine kg_iload hk_153 rfl rfl rfl ?_
      refine kg_push (x := 63) hk_153 rfl (by decide) rfl ?_
      refine wf_if hF (fun cz52 hF => ?_) (fun cz52 hF => ?_)
      · refine kg_icT hk_153 rfl (jc_T0 cz52) ?_
        exact q_153_62_ok hF hK hX0 _ _ _
      · refine kg_icF hk_153 rfl (jc_F0 cz52) rfl ?_
        refine kg_iload hk_153 rfl rfl rfl ?_
        refine kg_push (x := 64) hk_153 rfl (by decide) rfl ?_
        refine wf_if hF (fun cz54 hF => ?_) (fun cz54 hF => ?_)
        · refine kg_icF hk_153 rfl (jc_F1 cz54) rfl ?_
          exact q_153_62_ok hF hK hX0 _ _ _
        · refine kg_icT hk_153 rfl (jc_T1 cz54) ?_
          exact q_153_71_ok hF hK hX0
    · refine kg_ifT hk_153 rfl (jc_T1 cz51) ?_
      exact q_153_62_ok hF hK hX0 _ _ _
def q_153_37 (h : Hp) (x1 : Int32) (x2 : Int32) (s0 : Int32) : Option ((Int32 × Hp) ⊕ Int32 × Hp) :=
  if x1 = 0 then
    (q_153_51 h x1 x2 s0)
  else
    (if (v_149 x2) = 0 then
      (q_153_51 h x1 x2 s0)
    else
      ((p_152 h).bind fun vz56 =>
      if vz56.1 = 0 then
        (some (.inr (0, vz56.2)))
      else
        (some (.inl (0, vz56.2)))))
theorem q_153_37_ok {X : List Int32} {o : kO}  {h : Hp} {s0 : Int32} {x1 : Int32} {x2 : Int32}  {r : (Int32 × Hp) ⊕ Int32 × Hp} (hF : q_153_37 h x1 x2 s0 = some r) (hK : ∀ s' : Int32 × Hp, r = .inl s' → ∀ (u2 : Value) (u3 : Value), k_Go X 3 153 (5, [.ref (1076 + 1), .int (s'.1), u2, u3], []) s'.2 o) (hX0 : ∀ e : Int32 × Hp, r = .inr e → (.inl (some (.int e.1)), e.2) = o) : ∀ (u3 : Value), k_Go X 3 153 (37, [.ref (1076 + 1), .int x1, .int x2, u3], [.int s0]) h o := by
  intro u3
  unfold q_153_37 at hF
  refine kg_istore (L2 := [.ref (1076 + 1), .int x1, .int x2, .int s0]) hk_153 rfl (Nat.le_of_ble_eq_true rfl) rfl rfl ?_
  refine kg_iload hk_153 rfl rfl rfl ?_
  refine wf_if hF (fun cz12 hF => ?_) (fun cz12 hF => ?_)
  · refine kg_ifT hk_153 rfl (jc_T0 cz12) ?_
    exact q_153_51_ok hF hK hX0
  · refine kg_ifF hk_153 rfl (jc_F0 cz12) rfl ?_
    refine kg_iload hk_153 rfl rfl rfl ?_
    refine kg_call (as := [.int x2]) (rest := []) hk_153 rfl (Or.inl rfl) rfl rfl rfl (Nat.not_lt.mpr (Nat.le_of_ble_eq_true rfl)) (v_149_ok) (by decide) rfl ?_
    refine wf_if hF (fun cz55 hF => ?_) (fun cz55 hF => ?_)
    · refine kg_ifT hk_153 rfl (jc_T0 cz55) ?_
      exact q_153_51_ok hF hK hX0
    · refine kg_ifF hk_153 rfl (jc_F0 cz55) rfl ?_
      refine kg_aload hk_153 rfl rfl rfl ?_
      refine wf_bind hF (fun vz56 hvz56 hF => ?_)
      refine kg_call (as := [.ref (1076 + 1)]) (rest := []) hk_153 rfl (Or.inr (Or.inr (Or.inr ⟨Or.inl rfl, _, _, rfl, wc_1076⟩))) rfl rfl rfl (Nat.not_lt.mpr (Nat.le_of_ble_eq_true rfl)) (p_152_ok hvz56) (by decide) rfl ?_
      refine wf_if hF (fun cz57 hF => ?_) (fun cz57 hF => ?_)
      · refine kg_ifF hk_153 rfl (jc_F1 cz57) rfl ?_
        refine kg_push (x := 0) hk_153 rfl (by decide) rfl ?_
        have hF := Option.some.inj hF
        exact kg_iret hk_153 rfl (Or.inr rfl) (hX0 _ hF.symm)
      · refine kg_ifT hk_153 rfl (jc_T1 cz57) ?_
        refine kg_push (x := 0) hk_153 rfl (by decide) rfl ?_
        refine kg_istore (L2 := [.ref (1076 + 1), .int 0, .int x2, .int s0]) hk_153 rfl (Nat.le_of_ble_eq_true rfl) rfl rfl ?_
        refine kg_goto hk_153 rfl ?_
        refine kg_goto hk_153 rfl ?_
        have hF := Option.some.inj hF
        exact hK _ hF.symm _ _
def q_153_19 (h : Hp) (x1 : Int32) : Option ((Int32 × Hp) ⊕ Int32 × Hp) :=
  w_gd (g_150 h) <|
  w_gd ((if (h 1076 70) ≤ 0 then true else w_ix ((h 1076 70) - 1) 80)) <|
  q_153_37 h x1 (v_150 h) (if (h 1076 70) ≤ 0 then 0 else (if (h 1128 ((h 1076 70) - 1).toNatClampNeg) = 91 then 1 else 0 : Int32) : Int32)
theorem q_153_19_ok {X : List Int32} {o : kO}  {h : Hp} {x1 : Int32}  {r : (Int32 × Hp) ⊕ Int32 × Hp} (hF : q_153_19 h x1 = some r) (hK : ∀ s' : Int32 × Hp, r = .inl s' → ∀ (u2 : Value) (u3 : Value), k_Go X 3 153 (5, [.ref (1076 + 1), .int (s'.1), u2, u3], []) s'.2 o) (hX0 : ∀ e : Int32 × Hp, r = .inr e → (.inl (some (.int e.1)), e.2) = o) : ∀ (u2 : Value) (u3 : Value), k_Go X 3 153 (19, [.ref (1076 + 1), .int x1, u2, u3], []) h o := by
  intro u2 u3
  unfold q_153_19 at hF
  refine kg_aload hk_153 rfl rfl rfl ?_
  refine wf_gd hF (fun gz7 hF => ?_)
  refine kg_call (as := [.ref (1076 + 1)]) (rest := []) hk_153 rfl (Or.inr (Or.inr (Or.inr ⟨Or.inl rfl, _, _, rfl, wc_1076⟩))) rfl rfl rfl (Nat.not_lt.mpr (Nat.le_of_ble_eq_true rfl)) (v_150_ok gz7) (by decide) rfl ?_
  refine kg_istore (L2 := [.ref (1076 + 1), .int x1, .int (v_150 h), u3]) hk_153 rfl (Nat.le_of_ble_eq_true rfl) rfl rfl ?_
  refine kg_aload hk_153 rfl rfl rfl ?_
  refine kg_get (v := .int (h 1076 70)) hk_153 rfl wk_1076_70 rfl rfl ?_
  refine wf_gd hF (fun gz11 hF => ?_)
  refine kv_mid (p := 37) (L := [.ref (1076 + 1), .int x1, .int (v_150 h), u3]) (S := [.int (if (h 1076 70) ≤ 0 then 0 else (if (h 1128 ((h 1076 70) - 1).toNatClampNeg) = 91 then 1 else 0 : Int32) : Int32)]) ?_ (fun hK => ?_)
  · exact q_153_37_ok hF hK hX0 _
  · have hg := gz11
    by_cases cz8 : (h 1076 70) ≤ 0
    · have hK := kv_T cz8 hK
      refine kg_ifT hk_153 rfl (jc_T5 cz8) ?_
      refine kg_push (x := 0) hk_153 rfl (by decide) rfl ?_
      exact hK
    · have hg := wv_F cz8 hg
      have hK := kv_F cz8 hK
      have gz9 := hg
      refine kg_ifF hk_153 rfl (jc_F5 cz8) rfl ?_
      refine kg_aload hk_153 rfl rfl rfl ?_
      refine kg_get (v := .ref (1128 + 1)) hk_153 rfl wk_1076_68 rfl rfl ?_
      refine kg_aload hk_153 rfl rfl rfl ?_
      refine kg_get (v := .int (h 1076 70)) hk_153 rfl wk_1076_70 rfl rfl ?_
      refine kg_push (x := 1) hk_153 rfl (by decide) rfl ?_
      refine kg_bin (z := ((h 1076 70) - 1)) hk_153 rfl rfl rfl ?_
      refine kg_ald (y := (h 1128 ((h 1076 70) - 1).toNatClampNeg)) hk_153 rfl wc_1128 gz9 rfl rfl ?_
      refine kg_push (x := 91) hk_153 rfl (by decide) rfl ?_
      by_cases cz10 : (h 1128 ((h 1076 70) - 1).toNatClampNeg) = 91
      · have hK := kv_T cz10 hK
        refine kg_icF hk_153 rfl (jc_F1 cz10) rfl ?_
        refine kg_push (x := 1) hk_153 rfl (by decide) rfl ?_
        refine kg_goto hk_153 rfl ?_
        exact hK
      · have hK := kv_F cz10 hK
        refine kg_icT hk_153 rfl (jc_T1 cz10) ?_
        refine kg_push (x := 0) hk_153 rfl (by decide) rfl ?_
        exact hK
def l_153_5 (x1 : Int32) (h : Hp) : Option ((Int32 × Hp) ⊕ Int32 × Hp) :=
  if x1 = 0 then
    (if (h 1076 70) ≤ 0 then
      (if (h 1076 67) < (h 1076 66) then
        (w_gd (g_150 h) <|
        if (v_150 h) = 59 then
          (some (.inr (1, h)))
        else
          (q_153_19 h x1))
      else
        (some (.inr (1, h))))
    else
      (q_153_19 h x1))
  else
    (q_153_19 h x1)
theorem l_153_5_st {X : List Int32} {o : kO}  {h : Hp} {x1 : Int32}  {r : (Int32 × Hp) ⊕ Int32 × Hp} (hF : l_153_5 x1 h = some r) (hK : ∀ s' : Int32 × Hp, r = .inl s' → ∀ (u2 : Value) (u3 : Value), k_Go X 3 153 (5, [.ref (1076 + 1), .int (s'.1), u2, u3], []) s'.2 o) (hX0 : ∀ e : Int32 × Hp, r = .inr e → (.inl (some (.int e.1)), e.2) = o) : ∀ (u2 : Value) (u3 : Value), k_Go X 3 153 (5, [.ref (1076 + 1), .int x1, u2, u3], []) h o := by
  intro u2 u3
  refine kg_iload hk_153 rfl rfl rfl ?_
  refine wf_if hF (fun cz2 hF => ?_) (fun cz2 hF => ?_)
  · refine kg_ifF hk_153 rfl (jc_F1 cz2) rfl ?_
    refine kg_aload hk_153 rfl rfl rfl ?_
    refine kg_get (v := .int (h 1076 70)) hk_153 rfl wk_1076_70 rfl rfl ?_
    refine wf_if hF (fun cz3 hF => ?_) (fun cz3 hF => ?_)
    · refine kg_ifF hk_153 rfl (jc_F4 cz3) rfl ?_
      refine kg_aload hk_153 rfl rfl rfl ?_
      refine kg_get (v := .int (h 1076 67)) hk_153 rfl wk_1076_67 rfl rfl ?_
      refine kg_aload hk_153 rfl rfl rfl ?_
      refine kg_get (v := .int (h 1076 66)) hk_153 rfl wk_1076_66 rfl rfl ?_
      refine wf_if hF (fun cz4 hF => ?_) (fun cz4 hF => ?_)
      · refine kg_icF hk_153 rfl (jc_F3 cz4) rfl ?_
        refine kg_aload hk_153 rfl rfl rfl ?_
        refine wf_gd hF (fun gz5 hF => ?_)
        refine kg_call (as := [.ref (1076 + 1)]) (rest := []) hk_153 rfl (Or.inr (Or.inr (Or.inr ⟨Or.inl rfl, _, _, rfl, wc_1076⟩))) rfl rfl rfl (Nat.not_lt.mpr (Nat.le_of_ble_eq_true rfl)) (v_150_ok gz5) (by decide) rfl ?_
        refine kg_push (x := 59) hk_153 rfl (by decide) rfl ?_
        refine wf_if hF (fun cz6 hF => ?_) (fun cz6 hF => ?_)
        · refine kg_icT hk_153 rfl (jc_T0 cz6) ?_
          refine kg_push (x := 1) hk_153 rfl (by decide) rfl ?_
          have hF := Option.some.inj hF
          exact kg_iret hk_153 rfl (Or.inr rfl) (hX0 _ hF.symm)
        · refine kg_icF hk_153 rfl (jc_F0 cz6) rfl ?_
          exact q_153_19_ok hF hK hX0 _ _
      · refine kg_icT hk_153 rfl (jc_T3 cz4) ?_
        refine kg_push (x := 1) hk_153 rfl (by decide) rfl ?_
        have hF := Option.some.inj hF
        exact kg_iret hk_153 rfl (Or.inr rfl) (hX0 _ hF.symm)
    · refine kg_ifT hk_153 rfl (jc_T4 cz3) ?_
      exact q_153_19_ok hF hK hX0 _ _
  · refine kg_ifT hk_153 rfl (jc_T1 cz2) ?_
    exact q_153_19_ok hF hK hX0 _ _
theorem l_153_5_ok {X : List Int32} {o : kO}    {n : Nat} {s : Int32 × Hp} {e : Int32 × Hp} (hF : w_lp (fun (s : Int32 × Hp) => l_153_5 s.1 s.2) n s = some e) (hX0 : (.inl (some (.int e.1)), e.2) = o) : ∀ (u2 : Value) (u3 : Value), k_Go X 3 153 (5, [.ref (1076 + 1), .int s.1, u2, u3], []) s.2 o := by
  exact w_lp_ok (P := (fun (s : Int32 × Hp) => ∀ (u2 : Value) (u3 : Value), k_Go X 3 153 (5, [.ref (1076 + 1), .int s.1, u2, u3], []) s.2 o)) (Q := (fun (e : Int32 × Hp) => ((.inl (some (.int e.1)), e.2) = o))) (fun s r hF hK hX => l_153_5_st hF hK (fun x hx => (hX _ hx))) n s e hF hX0
def p_153 (h : Hp) : Option (Int32 × Hp) :=
  w_let (w_up h 1076 70 0) fun hz1 =>
  w_lp (fun (s : Int32 × Hp) => l_153_5 s.1 s.2) w_N (1, hz1)
theorem p_153_ok {X : List Int32}  {h : Hp}   {r : Int32 × Hp} (hF : p_153 h = some r) : k_Ev X 3 153 [.ref (1076 + 1)] h (.inl (some (.int r.1)), r.2) := by
  refine k_of hk_153 ?_
  show k_Go X 3 153 (0, [.ref (1076 + 1), (.retAddr 0), (.retAddr 0), (.retAddr 0)], []) h _
  unfold p_153 at hF
  refine kg_aload hk_153 rfl rfl rfl ?_
  refine kg_push (x := 0) hk_153 rfl (by decide) rfl ?_
  refine wf_let hF (fun hz1 hhz1 hF => ?_)
  refine kg_put hk_153 rfl wk_1076_70 rfl rfl hhz1 rfl ?_
  refine kg_push (x := 1) hk_153 rfl (by decide) rfl ?_
  refine kg_istore (L2 := [.ref (1076 + 1), .int 1, (.retAddr 0), (.retAddr 0)]) hk_153 rfl (Nat.le_of_ble_eq_true rfl) rfl rfl ?_
  exact l_153_5_ok hF rfl _ _
-- NotebookWeirModel.areExpressions()Z
theorem hk_154 : jP[154]? = some (jc_154, 2, [], []) := by rfl
def q_154_28 (h : Hp) (s0 : Int32) : Option ((Int32 × Hp) ⊕ Int32 × Hp) :=
  w_let (w_up h 1076 67 ((h 1076 67) + (if s0 = 0 then 0 else 1 : Int32))) fun hz9 =>
  some (.inl (s0, hz9))
theorem q_154_28_ok {X : List Int32} {o : kO}  {h : Hp} {s0 : Int32}  {r : (Int32 × Hp) ⊕ Int32 × Hp} (hF : q_154_28 h s0 = some r) (hK : ∀ s' : Int32 × Hp, r = .inl s' → k_Go X 4 154 (2, [.ref (1076 + 1), .int (s'.1)], []) s'.2 o) (hX0 : ∀ e : Int32 × Hp, r = .inr e → (.inl (some (.int e.1)), e.2) = o) : ∀ (u1 : Value), k_Go X 4 154 (28, [.ref (1076 + 1), u1], [.int s0]) h o := by
  intro u1
  unfold q_154_28 at hF
  refine kg_istore (L2 := [.ref (1076 + 1), .int s0]) hk_154 rfl (Nat.le_of_ble_eq_true rfl) rfl rfl ?_
  refine kg_aload hk_154 rfl rfl rfl ?_
  refine kg_dup hk_154 rfl rfl rfl ?_
  refine kg_get (v := .int (h 1076 67)) hk_154 rfl wk_1076_67 rfl rfl ?_
  refine kg_iload hk_154 rfl rfl rfl ?_
  refine kv_mid (p := 37) (L := [.ref (1076 + 1), .int s0]) (S := [.int (if s0 = 0 then 0 else 1 : Int32), .int (h 1076 67), .ref (1076 + 1)]) ?_ (fun hK => ?_)
  · refine kg_bin (z := ((h 1076 67) + (if s0 = 0 then 0 else 1 : Int32))) hk_154 rfl rfl rfl ?_
    refine wf_let hF (fun hz9 hhz9 hF => ?_)
    refine kg_put hk_154 rfl wk_1076_67 rfl rfl hhz9 rfl ?_
    refine kg_goto hk_154 rfl ?_
    have hF := Option.some.inj hF
    exact hK _ hF.symm
  · by_cases cz8 : s0 = 0
    · have hK := kv_T cz8 hK
      refine kg_ifT hk_154 rfl (jc_T0 cz8) ?_
      refine kg_push (x := 0) hk_154 rfl (by decide) rfl ?_
      exact hK
    · have hK := kv_F cz8 hK
      refine kg_ifF hk_154 rfl (jc_F0 cz8) rfl ?_
      refine kg_push (x := 1) hk_154 rfl (by decide) rfl ?_
      refine kg_goto hk_154 rfl ?_
      exact hK
def q_154_13 (h : Hp) (s0 : Int32) (s1 : Int32) : Option ((Int32 × Hp) ⊕ Int32 × Hp) :=
  w_let (w_up h 1076 67 (s1 + s0)) fun hz4 =>
  (p_153 hz4).bind fun vz5 =>
  if vz5.1 = 0 then
    (some (.inr (0, vz5.2)))
  else
    (q_154_28 vz5.2 (if (vz5.2 1076 67) < (vz5.2 1076 66) then 1 else 0 : Int32))
theorem q_154_13_ok {X : List Int32} {o : kO}  {h : Hp} {s0 : Int32} {s1 : Int32}  {r : (Int32 × Hp) ⊕ Int32 × Hp} (hF : q_154_13 h s0 s1 = some r) (hK : ∀ s' : Int32 × Hp, r = .inl s' → k_Go X 4 154 (2, [.ref (1076 + 1), .int (s'.1)], []) s'.2 o) (hX0 : ∀ e : Int32 × Hp, r = .inr e → (.inl (some (.int e.1)), e.2) = o) : ∀ (u1 : Value), k_Go X 4 154 (13, [.ref (1076 + 1), u1], [.int s0, .int s1, .ref (1076 + 1)]) h o := by
  intro u1
  unfold q_154_13 at hF
  refine kg_bin (z := (s1 + s0)) hk_154 rfl rfl rfl ?_
  refine wf_let hF (fun hz4 hhz4 hF => ?_)
  refine kg_put hk_154 rfl wk_1076_67 rfl rfl hhz4 rfl ?_
  refine kg_aload hk_154 rfl rfl rfl ?_
  refine wf_bind hF (fun vz5 hvz5 hF => ?_)
  refine kg_call (as := [.ref (1076 + 1)]) (rest := []) hk_154 rfl (Or.inr (Or.inr (Or.inr ⟨Or.inl rfl, _, _, rfl, wc_1076⟩))) rfl rfl rfl (Nat.not_lt.mpr (Nat.le_of_ble_eq_true rfl)) (p_153_ok hvz5) (by decide) rfl ?_
  refine wf_if hF (fun cz6 hF => ?_) (fun cz6 hF => ?_)
  · refine kg_ifF hk_154 rfl (jc_F1 cz6) rfl ?_
    refine kg_push (x := 0) hk_154 rfl (by decide) rfl ?_
    have hF := Option.some.inj hF
    exact kg_iret hk_154 rfl (Or.inr rfl) (hX0 _ hF.symm)
  · refine kg_ifT hk_154 rfl (jc_T1 cz6) ?_
    refine kg_aload hk_154 rfl rfl rfl ?_
    refine kg_get (v := .int (vz5.2 1076 67)) hk_154 rfl wk_1076_67 rfl rfl ?_
    refine kg_aload hk_154 rfl rfl rfl ?_
    refine kg_get (v := .int (vz5.2 1076 66)) hk_154 rfl wk_1076_66 rfl rfl ?_
    refine kv_mid (p := 28) (L := [.ref (1076 + 1), u1]) (S := [.int (if (vz5.2 1076 67) < (vz5.2 1076 66) then 1 else 0 : Int32)]) ?_ (fun hK => ?_)
    · exact q_154_28_ok hF hK hX0 _
    · by_cases cz7 : (vz5.2 1076 67) < (vz5.2 1076 66)
      · have hK := kv_T cz7 hK
        refine kg_icF hk_154 rfl (jc_F3 cz7) rfl ?_
        refine kg_push (x := 1) hk_154 rfl (by decide) rfl ?_
        refine kg_goto hk_154 rfl ?_
        exact hK
      · have hK := kv_F cz7 hK
        refine kg_icT hk_154 rfl (jc_T3 cz7) ?_
        refine kg_push (x := 0) hk_154 rfl (by decide) rfl ?_
        exact hK
def l_154_2 (x1 : Int32) (h : Hp) : Option ((Int32 × Hp) ⊕ Int32 × Hp) :=
  if x1 = 0 then
    (some (.inr (1, h)))
  else
    (w_gd (g_151 h) <|
    q_154_13 h (if (v_151 h) = 0 then 0 else 2 : Int32) (h 1076 67))
theorem l_154_2_st {X : List Int32} {o : kO}  {h : Hp} {x1 : Int32}  {r : (Int32 × Hp) ⊕ Int32 × Hp} (hF : l_154_2 x1 h = some r) (hK : ∀ s' : Int32 × Hp, r = .inl s' → k_Go X 4 154 (2, [.ref (1076 + 1), .int (s'.1)], []) s'.2 o) (hX0 : ∀ e : Int32 × Hp, r = .inr e → (.inl (some (.int e.1)), e.2) = o) : k_Go X 4 154 (2, [.ref (1076 + 1), .int x1], []) h o := by
  refine kg_iload hk_154 rfl rfl rfl ?_
  refine wf_if hF (fun cz1 hF => ?_) (fun cz1 hF => ?_)
  · refine kg_ifT hk_154 rfl (jc_T0 cz1) ?_
    refine kg_push (x := 1) hk_154 rfl (by decide) rfl ?_
    have hF := Option.some.inj hF
    exact kg_iret hk_154 rfl (Or.inr rfl) (hX0 _ hF.symm)
  · refine kg_ifF hk_154 rfl (jc_F0 cz1) rfl ?_
    refine kg_aload hk_154 rfl rfl rfl ?_
    refine kg_dup hk_154 rfl rfl rfl ?_
    refine kg_get (v := .int (h 1076 67)) hk_154 rfl wk_1076_67 rfl rfl ?_
    refine kg_aload hk_154 rfl rfl rfl ?_
    refine wf_gd hF (fun gz2 hF => ?_)
    refine kg_call (as := [.ref (1076 + 1)]) (rest := [.int (h 1076 67), .ref (1076 + 1)]) hk_154 rfl (Or.inr (Or.inr (Or.inr ⟨Or.inl rfl, _, _, rfl, wc_1076⟩))) rfl rfl rfl (Nat.not_lt.mpr (Nat.le_of_ble_eq_true rfl)) (v_151_ok gz2) (by decide) rfl ?_
    refine kv_mid (p := 13) (L := [.ref (1076 + 1), .int x1]) (S := [.int (if (v_151 h) = 0 then 0 else 2 : Int32), .int (h 1076 67), .ref (1076 + 1)]) ?_ (fun hK => ?_)
    · exact q_154_13_ok hF hK hX0 _
    · by_cases cz3 : (v_151 h) = 0
      · have hK := kv_T cz3 hK
        refine kg_ifT hk_154 rfl (jc_T0 cz3) ?_
        refine kg_push (x := 0) hk_154 rfl (by decide) rfl ?_
        exact hK
      · have hK := kv_F cz3 hK
        refine kg_ifF hk_154 rfl (jc_F0 cz3) rfl ?_
        refine kg_push (x := 2) hk_154 rfl (by decide) rfl ?_
        refine kg_goto hk_154 rfl ?_
        exact hK
theorem l_154_2_ok {X : List Int32} {o : kO}    {n : Nat} {s : Int32 × Hp} {e : Int32 × Hp} (hF : w_lp (fun (s : Int32 × Hp) => l_154_2 s.1 s.2) n s = some e) (hX0 : (.inl (some (.int e.1)), e.2) = o) : k_Go X 4 154 (2, [.ref (1076 + 1), .int s.1], []) s.2 o := by
  exact w_lp_ok (P := (fun (s : Int32 × Hp) => k_Go X 4 154 (2, [.ref (1076 + 1), .int s.1], []) s.2 o)) (Q := (fun (e : Int32 × Hp) => ((.inl (some (.int e.1)), e.2) = o))) (fun s r hF hK hX => l_154_2_st hF hK (fun x hx => (hX _ hx))) n s e hF hX0
def p_154 (h : Hp) : Option (Int32 × Hp) :=
  w_lp (fun (s : Int32 × Hp) => l_154_2 s.1 s.2) w_N (1, h)
theorem p_154_ok {X : List Int32}  {h : Hp}   {r : Int32 × Hp} (hF : p_154 h = some r) : k_Ev X 4 154 [.ref (1076 + 1)] h (.inl (some (.int r.1)), r.2) := by
  refine k_of hk_154 ?_
  show k_Go X 4 154 (0, [.ref (1076 + 1), (.retAddr 0)], []) h _
  unfold p_154 at hF
  refine kg_push (x := 1) hk_154 rfl (by decide) rfl ?_
  refine kg_istore (L2 := [.ref (1076 + 1), .int 1]) hk_154 rfl (Nat.le_of_ble_eq_true rfl) rfl rfl ?_
  exact l_154_2_ok hF rfl
-- NotebookWeirModel.isOver(Z)Z
theorem hk_155 : jP[155]? = some (jc_155, 2, [], []) := by rfl
def p_155 (h : Hp) (x1 : Int32) : Option (Int32 × Hp) :=
  w_let (w_up h 1076 67 ((h 1076 67) + (if x1 = 0 then 0 else 1 : Int32))) fun hz2 =>
  w_gd (w_bo x1) <|
  some (x1, hz2)
theorem p_155_ok {X : List Int32}  {h : Hp} {x1 : Int32}  {r : Int32 × Hp} (hF : p_155 h x1 = some r) : k_Ev X 0 155 [.ref (1076 + 1), .int x1] h (.inl (some (.int r.1)), r.2) := by
  refine k_of hk_155 ?_
  show k_Go X 0 155 (0, [.ref (1076 + 1), .int x1], []) h _
  unfold p_155 at hF
  refine kg_aload hk_155 rfl rfl rfl ?_
  refine kg_dup hk_155 rfl rfl rfl ?_
  refine kg_get (v := .int (h 1076 67)) hk_155 rfl wk_1076_67 rfl rfl ?_
  refine kg_iload hk_155 rfl rfl rfl ?_
  refine kv_mid (p := 8) (L := [.ref (1076 + 1), .int x1]) (S := [.int (if x1 = 0 then 0 else 1 : Int32), .int (h 1076 67), .ref (1076 + 1)]) ?_ (fun hK => ?_)
  · refine kg_bin (z := ((h 1076 67) + (if x1 = 0 then 0 else 1 : Int32))) hk_155 rfl rfl rfl ?_
    refine wf_let hF (fun hz2 hhz2 hF => ?_)
    refine kg_put hk_155 rfl wk_1076_67 rfl rfl hhz2 rfl ?_
    refine kg_iload hk_155 rfl rfl rfl ?_
    refine wf_gd hF (fun gz3 hF => ?_)
    have hF := Option.some.inj hF
    subst hF
    exact kg_iret hk_155 rfl (Or.inr gz3) rfl
  · by_cases cz1 : x1 = 0
    · have hK := kv_T cz1 hK
      refine kg_ifT hk_155 rfl (jc_T0 cz1) ?_
      refine kg_push (x := 0) hk_155 rfl (by decide) rfl ?_
      exact hK
    · have hK := kv_F cz1 hK
      refine kg_ifF hk_155 rfl (jc_F0 cz1) rfl ?_
      refine kg_push (x := 1) hk_155 rfl (by decide) rfl ?_
      refine kg_goto hk_155 rfl ?_
      exact hK
-- NotebookWeirModel.isQuery()Z
theorem hk_156 : jP[156]? = some (jc_156, 1, [], []) := by rfl
def q_156_75 (h : Hp) (s0 : Int32) : Option (Int32 × Hp) :=
  (p_155 h s0).bind fun vz34 =>
  some ((if vz34.1 = 0 then 0 else (if (vz34.2 1076 67) = (vz34.2 1076 66) then 1 else 0 : Int32) : Int32), vz34.2)
theorem q_156_75_ok {X : List Int32}   {h : Hp} {s0 : Int32}  {r : Int32 × Hp} (hF : q_156_75 h s0 = some r)  : k_Go X 3 156 (75, [.ref (1076 + 1)], [.int s0, .ref (1076 + 1)]) h (.inl (some (.int r.1)), r.2) := by
  unfold q_156_75 at hF
  refine wf_bind hF (fun vz34 hvz34 hF => ?_)
  refine kg_call (as := [.ref (1076 + 1), .int s0]) (rest := []) hk_156 rfl (Or.inr (Or.inr (Or.inr ⟨Or.inl rfl, _, _, rfl, wc_1076⟩))) rfl rfl rfl (Nat.not_lt.mpr (Nat.le_of_ble_eq_true rfl)) (p_155_ok hvz34) (by decide) rfl ?_
  refine kv_mid (p := 85) (L := [.ref (1076 + 1)]) (S := [.int (if vz34.1 = 0 then 0 else (if (vz34.2 1076 67) = (vz34.2 1076 66) then 1 else 0 : Int32) : Int32)]) ?_ (fun hK => ?_)
  · have hF := Option.some.inj hF
    subst hF
    exact kg_iret hk_156 rfl (Or.inr (w_boi rfl (w_boi rfl rfl))) rfl
  · by_cases cz35 : vz34.1 = 0
    · have hK := kv_T cz35 hK
      refine kg_ifT hk_156 rfl (jc_T0 cz35) ?_
      refine kg_push (x := 0) hk_156 rfl (by decide) rfl ?_
      exact hK
    · have hK := kv_F cz35 hK
      refine kg_ifF hk_156 rfl (jc_F0 cz35) rfl ?_
      refine kg_aload hk_156 rfl rfl rfl ?_
      refine kg_get (v := .int (vz34.2 1076 67)) hk_156 rfl wk_1076_67 rfl rfl ?_
      refine kg_aload hk_156 rfl rfl rfl ?_
      refine kg_get (v := .int (vz34.2 1076 66)) hk_156 rfl wk_1076_66 rfl rfl ?_
      by_cases cz36 : (vz34.2 1076 67) = (vz34.2 1076 66)
      · have hK := kv_T cz36 hK
        refine kg_icF hk_156 rfl (jc_F1 cz36) rfl ?_
        refine kg_push (x := 1) hk_156 rfl (by decide) rfl ?_
        refine kg_goto hk_156 rfl ?_
        exact hK
      · have hK := kv_F cz36 hK
        refine kg_icT hk_156 rfl (jc_T1 cz36) ?_
        refine kg_push (x := 0) hk_156 rfl (by decide) rfl ?_
        exact hK
def q_156_50 (h : Hp) (s0 : Int32) : Option (Int32 × Hp) :=
  (p_155 h s0).bind fun vz22 =>
  (p_152 vz22.2).bind fun vz23 =>
  if vz23.1 = 0 then
    (some (0, vz23.2))
  else
    (w_gd (g_150 vz23.2) <|
    w_gd ((if (v_150 vz23.2) = 115 then true else (g_150 vz23.2) && ((if (v_150 vz23.2) = 99 then true else (g_150 vz23.2) && ((if (v_150 vz23.2) = 109 then true else g_150 vz23.2)))))) <|
    q_156_75 vz23.2 (if (v_150 vz23.2) = 115 then 1 else (if (v_150 vz23.2) = 99 then 1 else (if (v_150 vz23.2) = 109 then 1 else (if (v_150 vz23.2) = 108 then 1 else 0 : Int32) : Int32) : Int32) : Int32))
theorem q_156_50_ok {X : List Int32}   {h : Hp} {s0 : Int32}  {r : Int32 × Hp} (hF : q_156_50 h s0 = some r)  : k_Go X 3 156 (50, [.ref (1076 + 1)], [.int s0, .ref (1076 + 1)]) h (.inl (some (.int r.1)), r.2) := by
  unfold q_156_50 at hF
  refine wf_bind hF (fun vz22 hvz22 hF => ?_)
  refine kg_call (as := [.ref (1076 + 1), .int s0]) (rest := []) hk_156 rfl (Or.inr (Or.inr (Or.inr ⟨Or.inl rfl, _, _, rfl, wc_1076⟩))) rfl rfl rfl (Nat.not_lt.mpr (Nat.le_of_ble_eq_true rfl)) (p_155_ok hvz22) (by decide) rfl ?_
  refine kg_pop hk_156 rfl rfl rfl ?_
  refine kg_aload hk_156 rfl rfl rfl ?_
  refine wf_bind hF (fun vz23 hvz23 hF => ?_)
  refine kg_call (as := [.ref (1076 + 1)]) (rest := []) hk_156 rfl (Or.inr (Or.inr (Or.inr ⟨Or.inl rfl, _, _, rfl, wc_1076⟩))) rfl rfl rfl (Nat.not_lt.mpr (Nat.le_of_ble_eq_true rfl)) (p_152_ok hvz23) (by decide) rfl ?_
  refine wf_if hF (fun cz24 hF => ?_) (fun cz24 hF => ?_)
  · refine kg_ifT hk_156 rfl (jc_T0 cz24) ?_
    refine kg_push (x := 0) hk_156 rfl (by decide) rfl ?_
    have hF := Option.some.inj hF
    subst hF
    exact kg_iret hk_156 rfl (Or.inr rfl) rfl
  · refine kg_ifF hk_156 rfl (jc_F0 cz24) rfl ?_
    refine kg_aload hk_156 rfl rfl rfl ?_
    refine kg_aload hk_156 rfl rfl rfl ?_
    refine wf_gd hF (fun gz25 hF => ?_)
    refine kg_call (as := [.ref (1076 + 1)]) (rest := [.ref (1076 + 1)]) hk_156 rfl (Or.inr (Or.inr (Or.inr ⟨Or.inl rfl, _, _, rfl, wc_1076⟩))) rfl rfl rfl (Nat.not_lt.mpr (Nat.le_of_ble_eq_true rfl)) (v_150_ok gz25) (by decide) rfl ?_
    refine kg_push (x := 115) hk_156 rfl (by decide) rfl ?_
    refine wf_gd hF (fun gz33 hF => ?_)
    refine kv_mid (p := 75) (L := [.ref (1076 + 1)]) (S := [.int (if (v_150 vz23.2) = 115 then 1 else (if (v_150 vz23.2) = 99 then 1 else (if (v_150 vz23.2) = 109 then 1 else (if (v_150 vz23.2) = 108 then 1 else 0 : Int32) : Int32) : Int32) : Int32), .ref (1076 + 1)]) ?_ (fun hK => ?_)
    · exact q_156_75_ok hF
    · have hg := gz33
      by_cases cz26 : (v_150 vz23.2) = 115
      · have hK := kv_T cz26 hK
        refine kg_icT hk_156 rfl (jc_T0 cz26) ?_
        refine kg_push (x := 1) hk_156 rfl (by decide) rfl ?_
        refine kg_goto hk_156 rfl ?_
        exact hK
      · have hg := wv_F cz26 hg
        have hK := kv_F cz26 hK
        have gz27 := wb_1 hg
        have hg := wb_2 hg
        refine kg_icF hk_156 rfl (jc_F0 cz26) rfl ?_
        refine kg_aload hk_156 rfl rfl rfl ?_
        refine kg_call (as := [.ref (1076 + 1)]) (rest := [.ref (1076 + 1)]) hk_156 rfl (Or.inr (Or.inr (Or.inr ⟨Or.inl rfl, _, _, rfl, wc_1076⟩))) rfl rfl rfl (Nat.not_lt.mpr (Nat.le_of_ble_eq_true rfl)) (v_150_ok gz27) (by decide) rfl ?_
        refine kg_push (x := 99) hk_156 rfl (by decide) rfl ?_
        by_cases cz28 : (v_150 vz23.2) = 99
        · have hK := kv_T cz28 hK
          refine kg_icT hk_156 rfl (jc_T0 cz28) ?_
          refine kg_push (x := 1) hk_156 rfl (by decide) rfl ?_
          refine kg_goto hk_156 rfl ?_
          exact hK
        · have hg := wv_F cz28 hg
          have hK := kv_F cz28 hK
          have gz29 := wb_1 hg
          have hg := wb_2 hg
          refine kg_icF hk_156 rfl (jc_F0 cz28) rfl ?_
          refine kg_aload hk_156 rfl rfl rfl ?_
          refine kg_call (as := [.ref (1076 + 1)]) (rest := [.ref (1076 + 1)]) hk_156 rfl (Or.inr (Or.inr (Or.inr ⟨Or.inl rfl, _, _, rfl, wc_1076⟩))) rfl rfl rfl (Nat.not_lt.mpr (Nat.le_of_ble_eq_true rfl)) (v_150_ok gz29) (by decide) rfl ?_
          refine kg_push (x := 109) hk_156 rfl (by decide) rfl ?_
          by_cases cz30 : (v_150 vz23.2) = 109
          · have hK := kv_T cz30 hK
            refine kg_icT hk_156 rfl (jc_T0 cz30) ?_
            refine kg_push (x := 1) hk_156 rfl (by decide) rfl ?_
            refine kg_goto hk_156 rfl ?_
            exact hK
          · have hg := wv_F cz30 hg
            have hK := kv_F cz30 hK
            have gz31 := hg
            refine kg_icF hk_156 rfl (jc_F0 cz30) rfl ?_
            refine kg_aload hk_156 rfl rfl rfl ?_
            refine kg_call (as := [.ref (1076 + 1)]) (rest := [.ref (1076 + 1)]) hk_156 rfl (Or.inr (Or.inr (Or.inr ⟨Or.inl rfl, _, _, rfl, wc_1076⟩))) rfl rfl rfl (Nat.not_lt.mpr (Nat.le_of_ble_eq_true rfl)) (v_150_ok gz31) (by decide) rfl ?_
            refine kg_push (x := 108) hk_156 rfl (by decide) rfl ?_
            by_cases cz32 : (v_150 vz23.2) = 108
            · have hK := kv_T cz32 hK
              refine kg_icF hk_156 rfl (jc_F1 cz32) rfl ?_
              refine kg_push (x := 1) hk_156 rfl (by decide) rfl ?_
              refine kg_goto hk_156 rfl ?_
              exact hK
            · have hK := kv_F cz32 hK
              refine kg_icT hk_156 rfl (jc_T1 cz32) ?_
              refine kg_push (x := 0) hk_156 rfl (by decide) rfl ?_
              exact hK
def q_156_38 (h : Hp) (s0 : Int32) : Option (Int32 × Hp) :=
  (p_155 h s0).bind fun vz18 =>
  if vz18.1 = 0 then
    (some (0, vz18.2))
  else
    (w_gd (g_150 vz18.2) <|
    q_156_50 vz18.2 (if (v_150 vz18.2) = 45 then 1 else 0 : Int32))
theorem q_156_38_ok {X : List Int32}   {h : Hp} {s0 : Int32}  {r : Int32 × Hp} (hF : q_156_38 h s0 = some r)  : k_Go X 3 156 (38, [.ref (1076 + 1)], [.int s0, .ref (1076 + 1)]) h (.inl (some (.int r.1)), r.2) := by
  unfold q_156_38 at hF
  refine wf_bind hF (fun vz18 hvz18 hF => ?_)
  refine kg_call (as := [.ref (1076 + 1), .int s0]) (rest := []) hk_156 rfl (Or.inr (Or.inr (Or.inr ⟨Or.inl rfl, _, _, rfl, wc_1076⟩))) rfl rfl rfl (Nat.not_lt.mpr (Nat.le_of_ble_eq_true rfl)) (p_155_ok hvz18) (by decide) rfl ?_
  refine wf_if hF (fun cz19 hF => ?_) (fun cz19 hF => ?_)
  · refine kg_ifF hk_156 rfl (jc_F1 cz19) rfl ?_
    refine kg_push (x := 0) hk_156 rfl (by decide) rfl ?_
    have hF := Option.some.inj hF
    subst hF
    exact kg_iret hk_156 rfl (Or.inr rfl) rfl
  · refine kg_ifT hk_156 rfl (jc_T1 cz19) ?_
    refine kg_aload hk_156 rfl rfl rfl ?_
    refine kg_aload hk_156 rfl rfl rfl ?_
    refine wf_gd hF (fun gz20 hF => ?_)
    refine kg_call (as := [.ref (1076 + 1)]) (rest := [.ref (1076 + 1)]) hk_156 rfl (Or.inr (Or.inr (Or.inr ⟨Or.inl rfl, _, _, rfl, wc_1076⟩))) rfl rfl rfl (Nat.not_lt.mpr (Nat.le_of_ble_eq_true rfl)) (v_150_ok gz20) (by decide) rfl ?_
    refine kg_push (x := 45) hk_156 rfl (by decide) rfl ?_
    refine kv_mid (p := 50) (L := [.ref (1076 + 1)]) (S := [.int (if (v_150 vz18.2) = 45 then 1 else 0 : Int32), .ref (1076 + 1)]) ?_ (fun hK => ?_)
    · exact q_156_50_ok hF
    · by_cases cz21 : (v_150 vz18.2) = 45
      · have hK := kv_T cz21 hK
        refine kg_icF hk_156 rfl (jc_F1 cz21) rfl ?_
        refine kg_push (x := 1) hk_156 rfl (by decide) rfl ?_
        refine kg_goto hk_156 rfl ?_
        exact hK
      · have hK := kv_F cz21 hK
        refine kg_icT hk_156 rfl (jc_T1 cz21) ?_
        refine kg_push (x := 0) hk_156 rfl (by decide) rfl ?_
        exact hK
def q_156_14 (h : Hp) (s0 : Int32) : Option (Int32 × Hp) :=
  (p_155 h s0).bind fun vz6 =>
  if vz6.1 = 0 then
    (some (0, vz6.2))
  else
    (w_gd (g_150 vz6.2) <|
    (p_155 vz6.2 (v_148 (v_150 vz6.2))).bind fun vz9 =>
    if vz9.1 = 0 then
      (some (0, vz9.2))
    else
      (w_gd (g_150 vz9.2) <|
      w_gd ((if (v_150 vz9.2) = 60 then true else (g_150 vz9.2) && ((if (v_150 vz9.2) = 62 then true else g_150 vz9.2)))) <|
      q_156_38 vz9.2 (if (v_150 vz9.2) = 60 then 1 else (if (v_150 vz9.2) = 62 then 1 else (if (v_150 vz9.2) = 61 then 1 else 0 : Int32) : Int32) : Int32)))
theorem q_156_14_ok {X : List Int32}   {h : Hp} {s0 : Int32}  {r : Int32 × Hp} (hF : q_156_14 h s0 = some r)  : k_Go X 3 156 (14, [.ref (1076 + 1)], [.int s0, .ref (1076 + 1)]) h (.inl (some (.int r.1)), r.2) := by
  unfold q_156_14 at hF
  refine wf_bind hF (fun vz6 hvz6 hF => ?_)
  refine kg_call (as := [.ref (1076 + 1), .int s0]) (rest := []) hk_156 rfl (Or.inr (Or.inr (Or.inr ⟨Or.inl rfl, _, _, rfl, wc_1076⟩))) rfl rfl rfl (Nat.not_lt.mpr (Nat.le_of_ble_eq_true rfl)) (p_155_ok hvz6) (by decide) rfl ?_
  refine wf_if hF (fun cz7 hF => ?_) (fun cz7 hF => ?_)
  · refine kg_ifT hk_156 rfl (jc_T0 cz7) ?_
    refine kg_push (x := 0) hk_156 rfl (by decide) rfl ?_
    have hF := Option.some.inj hF
    subst hF
    exact kg_iret hk_156 rfl (Or.inr rfl) rfl
  · refine kg_ifF hk_156 rfl (jc_F0 cz7) rfl ?_
    refine kg_aload hk_156 rfl rfl rfl ?_
    refine kg_aload hk_156 rfl rfl rfl ?_
    refine wf_gd hF (fun gz8 hF => ?_)
    refine kg_call (as := [.ref (1076 + 1)]) (rest := [.ref (1076 + 1)]) hk_156 rfl (Or.inr (Or.inr (Or.inr ⟨Or.inl rfl, _, _, rfl, wc_1076⟩))) rfl rfl rfl (Nat.not_lt.mpr (Nat.le_of_ble_eq_true rfl)) (v_150_ok gz8) (by decide) rfl ?_
    refine kg_call (as := [.int (v_150 vz6.2)]) (rest := [.ref (1076 + 1)]) hk_156 rfl (Or.inl rfl) rfl rfl rfl (Nat.not_lt.mpr (Nat.le_of_ble_eq_true rfl)) (v_148_ok) (by decide) rfl ?_
    refine wf_bind hF (fun vz9 hvz9 hF => ?_)
    refine kg_call (as := [.ref (1076 + 1), .int (v_148 (v_150 vz6.2))]) (rest := []) hk_156 rfl (Or.inr (Or.inr (Or.inr ⟨Or.inl rfl, _, _, rfl, wc_1076⟩))) rfl rfl rfl (Nat.not_lt.mpr (Nat.le_of_ble_eq_true rfl)) (p_155_ok hvz9) (by decide) rfl ?_
    refine wf_if hF (fun cz10 hF => ?_) (fun cz10 hF => ?_)
    · refine kg_ifT hk_156 rfl (jc_T0 cz10) ?_
      refine kg_push (x := 0) hk_156 rfl (by decide) rfl ?_
      have hF := Option.some.inj hF
      subst hF
      exact kg_iret hk_156 rfl (Or.inr rfl) rfl
    · refine kg_ifF hk_156 rfl (jc_F0 cz10) rfl ?_
      refine kg_aload hk_156 rfl rfl rfl ?_
      refine kg_aload hk_156 rfl rfl rfl ?_
      refine wf_gd hF (fun gz11 hF => ?_)
      refine kg_call (as := [.ref (1076 + 1)]) (rest := [.ref (1076 + 1)]) hk_156 rfl (Or.inr (Or.inr (Or.inr ⟨Or.inl rfl, _, _, rfl, wc_1076⟩))) rfl rfl rfl (Nat.not_lt.mpr (Nat.le_of_ble_eq_true rfl)) (v_150_ok gz11) (by decide) rfl ?_
      refine kg_push (x := 60) hk_156 rfl (by decide) rfl ?_
      refine wf_gd hF (fun gz17 hF => ?_)
      refine kv_mid (p := 38) (L := [.ref (1076 + 1)]) (S := [.int (if (v_150 vz9.2) = 60 then 1 else (if (v_150 vz9.2) = 62 then 1 else (if (v_150 vz9.2) = 61 then 1 else 0 : Int32) : Int32) : Int32), .ref (1076 + 1)]) ?_ (fun hK => ?_)
      · exact q_156_38_ok hF
      · have hg := gz17
        by_cases cz12 : (v_150 vz9.2) = 60
        · have hK := kv_T cz12 hK
          refine kg_icT hk_156 rfl (jc_T0 cz12) ?_
          refine kg_push (x := 1) hk_156 rfl (by decide) rfl ?_
          refine kg_goto hk_156 rfl ?_
          exact hK
        · have hg := wv_F cz12 hg
          have hK := kv_F cz12 hK
          have gz13 := wb_1 hg
          have hg := wb_2 hg
          refine kg_icF hk_156 rfl (jc_F0 cz12) rfl ?_
          refine kg_aload hk_156 rfl rfl rfl ?_
          refine kg_call (as := [.ref (1076 + 1)]) (rest := [.ref (1076 + 1)]) hk_156 rfl (Or.inr (Or.inr (Or.inr ⟨Or.inl rfl, _, _, rfl, wc_1076⟩))) rfl rfl rfl (Nat.not_lt.mpr (Nat.le_of_ble_eq_true rfl)) (v_150_ok gz13) (by decide) rfl ?_
          refine kg_push (x := 62) hk_156 rfl (by decide) rfl ?_
          by_cases cz14 : (v_150 vz9.2) = 62
          · have hK := kv_T cz14 hK
            refine kg_icT hk_156 rfl (jc_T0 cz14) ?_
            refine kg_push (x := 1) hk_156 rfl (by decide) rfl ?_
            refine kg_goto hk_156 rfl ?_
            exact hK
          · have hg := wv_F cz14 hg
            have hK := kv_F cz14 hK
            have gz15 := hg
            refine kg_icF hk_156 rfl (jc_F0 cz14) rfl ?_
            refine kg_aload hk_156 rfl rfl rfl ?_
            refine kg_call (as := [.ref (1076 + 1)]) (rest := [.ref (1076 + 1)]) hk_156 rfl (Or.inr (Or.inr (Or.inr ⟨Or.inl rfl, _, _, rfl, wc_1076⟩))) rfl rfl rfl (Nat.not_lt.mpr (Nat.le_of_ble_eq_true rfl)) (v_150_ok gz15) (by decide) rfl ?_
            refine kg_push (x := 61) hk_156 rfl (by decide) rfl ?_
            by_cases cz16 : (v_150 vz9.2) = 61
            · have hK := kv_T cz16 hK
              refine kg_icF hk_156 rfl (jc_F1 cz16) rfl ?_
              refine kg_push (x := 1) hk_156 rfl (by decide) rfl ?_
              refine kg_goto hk_156 rfl ?_
              exact hK
            · have hK := kv_F cz16 hK
              refine kg_icT hk_156 rfl (jc_T1 cz16) ?_
              refine kg_push (x := 0) hk_156 rfl (by decide) rfl ?_
              exact hK
def p_156 (h : Hp) : Option (Int32 × Hp) :=
  w_gd (g_150 h) <|
  (p_155 h (v_148 (v_150 h))).bind fun vz2 =>
  if vz2.1 = 0 then
    (some (0, vz2.2))
  else
    (w_gd (g_150 vz2.2) <|
    q_156_14 vz2.2 (if (v_150 vz2.2) = 61 then 1 else 0 : Int32))
theorem p_156_ok {X : List Int32}  {h : Hp}   {r : Int32 × Hp} (hF : p_156 h = some r) : k_Ev X 3 156 [.ref (1076 + 1)] h (.inl (some (.int r.1)), r.2) := by
  refine k_of hk_156 ?_
  show k_Go X 3 156 (0, [.ref (1076 + 1)], []) h _
  unfold p_156 at hF
  refine kg_aload hk_156 rfl rfl rfl ?_
  refine kg_aload hk_156 rfl rfl rfl ?_
  refine wf_gd hF (fun gz1 hF => ?_)
  refine kg_call (as := [.ref (1076 + 1)]) (rest := [.ref (1076 + 1)]) hk_156 rfl (Or.inr (Or.inr (Or.inr ⟨Or.inl rfl, _, _, rfl, wc_1076⟩))) rfl rfl rfl (Nat.not_lt.mpr (Nat.le_of_ble_eq_true rfl)) (v_150_ok gz1) (by decide) rfl ?_
  refine kg_call (as := [.int (v_150 h)]) (rest := [.ref (1076 + 1)]) hk_156 rfl (Or.inl rfl) rfl rfl rfl (Nat.not_lt.mpr (Nat.le_of_ble_eq_true rfl)) (v_148_ok) (by decide) rfl ?_
  refine wf_bind hF (fun vz2 hvz2 hF => ?_)
  refine kg_call (as := [.ref (1076 + 1), .int (v_148 (v_150 h))]) (rest := []) hk_156 rfl (Or.inr (Or.inr (Or.inr ⟨Or.inl rfl, _, _, rfl, wc_1076⟩))) rfl rfl rfl (Nat.not_lt.mpr (Nat.le_of_ble_eq_true rfl)) (p_155_ok hvz2) (by decide) rfl ?_
  refine wf_if hF (fun cz3 hF => ?_) (fun cz3 hF => ?_)
  · refine kg_ifT hk_156 rfl (jc_T0 cz3) ?_
    refine kg_push (x := 0) hk_156 rfl (by decide) rfl ?_
    have hF := Option.some.inj hF
    subst hF
    exact kg_iret hk_156 rfl (Or.inr rfl) rfl
  · refine kg_ifF hk_156 rfl (jc_F0 cz3) rfl ?_
    refine kg_aload hk_156 rfl rfl rfl ?_
    refine kg_aload hk_156 rfl rfl rfl ?_
    refine wf_gd hF (fun gz4 hF => ?_)
    refine kg_call (as := [.ref (1076 + 1)]) (rest := [.ref (1076 + 1)]) hk_156 rfl (Or.inr (Or.inr (Or.inr ⟨Or.inl rfl, _, _, rfl, wc_1076⟩))) rfl rfl rfl (Nat.not_lt.mpr (Nat.le_of_ble_eq_true rfl)) (v_150_ok gz4) (by decide) rfl ?_
    refine kg_push (x := 61) hk_156 rfl (by decide) rfl ?_
    refine kv_mid (p := 14) (L := [.ref (1076 + 1)]) (S := [.int (if (v_150 vz2.2) = 61 then 1 else 0 : Int32), .ref (1076 + 1)]) ?_ (fun hK => ?_)
    · exact q_156_14_ok hF
    · by_cases cz5 : (v_150 vz2.2) = 61
      · have hK := kv_T cz5 hK
        refine kg_icF hk_156 rfl (jc_F1 cz5) rfl ?_
        refine kg_push (x := 1) hk_156 rfl (by decide) rfl ?_
        refine kg_goto hk_156 rfl ?_
        exact hK
      · have hK := kv_F cz5 hK
        refine kg_icT hk_156 rfl (jc_T1 cz5) ?_
        refine kg_push (x := 0) hk_156 rfl (by decide) rfl ?_
        exact hK
-- NotebookWeirModel.areRules()Z
theorem hk_157 : jP[157]? = some (jc_157, 3, [], []) := by rfl
def q_157_73 (h : Hp) (x1 : Int32) (s0 : Int32) : Option ((Int32 × Hp) ⊕ Int32 × Hp) :=
  (p_155 h s0).bind fun vz13 =>
  if vz13.1 = 0 then
    (some (.inr (0, vz13.2)))
  else
    (some (.inl (x1, vz13.2)))
theorem q_157_73_ok {X : List Int32} {o : kO}  {h : Hp} {s0 : Int32} {x1 : Int32}  {r : (Int32 × Hp) ⊕ Int32 × Hp} (hF : q_157_73 h x1 s0 = some r) (hK : ∀ s' : Int32 × Hp, r = .inl s' → ∀ (u2 : Value), k_Go X 2 157 (2, [.ref (1076 + 1), .int (s'.1), u2], []) s'.2 o) (hX0 : ∀ e : Int32 × Hp, r = .inr e → (.inl (some (.int e.1)), e.2) = o) : ∀ (u2 : Value), k_Go X 2 157 (73, [.ref (1076 + 1), .int x1, u2], [.int s0, .ref (1076 + 1)]) h o := by
  intro u2
  unfold q_157_73 at hF
  refine wf_bind hF (fun vz13 hvz13 hF => ?_)
  refine kg_call (as := [.ref (1076 + 1), .int s0]) (rest := []) hk_157 rfl (Or.inr (Or.inr (Or.inr ⟨Or.inl rfl, _, _, rfl, wc_1076⟩))) rfl rfl rfl (Nat.not_lt.mpr (Nat.le_of_ble_eq_true rfl)) (p_155_ok hvz13) (by decide) rfl ?_
  refine wf_if hF (fun cz14 hF => ?_) (fun cz14 hF => ?_)
  · refine kg_ifF hk_157 rfl (jc_F1 cz14) rfl ?_
    refine kg_push (x := 0) hk_157 rfl (by decide) rfl ?_
    have hF := Option.some.inj hF
    exact kg_iret hk_157 rfl (Or.inr rfl) (hX0 _ hF.symm)
  · refine kg_ifT hk_157 rfl (jc_T1 cz14) ?_
    have hF := Option.some.inj hF
    exact hK _ hF.symm _
def q_157_62 (h : Hp) (s0 : Int32) : Option ((Int32 × Hp) ⊕ Int32 × Hp) :=
  if s0 = 0 then
    (some (.inl (s0, h)))
  else
    (w_gd (g_150 h) <|
    q_157_73 h s0 (if (v_150 h) = 59 then 1 else 0 : Int32))
theorem q_157_62_ok {X : List Int32} {o : kO}  {h : Hp} {s0 : Int32}  {r : (Int32 × Hp) ⊕ Int32 × Hp} (hF : q_157_62 h s0 = some r) (hK : ∀ s' : Int32 × Hp, r = .inl s' → ∀ (u2 : Value), k_Go X 2 157 (2, [.ref (1076 + 1), .int (s'.1), u2], []) s'.2 o) (hX0 : ∀ e : Int32 × Hp, r = .inr e → (.inl (some (.int e.1)), e.2) = o) : ∀ (u1 : Value) (u2 : Value), k_Go X 2 157 (62, [.ref (1076 + 1), u1, u2], [.int s0]) h o := by
  intro u1 u2
  unfold q_157_62 at hF
  refine kg_istore (L2 := [.ref (1076 + 1), .int s0, u2]) hk_157 rfl (Nat.le_of_ble_eq_true rfl) rfl rfl ?_
  refine kg_iload hk_157 rfl rfl rfl ?_
  refine wf_if hF (fun cz10 hF => ?_) (fun cz10 hF => ?_)
  · refine kg_ifT hk_157 rfl (jc_T0 cz10) ?_
    have hF := Option.some.inj hF
    exact hK _ hF.symm _
  · refine kg_ifF hk_157 rfl (jc_F0 cz10) rfl ?_
    refine kg_aload hk_157 rfl rfl rfl ?_
    refine kg_aload hk_157 rfl rfl rfl ?_
    refine wf_gd hF (fun gz11 hF => ?_)
    refine kg_call (as := [.ref (1076 + 1)]) (rest := [.ref (1076 + 1)]) hk_157 rfl (Or.inr (Or.inr (Or.inr ⟨Or.inl rfl, _, _, rfl, wc_1076⟩))) rfl rfl rfl (Nat.not_lt.mpr (Nat.le_of_ble_eq_true rfl)) (v_150_ok gz11) (by decide) rfl ?_
    refine kg_push (x := 59) hk_157 rfl (by decide) rfl ?_
    refine kv_mid (p := 73) (L := [.ref (1076 + 1), .int s0, u2]) (S := [.int (if (v_150 h) = 59 then 1 else 0 : Int32), .ref (1076 + 1)]) ?_ (fun hK => ?_)
    · exact q_157_73_ok hF hK hX0 _
    · by_cases cz12 : (v_150 h) = 59
      · have hK := kv_T cz12 hK
        refine kg_icF hk_157 rfl (jc_F1 cz12) rfl ?_
        refine kg_push (x := 1) hk_157 rfl (by decide) rfl ?_
        refine kg_goto hk_157 rfl ?_
        exact hK
      · have hK := kv_F cz12 hK
        refine kg_icT hk_157 rfl (jc_T1 cz12) ?_
        refine kg_push (x := 0) hk_157 rfl (by decide) rfl ?_
        exact hK
def q_157_54 (h : Hp) : Option ((Int32 × Hp) ⊕ Int32 × Hp) :=
  q_157_62 h (if (h 1076 67) < (h 1076 66) then 1 else 0 : Int32)
theorem q_157_54_ok {X : List Int32} {o : kO}  {h : Hp}  {r : (Int32 × Hp) ⊕ Int32 × Hp} (hF : q_157_54 h = some r) (hK : ∀ s' : Int32 × Hp, r = .inl s' → ∀ (u2 : Value), k_Go X 2 157 (2, [.ref (1076 + 1), .int (s'.1), u2], []) s'.2 o) (hX0 : ∀ e : Int32 × Hp, r = .inr e → (.inl (some (.int e.1)), e.2) = o) : ∀ (u1 : Value) (u2 : Value), k_Go X 2 157 (54, [.ref (1076 + 1), u1, u2], []) h o := by
  intro u1 u2
  unfold q_157_54 at hF
  refine kg_aload hk_157 rfl rfl rfl ?_
  refine kg_get (v := .int (h 1076 67)) hk_157 rfl wk_1076_67 rfl rfl ?_
  refine kg_aload hk_157 rfl rfl rfl ?_
  refine kg_get (v := .int (h 1076 66)) hk_157 rfl wk_1076_66 rfl rfl ?_
  refine kv_mid (p := 62) (L := [.ref (1076 + 1), u1, u2]) (S := [.int (if (h 1076 67) < (h 1076 66) then 1 else 0 : Int32)]) ?_ (fun hK => ?_)
  · exact q_157_62_ok hF hK hX0 _ _
  · by_cases cz9 : (h 1076 67) < (h 1076 66)
    · have hK := kv_T cz9 hK
      refine kg_icF hk_157 rfl (jc_F3 cz9) rfl ?_
      refine kg_push (x := 1) hk_157 rfl (by decide) rfl ?_
      refine kg_goto hk_157 rfl ?_
      exact hK
    · have hK := kv_F cz9 hK
      refine kg_icT hk_157 rfl (jc_T3 cz9) ?_
      refine kg_push (x := 0) hk_157 rfl (by decide) rfl ?_
      exact hK
def q_157_43 (h : Hp) (x2 : Int32) (s0 : Int32) : Option ((Int32 × Hp) ⊕ (Hp ⊕ Int32 × Hp)) :=
  (p_155 h s0).bind fun vz21 =>
  if vz21.1 = 0 then
    (some (.inr (.inl vz21.2)))
  else
    (w_gd (g_150 vz21.2) <|
    (p_155 vz21.2 (v_148 (v_150 vz21.2))).bind fun vz24 =>
    if vz24.1 = 0 then
      (some (.inr (.inr (0, vz24.2))))
    else
      (some (.inl ((x2 + 1), vz24.2))))
theorem q_157_43_ok {X : List Int32} {o : kO}  {h : Hp} {s0 : Int32} {x2 : Int32}  {r : (Int32 × Hp) ⊕ (Hp ⊕ Int32 × Hp)} (hF : q_157_43 h x2 s0 = some r) (hK : ∀ s' : Int32 × Hp, r = .inl s' → ∀ (u1 : Value), k_Go X 2 157 (32, [.ref (1076 + 1), u1, .int (s'.1)], []) s'.2 o) (hX0 : ∀ x : Hp, r = .inr (.inl x) → ∀ (u1 : Value) (u2 : Value), k_Go X 2 157 (54, [.ref (1076 + 1), u1, u2], []) x o) (hX1 : ∀ x : Int32 × Hp, r = .inr (.inr x) → (.inl (some (.int x.1)), x.2) = o) : ∀ (u1 : Value), k_Go X 2 157 (43, [.ref (1076 + 1), u1, .int x2], [.int s0, .ref (1076 + 1)]) h o := by
  intro u1
  unfold q_157_43 at hF
  refine wf_bind hF (fun vz21 hvz21 hF => ?_)
  refine kg_call (as := [.ref (1076 + 1), .int s0]) (rest := []) hk_157 rfl (Or.inr (Or.inr (Or.inr ⟨Or.inl rfl, _, _, rfl, wc_1076⟩))) rfl rfl rfl (Nat.not_lt.mpr (Nat.le_of_ble_eq_true rfl)) (p_155_ok hvz21) (by decide) rfl ?_
  refine wf_if hF (fun cz22 hF => ?_) (fun cz22 hF => ?_)
  · refine kg_ifT hk_157 rfl (jc_T0 cz22) ?_
    have hF := Option.some.inj hF
    exact hX0 _ hF.symm _ _
  · refine kg_ifF hk_157 rfl (jc_F0 cz22) rfl ?_
    refine kg_iinc (y := (x2 + 1)) (L2 := [.ref (1076 + 1), u1, .int (x2 + 1)]) hk_157 rfl rfl rfl rfl rfl ?_
    refine kg_aload hk_157 rfl rfl rfl ?_
    refine kg_aload hk_157 rfl rfl rfl ?_
    refine wf_gd hF (fun gz23 hF => ?_)
    refine kg_call (as := [.ref (1076 + 1)]) (rest := [.ref (1076 + 1)]) hk_157 rfl (Or.inr (Or.inr (Or.inr ⟨Or.inl rfl, _, _, rfl, wc_1076⟩))) rfl rfl rfl (Nat.not_lt.mpr (Nat.le_of_ble_eq_true rfl)) (v_150_ok gz23) (by decide) rfl ?_
    refine kg_call (as := [.int (v_150 vz21.2)]) (rest := [.ref (1076 + 1)]) hk_157 rfl (Or.inl rfl) rfl rfl rfl (Nat.not_lt.mpr (Nat.le_of_ble_eq_true rfl)) (v_148_ok) (by decide) rfl ?_
    refine wf_bind hF (fun vz24 hvz24 hF => ?_)
    refine kg_call (as := [.ref (1076 + 1), .int (v_148 (v_150 vz21.2))]) (rest := []) hk_157 rfl (Or.inr (Or.inr (Or.inr ⟨Or.inl rfl, _, _, rfl, wc_1076⟩))) rfl rfl rfl (Nat.not_lt.mpr (Nat.le_of_ble_eq_true rfl)) (p_155_ok hvz24) (by decide) rfl ?_
    refine wf_if hF (fun cz25 hF => ?_) (fun cz25 hF => ?_)
    · refine kg_ifF hk_157 rfl (jc_F1 cz25) rfl ?_
      refine kg_push (x := 0) hk_157 rfl (by decide) rfl ?_
      have hF := Option.some.inj hF
      exact kg_iret hk_157 rfl (Or.inr rfl) (hX1 _ hF.symm)
    · refine kg_ifT hk_157 rfl (jc_T1 cz25) ?_
      have hF := Option.some.inj hF
      exact hK _ hF.symm _
def l_157_32 (x2 : Int32) (h : Hp) : Option ((Int32 × Hp) ⊕ (Hp ⊕ Int32 × Hp)) :=
  if x2 < 5 then
    (w_gd (g_150 h) <|
    q_157_43 h x2 (if (v_150 h) = 44 then 1 else 0 : Int32))
  else
    (some (.inr (.inl h)))
theorem l_157_32_st {X : List Int32} {o : kO}  {h : Hp} {x2 : Int32}  {r : (Int32 × Hp) ⊕ (Hp ⊕ Int32 × Hp)} (hF : l_157_32 x2 h = some r) (hK : ∀ s' : Int32 × Hp, r = .inl s' → ∀ (u1 : Value), k_Go X 2 157 (32, [.ref (1076 + 1), u1, .int (s'.1)], []) s'.2 o) (hX0 : ∀ x : Hp, r = .inr (.inl x) → ∀ (u1 : Value) (u2 : Value), k_Go X 2 157 (54, [.ref (1076 + 1), u1, u2], []) x o) (hX1 : ∀ x : Int32 × Hp, r = .inr (.inr x) → (.inl (some (.int x.1)), x.2) = o) : ∀ (u1 : Value), k_Go X 2 157 (32, [.ref (1076 + 1), u1, .int x2], []) h o := by
  intro u1
  refine kg_iload hk_157 rfl rfl rfl ?_
  refine kg_push (x := 5) hk_157 rfl (by decide) rfl ?_
  refine wf_if hF (fun cz18 hF => ?_) (fun cz18 hF => ?_)
  · refine kg_icF hk_157 rfl (jc_F3 cz18) rfl ?_
    refine kg_aload hk_157 rfl rfl rfl ?_
    refine kg_aload hk_157 rfl rfl rfl ?_
    refine wf_gd hF (fun gz19 hF => ?_)
    refine kg_call (as := [.ref (1076 + 1)]) (rest := [.ref (1076 + 1)]) hk_157 rfl (Or.inr (Or.inr (Or.inr ⟨Or.inl rfl, _, _, rfl, wc_1076⟩))) rfl rfl rfl (Nat.not_lt.mpr (Nat.le_of_ble_eq_true rfl)) (v_150_ok gz19) (by decide) rfl ?_
    refine kg_push (x := 44) hk_157 rfl (by decide) rfl ?_
    refine kv_mid (p := 43) (L := [.ref (1076 + 1), u1, .int x2]) (S := [.int (if (v_150 h) = 44 then 1 else 0 : Int32), .ref (1076 + 1)]) ?_ (fun hK => ?_)
    · exact q_157_43_ok hF hK hX0 hX1 _
    · by_cases cz20 : (v_150 h) = 44
      · have hK := kv_T cz20 hK
        refine kg_icF hk_157 rfl (jc_F1 cz20) rfl ?_
        refine kg_push (x := 1) hk_157 rfl (by decide) rfl ?_
        refine kg_goto hk_157 rfl ?_
        exact hK
      · have hK := kv_F cz20 hK
        refine kg_icT hk_157 rfl (jc_T1 cz20) ?_
        refine kg_push (x := 0) hk_157 rfl (by decide) rfl ?_
        exact hK
  · refine kg_icT hk_157 rfl (jc_T3 cz18) ?_
    have hF := Option.some.inj hF
    exact hX0 _ hF.symm _ _
theorem l_157_32_ok {X : List Int32} {o : kO}    {n : Nat} {s : Int32 × Hp} {e : (Hp ⊕ Int32 × Hp)} (hF : w_lp (fun (s : Int32 × Hp) => l_157_32 s.1 s.2) n s = some e) (hX0 : ∀ x : Hp, e = (.inl x) → ∀ (u1 : Value) (u2 : Value), k_Go X 2 157 (54, [.ref (1076 + 1), u1, u2], []) x o) (hX1 : ∀ x : Int32 × Hp, e = (.inr x) → (.inl (some (.int x.1)), x.2) = o) : ∀ (u1 : Value), k_Go X 2 157 (32, [.ref (1076 + 1), u1, .int s.1], []) s.2 o := by
  exact w_lp_ok (P := (fun (s : Int32 × Hp) => ∀ (u1 : Value), k_Go X 2 157 (32, [.ref (1076 + 1), u1, .int s.1], []) s.2 o)) (Q := (fun (e : (Hp ⊕ Int32 × Hp)) => (∀ x : Hp, e = (.inl x) → ∀ (u1 : Value) (u2 : Value), k_Go X 2 157 (54, [.ref (1076 + 1), u1, u2], []) x o) ∧ (∀ x : Int32 × Hp, e = (.inr x) → (.inl (some (.int x.1)), x.2) = o))) (fun s r hF hK hX => l_157_32_st hF hK (fun x hx => (hX _ hx).1 x rfl) (fun x hx => (hX _ hx).2 x rfl)) n s e hF ⟨hX0, hX1⟩
def q_157_20 (h : Hp) (s0 : Int32) : Option ((Int32 × Hp) ⊕ Int32 × Hp) :=
  (p_155 h s0).bind fun vz7 =>
  if vz7.1 = 0 then
    (q_157_54 vz7.2)
  else
    (w_gd (g_150 vz7.2) <|
    (p_155 vz7.2 (v_148 (v_150 vz7.2))).bind fun vz16 =>
    if vz16.1 = 0 then
      (some (.inr (0, vz16.2)))
    else
      ((w_lp (fun (s : Int32 × Hp) => l_157_32 s.1 s.2) w_N (1, vz16.2)).bind <| (Sum.elim (fun yz27 =>
        (q_157_54 yz27)) (fun yz28 =>
        (some (.inr yz28))))))
theorem q_157_20_ok {X : List Int32} {o : kO}  {h : Hp} {s0 : Int32}  {r : (Int32 × Hp) ⊕ Int32 × Hp} (hF : q_157_20 h s0 = some r) (hK : ∀ s' : Int32 × Hp, r = .inl s' → ∀ (u2 : Value), k_Go X 2 157 (2, [.ref (1076 + 1), .int (s'.1), u2], []) s'.2 o) (hX0 : ∀ e : Int32 × Hp, r = .inr e → (.inl (some (.int e.1)), e.2) = o) : ∀ (u1 : Value) (u2 : Value), k_Go X 2 157 (20, [.ref (1076 + 1), u1, u2], [.int s0, .ref (1076 + 1)]) h o := by
  intro u1 u2
  unfold q_157_20 at hF
  refine wf_bind hF (fun vz7 hvz7 hF => ?_)
  refine kg_call (as := [.ref (1076 + 1), .int s0]) (rest := []) hk_157 rfl (Or.inr (Or.inr (Or.inr ⟨Or.inl rfl, _, _, rfl, wc_1076⟩))) rfl rfl rfl (Nat.not_lt.mpr (Nat.le_of_ble_eq_true rfl)) (p_155_ok hvz7) (by decide) rfl ?_
  refine wf_if hF (fun cz8 hF => ?_) (fun cz8 hF => ?_)
  · refine kg_ifT hk_157 rfl (jc_T0 cz8) ?_
    exact q_157_54_ok hF hK hX0 _ _
  · refine kg_ifF hk_157 rfl (jc_F0 cz8) rfl ?_
    refine kg_push (x := 1) hk_157 rfl (by decide) rfl ?_
    refine kg_istore (L2 := [.ref (1076 + 1), u1, .int 1]) hk_157 rfl (Nat.le_of_ble_eq_true rfl) rfl rfl ?_
    refine kg_aload hk_157 rfl rfl rfl ?_
    refine kg_aload hk_157 rfl rfl rfl ?_
    refine wf_gd hF (fun gz15 hF => ?_)
    refine kg_call (as := [.ref (1076 + 1)]) (rest := [.ref (1076 + 1)]) hk_157 rfl (Or.inr (Or.inr (Or.inr ⟨Or.inl rfl, _, _, rfl, wc_1076⟩))) rfl rfl rfl (Nat.not_lt.mpr (Nat.le_of_ble_eq_true rfl)) (v_150_ok gz15) (by decide) rfl ?_
    refine kg_call (as := [.int (v_150 vz7.2)]) (rest := [.ref (1076 + 1)]) hk_157 rfl (Or.inl rfl) rfl rfl rfl (Nat.not_lt.mpr (Nat.le_of_ble_eq_true rfl)) (v_148_ok) (by decide) rfl ?_
    refine wf_bind hF (fun vz16 hvz16 hF => ?_)
    refine kg_call (as := [.ref (1076 + 1), .int (v_148 (v_150 vz7.2))]) (rest := []) hk_157 rfl (Or.inr (Or.inr (Or.inr ⟨Or.inl rfl, _, _, rfl, wc_1076⟩))) rfl rfl rfl (Nat.not_lt.mpr (Nat.le_of_ble_eq_true rfl)) (p_155_ok hvz16) (by decide) rfl ?_
    refine wf_if hF (fun cz17 hF => ?_) (fun cz17 hF => ?_)
    · refine kg_ifF hk_157 rfl (jc_F1 cz17) rfl ?_
      refine kg_push (x := 0) hk_157 rfl (by decide) rfl ?_
      have hF := Option.some.inj hF
      exact kg_iret hk_157 rfl (Or.inr rfl) (hX0 _ hF.symm)
    · refine kg_ifT hk_157 rfl (jc_T1 cz17) ?_
      refine wf_bind hF (fun ez26 hez26 hF => ?_)
      refine l_157_32_ok hez26 ?_ ?_ _
      · intro yz27 hx
        subst hx
        refine wf_inl hF (fun hF => ?_)
        intro u1 u2
        exact q_157_54_ok hF hK hX0 _ _
      · intro yz28 hx
        subst hx
        refine wf_inr hF (fun hF => ?_)
        have hF := Option.some.inj hF
        exact hX0 _ hF.symm
def l_157_2 (x1 : Int32) (h : Hp) : Option ((Int32 × Hp) ⊕ Int32 × Hp) :=
  if x1 = 0 then
    (some (.inr (1, h)))
  else
    (w_gd (g_150 h) <|
    (p_155 h (v_148 (v_150 h))).bind fun vz3 =>
    if vz3.1 = 0 then
      (some (.inr (0, vz3.2)))
    else
      (w_gd (g_150 vz3.2) <|
      q_157_20 vz3.2 (if (v_150 vz3.2) = 58 then 1 else 0 : Int32)))
theorem l_157_2_st {X : List Int32} {o : kO}  {h : Hp} {x1 : Int32}  {r : (Int32 × Hp) ⊕ Int32 × Hp} (hF : l_157_2 x1 h = some r) (hK : ∀ s' : Int32 × Hp, r = .inl s' → ∀ (u2 : Value), k_Go X 2 157 (2, [.ref (1076 + 1), .int (s'.1), u2], []) s'.2 o) (hX0 : ∀ e : Int32 × Hp, r = .inr e → (.inl (some (.int e.1)), e.2) = o) : ∀ (u2 : Value), k_Go X 2 157 (2, [.ref (1076 + 1), .int x1, u2], []) h o := by
  intro u2
  refine kg_iload hk_157 rfl rfl rfl ?_
  refine wf_if hF (fun cz1 hF => ?_) (fun cz1 hF => ?_)
  · refine kg_ifT hk_157 rfl (jc_T0 cz1) ?_
    refine kg_push (x := 1) hk_157 rfl (by decide) rfl ?_
    have hF := Option.some.inj hF
    exact kg_iret hk_157 rfl (Or.inr rfl) (hX0 _ hF.symm)
  · refine kg_ifF hk_157 rfl (jc_F0 cz1) rfl ?_
    refine kg_aload hk_157 rfl rfl rfl ?_
    refine kg_aload hk_157 rfl rfl rfl ?_
    refine wf_gd hF (fun gz2 hF => ?_)
    refine kg_call (as := [.ref (1076 + 1)]) (rest := [.ref (1076 + 1)]) hk_157 rfl (Or.inr (Or.inr (Or.inr ⟨Or.inl rfl, _, _, rfl, wc_1076⟩))) rfl rfl rfl (Nat.not_lt.mpr (Nat.le_of_ble_eq_true rfl)) (v_150_ok gz2) (by decide) rfl ?_
    refine kg_call (as := [.int (v_150 h)]) (rest := [.ref (1076 + 1)]) hk_157 rfl (Or.inl rfl) rfl rfl rfl (Nat.not_lt.mpr (Nat.le_of_ble_eq_true rfl)) (v_148_ok) (by decide) rfl ?_
    refine wf_bind hF (fun vz3 hvz3 hF => ?_)
    refine kg_call (as := [.ref (1076 + 1), .int (v_148 (v_150 h))]) (rest := []) hk_157 rfl (Or.inr (Or.inr (Or.inr ⟨Or.inl rfl, _, _, rfl, wc_1076⟩))) rfl rfl rfl (Nat.not_lt.mpr (Nat.le_of_ble_eq_true rfl)) (p_155_ok hvz3) (by decide) rfl ?_
    refine wf_if hF (fun cz4 hF => ?_) (fun cz4 hF => ?_)
    · refine kg_ifF hk_157 rfl (jc_F1 cz4) rfl ?_
      refine kg_push (x := 0) hk_157 rfl (by decide) rfl ?_
      have hF := Option.some.inj hF
      exact kg_iret hk_157 rfl (Or.inr rfl) (hX0 _ hF.symm)
    · refine kg_ifT hk_157 rfl (jc_T1 cz4) ?_
      refine kg_aload hk_157 rfl rfl rfl ?_
      refine kg_aload hk_157 rfl rfl rfl ?_
      refine wf_gd hF (fun gz5 hF => ?_)
      refine kg_call (as := [.ref (1076 + 1)]) (rest := [.ref (1076 + 1)]) hk_157 rfl (Or.inr (Or.inr (Or.inr ⟨Or.inl rfl, _, _, rfl, wc_1076⟩))) rfl rfl rfl (Nat.not_lt.mpr (Nat.le_of_ble_eq_true rfl)) (v_150_ok gz5) (by decide) rfl ?_
      refine kg_push (x := 58) hk_157 rfl (by decide) rfl ?_
      refine kv_mid (p := 20) (L := [.ref (1076 + 1), .int x1, u2]) (S := [.int (if (v_150 vz3.2) = 58 then 1 else 0 : Int32), .ref (1076 + 1)]) ?_ (fun hK => ?_)
      · exact q_157_20_ok hF hK hX0 _ _
      · by_cases cz6 : (v_150 vz3.2) = 58
        · have hK := kv_T cz6 hK
          refine kg_icF hk_157 rfl (jc_F1 cz6) rfl ?_
          refine kg_push (x := 1) hk_157 rfl (by decide) rfl ?_
          refine kg_goto hk_157 rfl ?_
          exact hK
        · have hK := kv_F cz6 hK
          refine kg_icT hk_157 rfl (jc_T1 cz6) ?_
          refine kg_push (x := 0) hk_157 rfl (by decide) rfl ?_
          exact hK
theorem l_157_2_ok {X : List Int32} {o : kO}    {n : Nat} {s : Int32 × Hp} {e : Int32 × Hp} (hF : w_lp (fun (s : Int32 × Hp) => l_157_2 s.1 s.2) n s = some e) (hX0 : (.inl (some (.int e.1)), e.2) = o) : ∀ (u2 : Value), k_Go X 2 157 (2, [.ref (1076 + 1), .int s.1, u2], []) s.2 o := by
  exact w_lp_ok (P := (fun (s : Int32 × Hp) => ∀ (u2 : Value), k_Go X 2 157 (2, [.ref (1076 + 1), .int s.1, u2], []) s.2 o)) (Q := (fun (e : Int32 × Hp) => ((.inl (some (.int e.1)), e.2) = o))) (fun s r hF hK hX => l_157_2_st hF hK (fun x hx => (hX _ hx))) n s e hF hX0
def p_157 (h : Hp) : Option (Int32 × Hp) :=
  w_lp (fun (s : Int32 × Hp) => l_157_2 s.1 s.2) w_N (1, h)
theorem p_157_ok {X : List Int32}  {h : Hp}   {r : Int32 × Hp} (hF : p_157 h = some r) : k_Ev X 2 157 [.ref (1076 + 1)] h (.inl (some (.int r.1)), r.2) := by
  refine k_of hk_157 ?_
  show k_Go X 2 157 (0, [.ref (1076 + 1), (.retAddr 0), (.retAddr 0)], []) h _
  unfold p_157 at hF
  refine kg_push (x := 1) hk_157 rfl (by decide) rfl ?_
  refine kg_istore (L2 := [.ref (1076 + 1), .int 1, (.retAddr 0)]) hk_157 rfl (Nat.le_of_ble_eq_true rfl) rfl rfl ?_
  exact l_157_2_ok hF rfl _
-- NotebookWeirModel.faultOf(II)I
theorem hk_158 : jP[158]? = some (jc_158, 4, [], []) := by rfl
def l_158_8 (x1 : Int32) (x3 : Int32) (h : Hp) : Option ((Int32 × Hp) ⊕ Hp) :=
  if x3 < (h 1076 66) then
    (w_gd (w_ix ((40 * x1) + x3) 80) <|
    w_gd (w_ix x3 40) <|
    w_let (w_up h 1127 x3.toNatClampNeg (h 1077 ((40 * x1) + x3).toNatClampNeg)) fun hz6 =>
    some (.inl ((x3 + 1), hz6)))
  else
    (some (.inr h))
theorem l_158_8_st {X : List Int32} {o : kO}  {h : Hp} {x1 : Int32} {x2 : Int32} {x3 : Int32}  {r : (Int32 × Hp) ⊕ Hp} (hF : l_158_8 x1 x3 h = some r) (hK : ∀ s' : Int32 × Hp, r = .inl s' → k_Go X 5 158 (8, [.ref (1076 + 1), .int x1, .int x2, .int (s'.1)], []) s'.2 o) (hX0 : ∀ e : Hp, r = .inr e → ∀ (u1 : Value) (u3 : Value), k_Go X 5 158 (26, [.ref (1076 + 1), u1, .int x2, u3], []) e o) : k_Go X 5 158 (8, [.ref (1076 + 1), .int x1, .int x2, .int x3], []) h o := by
  refine kg_iload hk_158 rfl rfl rfl ?_
  refine kg_aload hk_158 rfl rfl rfl ?_
  refine kg_get (v := .int (h 1076 66)) hk_158 rfl wk_1076_66 rfl rfl ?_
  refine wf_if hF (fun cz3 hF => ?_) (fun cz3 hF => ?_)
  · refine kg_icF hk_158 rfl (jc_F3 cz3) rfl ?_
    refine kg_aload hk_158 rfl rfl rfl ?_
    refine kg_get (v := .ref (1127 + 1)) hk_158 rfl wk_1076_65 rfl rfl ?_
    refine kg_iload hk_158 rfl rfl rfl ?_
    refine kg_aload hk_158 rfl rfl rfl ?_
    refine kg_get (v := .ref (1077 + 1)) hk_158 rfl wk_1076_0 rfl rfl ?_
    refine kg_push (x := 40) hk_158 rfl (by decide) rfl ?_
    refine kg_iload hk_158 rfl rfl rfl ?_
    refine kg_bin (z := (40 * x1)) hk_158 rfl rfl rfl ?_
    refine kg_iload hk_158 rfl rfl rfl ?_
    refine kg_bin (z := ((40 * x1) + x3)) hk_158 rfl rfl rfl ?_
    refine wf_gd hF (fun gz4 hF => ?_)
    refine kg_ald (y := (h 1077 ((40 * x1) + x3).toNatClampNeg)) hk_158 rfl wc_1077 gz4 rfl rfl ?_
    refine wf_gd hF (fun gz5 hF => ?_)
    refine wf_let hF (fun hz6 hhz6 hF => ?_)
    refine kg_ast hk_158 rfl wc_1127 gz5 hhz6 rfl ?_
    refine kg_iinc (y := (x3 + 1)) (L2 := [.ref (1076 + 1), .int x1, .int x2, .int (x3 + 1)]) hk_158 rfl rfl rfl rfl rfl ?_
    refine kg_goto hk_158 rfl ?_
    have hF := Option.some.inj hF
    exact hK _ hF.symm
  · refine kg_icT hk_158 rfl (jc_T3 cz3) ?_
    have hF := Option.some.inj hF
    exact hX0 _ hF.symm _ _
theorem l_158_8_ok {X : List Int32} {o : kO}  {x1 : Int32} {x2 : Int32}  {n : Nat} {s : Int32 × Hp} {e : Hp} (hF : w_lp (fun (s : Int32 × Hp) => l_158_8 x1 s.1 s.2) n s = some e) (hX0 : ∀ (u1 : Value) (u3 : Value), k_Go X 5 158 (26, [.ref (1076 + 1), u1, .int x2, u3], []) e o) : k_Go X 5 158 (8, [.ref (1076 + 1), .int x1, .int x2, .int s.1], []) s.2 o := by
  exact w_lp_ok (P := (fun (s : Int32 × Hp) => k_Go X 5 158 (8, [.ref (1076 + 1), .int x1, .int x2, .int s.1], []) s.2 o)) (Q := (fun (e : Hp) => (∀ (u1 : Value) (u3 : Value), k_Go X 5 158 (26, [.ref (1076 + 1), u1, .int x2, u3], []) e o))) (fun s r hF hK hX => l_158_8_st hF hK (fun x hx => (hX _ hx))) n s e hF hX0
def q_158_42 (h : Hp) (s0 : Int32) : Option (Int32 × Hp) :=
  some ((if s0 = 0 then (h 1076 67) else (-1) : Int32), h)
theorem q_158_42_ok {X : List Int32}   {h : Hp} {s0 : Int32}  {r : Int32 × Hp} (hF : q_158_42 h s0 = some r)  : ∀ (u1 : Value) (u2 : Value) (u3 : Value), k_Go X 5 158 (42, [.ref (1076 + 1), u1, u2, u3], [.int s0]) h (.inl (some (.int r.1)), r.2) := by
  intro u1 u2 u3
  unfold q_158_42 at hF
  refine kg_istore (L2 := [.ref (1076 + 1), u1, u2, .int s0]) hk_158 rfl (Nat.le_of_ble_eq_true rfl) rfl rfl ?_
  refine kg_iload hk_158 rfl rfl rfl ?_
  refine kv_mid (p := 49) (L := [.ref (1076 + 1), u1, u2, .int s0]) (S := [.int (if s0 = 0 then (h 1076 67) else (-1) : Int32)]) ?_ (fun hK => ?_)
  · have hF := Option.some.inj hF
    subst hF
    exact kg_iret hk_158 rfl (Or.inl rfl) rfl
  · by_cases cz11 : s0 = 0
    · have hK := kv_T cz11 hK
      refine kg_ifT hk_158 rfl (jc_T0 cz11) ?_
      refine kg_aload hk_158 rfl rfl rfl ?_
      refine kg_get (v := .int (h 1076 67)) hk_158 rfl wk_1076_67 rfl rfl ?_
      exact hK
    · have hK := kv_F cz11 hK
      refine kg_ifF hk_158 rfl (jc_F0 cz11) rfl ?_
      refine kg_push (x := (-1)) hk_158 rfl (by decide) rfl ?_
      refine kg_goto hk_158 rfl ?_
      exact hK
def p_158 (h : Hp) (x1 : Int32) (x2 : Int32) : Option (Int32 × Hp) :=
  w_gd (w_ix x1 2) <|
  w_let (w_up h 1076 66 (h 1078 x1.toNatClampNeg)) fun hz2 =>
  (w_lp (fun (s : Int32 × Hp) => l_158_8 x1 s.1 s.2) w_N (0, hz2)).bind fun ez7 =>
  w_let (w_up ez7 1076 67 0) fun hz8 =>
  if x2 = 0 then
    ((p_154 hz8).bind fun vz10 =>
    q_158_42 vz10.2 vz10.1)
  else
    (if x2 = 1 then
      ((p_156 hz8).bind fun vz13 =>
      q_158_42 vz13.2 vz13.1)
    else
      ((p_157 hz8).bind fun vz14 =>
      q_158_42 vz14.2 vz14.1))
theorem p_158_ok {X : List Int32}  {h : Hp} {x1 : Int32} {x2 : Int32}  {r : Int32 × Hp} (hF : p_158 h x1 x2 = some r) : k_Ev X 5 158 [.ref (1076 + 1), .int x1, .int x2] h (.inl (some (.int r.1)), r.2) := by
  refine k_of hk_158 ?_
  show k_Go X 5 158 (0, [.ref (1076 + 1), .int x1, .int x2, (.retAddr 0)], []) h _
  unfold p_158 at hF
  refine kg_aload hk_158 rfl rfl rfl ?_
  refine kg_aload hk_158 rfl rfl rfl ?_
  refine kg_get (v := .ref (1078 + 1)) hk_158 rfl wk_1076_1 rfl rfl ?_
  refine kg_iload hk_158 rfl rfl rfl ?_
  refine wf_gd hF (fun gz1 hF => ?_)
  refine kg_ald (y := (h 1078 x1.toNatClampNeg)) hk_158 rfl wc_1078 gz1 rfl rfl ?_
  refine wf_let hF (fun hz2 hhz2 hF => ?_)
  refine kg_put hk_158 rfl wk_1076_66 rfl rfl hhz2 rfl ?_
  refine kg_push (x := 0) hk_158 rfl (by decide) rfl ?_
  refine kg_istore (L2 := [.ref (1076 + 1), .int x1, .int x2, .int 0]) hk_158 rfl (Nat.le_of_ble_eq_true rfl) rfl rfl ?_
  refine wf_bind hF (fun ez7 hez7 hF => ?_)
  refine l_158_8_ok hez7 ?_
  intro u1 u3
  refine kg_aload hk_158 rfl rfl rfl ?_
  refine kg_push (x := 0) hk_158 rfl (by decide) rfl ?_
  refine wf_let hF (fun hz8 hhz8 hF => ?_)
  refine kg_put hk_158 rfl wk_1076_67 rfl rfl hhz8 rfl ?_
  refine kg_iload hk_158 rfl rfl rfl ?_
  refine wf_if hF (fun cz9 hF => ?_) (fun cz9 hF => ?_)
  · refine kg_ifF hk_158 rfl (jc_F1 cz9) rfl ?_
    refine kg_aload hk_158 rfl rfl rfl ?_
    refine wf_bind hF (fun vz10 hvz10 hF => ?_)
    refine kg_call (as := [.ref (1076 + 1)]) (rest := []) hk_158 rfl (Or.inr (Or.inr (Or.inr ⟨Or.inl rfl, _, _, rfl, wc_1076⟩))) rfl rfl rfl (Nat.not_lt.mpr (Nat.le_of_ble_eq_true rfl)) (p_154_ok hvz10) (by decide) rfl ?_
    refine kg_goto hk_158 rfl ?_
    exact q_158_42_ok hF _ _ _
  · refine kg_ifT hk_158 rfl (jc_T1 cz9) ?_
    refine kg_iload hk_158 rfl rfl rfl ?_
    refine kg_push (x := 1) hk_158 rfl (by decide) rfl ?_
    refine wf_if hF (fun cz12 hF => ?_) (fun cz12 hF => ?_)
    · refine kg_icF hk_158 rfl (jc_F1 cz12) rfl ?_
      refine kg_aload hk_158 rfl rfl rfl ?_
      refine wf_bind hF (fun vz13 hvz13 hF => ?_)
      refine kg_call (as := [.ref (1076 + 1)]) (rest := []) hk_158 rfl (Or.inr (Or.inr (Or.inr ⟨Or.inl rfl, _, _, rfl, wc_1076⟩))) rfl rfl rfl (Nat.not_lt.mpr (Nat.le_of_ble_eq_true rfl)) (p_156_ok hvz13) (by decide) rfl ?_
      refine kg_goto hk_158 rfl ?_
      exact q_158_42_ok hF _ _ _
    · refine kg_icT hk_158 rfl (jc_T1 cz12) ?_
      refine kg_aload hk_158 rfl rfl rfl ?_
      refine wf_bind hF (fun vz14 hvz14 hF => ?_)
      refine kg_call (as := [.ref (1076 + 1)]) (rest := []) hk_158 rfl (Or.inr (Or.inr (Or.inr ⟨Or.inl rfl, _, _, rfl, wc_1076⟩))) rfl rfl rfl (Nat.not_lt.mpr (Nat.le_of_ble_eq_true rfl)) (p_157_ok hvz14) (by decide) rfl ?_
      exact q_158_42_ok hF _ _ _
-- NotebookWeirModel.type(IC)I
theorem hk_159 : jP[159]? = some (jc_159, 4, [], []) := by rfl
def q_159_18 (h : Hp) (x1 : Int32) (x2 : Int32) (s0 : Int32) (s1 : Int32) : Option (Int32 × Hp) :=
  (p_146 h s1 s0 1).bind fun vz5 =>
  if vz5.1 = 0 then
    (some (0, vz5.2))
  else
    (w_gd (w_ix x1 2) <|
    w_gd (w_ix ((40 * x1) + (vz5.2 1078 x1.toNatClampNeg)) 80) <|
    w_let (w_up vz5.2 1077 (((40 * x1) + (vz5.2 1078 x1.toNatClampNeg)).toNatClampNeg) x2) fun hz9 =>
    w_gd (w_ix x1 2) <|
    w_gd (w_ix x1 2) <|
    w_let (w_up hz9 1078 x1.toNatClampNeg ((hz9 1078 x1.toNatClampNeg) + 1)) fun hz12 =>
    w_gd (w_ix x1 2) <|
    some ((hz12 1078 x1.toNatClampNeg), hz12))
theorem q_159_18_ok {X : List Int32}   {h : Hp} {s0 : Int32} {s1 : Int32} {x1 : Int32} {x2 : Int32}  {r : Int32 × Hp} (hF : q_159_18 h x1 x2 s0 s1 = some r)  : ∀ (u3 : Value), k_Go X 1 159 (18, [.ref (1076 + 1), .int x1, .int x2, u3], [.int s0, .int s1, .ref (1076 + 1)]) h (.inl (some (.int r.1)), r.2) := by
  intro u3
  unfold q_159_18 at hF
  refine kg_push (x := 1) hk_159 rfl (by decide) rfl ?_
  refine wf_bind hF (fun vz5 hvz5 hF => ?_)
  refine kg_call (as := [.ref (1076 + 1), .int s1, .int s0, .int 1]) (rest := []) hk_159 rfl (Or.inr (Or.inr (Or.inr ⟨Or.inl rfl, _, _, rfl, wc_1076⟩))) rfl rfl rfl (Nat.not_lt.mpr (Nat.le_of_ble_eq_true rfl)) (p_146_ok hvz5) (by decide) rfl ?_
  refine wf_if hF (fun cz6 hF => ?_) (fun cz6 hF => ?_)
  · refine kg_ifF hk_159 rfl (jc_F1 cz6) rfl ?_
    refine kg_push (x := 0) hk_159 rfl (by decide) rfl ?_
    have hF := Option.some.inj hF
    subst hF
    exact kg_iret hk_159 rfl (Or.inl rfl) rfl
  · refine kg_ifT hk_159 rfl (jc_T1 cz6) ?_
    refine kg_aload hk_159 rfl rfl rfl ?_
    refine kg_get (v := .ref (1077 + 1)) hk_159 rfl wk_1076_0 rfl rfl ?_
    refine kg_push (x := 40) hk_159 rfl (by decide) rfl ?_
    refine kg_iload hk_159 rfl rfl rfl ?_
    refine kg_bin (z := (40 * x1)) hk_159 rfl rfl rfl ?_
    refine kg_aload hk_159 rfl rfl rfl ?_
    refine kg_get (v := .ref (1078 + 1)) hk_159 rfl wk_1076_1 rfl rfl ?_
    refine kg_iload hk_159 rfl rfl rfl ?_
    refine wf_gd hF (fun gz7 hF => ?_)
    refine kg_ald (y := (vz5.2 1078 x1.toNatClampNeg)) hk_159 rfl wc_1078 gz7 rfl rfl ?_
    refine kg_bin (z := ((40 * x1) + (vz5.2 1078 x1.toNatClampNeg))) hk_159 rfl rfl rfl ?_
    refine kg_iload hk_159 rfl rfl rfl ?_
    refine wf_gd hF (fun gz8 hF => ?_)
    refine wf_let hF (fun hz9 hhz9 hF => ?_)
    refine kg_ast hk_159 rfl wc_1077 gz8 hhz9 rfl ?_
    refine kg_aload hk_159 rfl rfl rfl ?_
    refine kg_get (v := .ref (1078 + 1)) hk_159 rfl wk_1076_1 rfl rfl ?_
    refine kg_iload hk_159 rfl rfl rfl ?_
    refine kg_dup2 hk_159 rfl ⟨rfl, rfl⟩ rfl ?_
    refine wf_gd hF (fun gz10 hF => ?_)
    refine kg_ald (y := (hz9 1078 x1.toNatClampNeg)) hk_159 rfl wc_1078 gz10 rfl rfl ?_
    refine kg_push (x := 1) hk_159 rfl (by decide) rfl ?_
    refine kg_bin (z := ((hz9 1078 x1.toNatClampNeg) + 1)) hk_159 rfl rfl rfl ?_
    refine wf_gd hF (fun gz11 hF => ?_)
    refine wf_let hF (fun hz12 hhz12 hF => ?_)
    refine kg_ast hk_159 rfl wc_1078 gz11 hhz12 rfl ?_
    refine kg_aload hk_159 rfl rfl rfl ?_
    refine kg_get (v := .ref (1078 + 1)) hk_159 rfl wk_1076_1 rfl rfl ?_
    refine kg_iload hk_159 rfl rfl rfl ?_
    refine wf_gd hF (fun gz13 hF => ?_)
    refine kg_ald (y := (hz12 1078 x1.toNatClampNeg)) hk_159 rfl wc_1078 gz13 rfl rfl ?_
    have hF := Option.some.inj hF
    subst hF
    exact kg_iret hk_159 rfl (Or.inl rfl) rfl
def p_159 (h : Hp) (x1 : Int32) (x2 : Int32) : Option (Int32 × Hp) :=
  w_gd ((if (v_147 x1 0 1) = 0 then true else w_ix x1 2)) <|
  q_159_18 h x1 x2 (if (v_147 x1 0 1) = 0 then 0 else (if (h 1078 x1.toNatClampNeg) < 40 then 1 else 0 : Int32) : Int32) (v_147 x1 0 1)
theorem p_159_ok {X : List Int32}  {h : Hp} {x1 : Int32} {x2 : Int32}  {r : Int32 × Hp} (hF : p_159 h x1 x2 = some r) : k_Ev X 1 159 [.ref (1076 + 1), .int x1, .int x2] h (.inl (some (.int r.1)), r.2) := by
  refine k_of hk_159 ?_
  show k_Go X 1 159 (0, [.ref (1076 + 1), .int x1, .int x2, (.retAddr 0)], []) h _
  unfold p_159 at hF
  refine kg_iload hk_159 rfl rfl rfl ?_
  refine kg_push (x := 0) hk_159 rfl (by decide) rfl ?_
  refine kg_push (x := 1) hk_159 rfl (by decide) rfl ?_
  refine kg_call (as := [.int x1, .int 0, .int 1]) (rest := []) hk_159 rfl (Or.inl rfl) rfl rfl rfl (Nat.not_lt.mpr (Nat.le_of_ble_eq_true rfl)) (v_147_ok) (by decide) rfl ?_
  refine kg_istore (L2 := [.ref (1076 + 1), .int x1, .int x2, .int (v_147 x1 0 1)]) hk_159 rfl (Nat.le_of_ble_eq_true rfl) rfl rfl ?_
  refine kg_aload hk_159 rfl rfl rfl ?_
  refine kg_iload hk_159 rfl rfl rfl ?_
  refine kg_iload hk_159 rfl rfl rfl ?_
  refine wf_gd hF (fun gz4 hF => ?_)
  refine kv_mid (p := 18) (L := [.ref (1076 + 1), .int x1, .int x2, .int (v_147 x1 0 1)]) (S := [.int (if (v_147 x1 0 1) = 0 then 0 else (if (h 1078 x1.toNatClampNeg) < 40 then 1 else 0 : Int32) : Int32), .int (v_147 x1 0 1), .ref (1076 + 1)]) ?_ (fun hK => ?_)
  · exact q_159_18_ok hF _
  · have hg := gz4
    by_cases cz1 : (v_147 x1 0 1) = 0
    · have hK := kv_T cz1 hK
      refine kg_ifT hk_159 rfl (jc_T0 cz1) ?_
      refine kg_push (x := 0) hk_159 rfl (by decide) rfl ?_
      exact hK
    · have hg := wv_F cz1 hg
      have hK := kv_F cz1 hK
      have gz2 := hg
      refine kg_ifF hk_159 rfl (jc_F0 cz1) rfl ?_
      refine kg_aload hk_159 rfl rfl rfl ?_
      refine kg_get (v := .ref (1078 + 1)) hk_159 rfl wk_1076_1 rfl rfl ?_
      refine kg_iload hk_159 rfl rfl rfl ?_
      refine kg_ald (y := (h 1078 x1.toNatClampNeg)) hk_159 rfl wc_1078 gz2 rfl rfl ?_
      refine kg_push (x := 40) hk_159 rfl (by decide) rfl ?_
      by_cases cz3 : (h 1078 x1.toNatClampNeg) < 40
      · have hK := kv_T cz3 hK
        refine kg_icF hk_159 rfl (jc_F3 cz3) rfl ?_
        refine kg_push (x := 1) hk_159 rfl (by decide) rfl ?_
        refine kg_goto hk_159 rfl ?_
        exact hK
      · have hK := kv_F cz3 hK
        refine kg_icT hk_159 rfl (jc_T3 cz3) ?_
        refine kg_push (x := 0) hk_159 rfl (by decide) rfl ?_
        exact hK
-- NotebookWeirModel.fault(II)I
theorem hk_160 : jP[160]? = some (jc_160, 3, [], []) := by rfl
def q_160_14 (h : Hp) (x1 : Int32) (x2 : Int32) (s0 : Int32) : Option (Int32 × Hp) :=
  (p_146 h s0 1 1).bind fun vz3 =>
  if vz3.1 = 0 then
    (some (0, vz3.2))
  else
    ((p_158 vz3.2 x1 x2).bind fun vz5 =>
    some (vz5.1, vz5.2))
theorem q_160_14_ok {X : List Int32}   {h : Hp} {s0 : Int32} {x1 : Int32} {x2 : Int32}  {r : Int32 × Hp} (hF : q_160_14 h x1 x2 s0 = some r)  : k_Go X 6 160 (14, [.ref (1076 + 1), .int x1, .int x2], [.int s0, .ref (1076 + 1)]) h (.inl (some (.int r.1)), r.2) := by
  unfold q_160_14 at hF
  refine kg_push (x := 1) hk_160 rfl (by decide) rfl ?_
  refine kg_push (x := 1) hk_160 rfl (by decide) rfl ?_
  refine wf_bind hF (fun vz3 hvz3 hF => ?_)
  refine kg_call (as := [.ref (1076 + 1), .int s0, .int 1, .int 1]) (rest := []) hk_160 rfl (Or.inr (Or.inr (Or.inr ⟨Or.inl rfl, _, _, rfl, wc_1076⟩))) rfl rfl rfl (Nat.not_lt.mpr (Nat.le_of_ble_eq_true rfl)) (p_146_ok hvz3) (by decide) rfl ?_
  refine wf_if hF (fun cz4 hF => ?_) (fun cz4 hF => ?_)
  · refine kg_ifT hk_160 rfl (jc_T0 cz4) ?_
    refine kg_push (x := 0) hk_160 rfl (by decide) rfl ?_
    have hF := Option.some.inj hF
    subst hF
    exact kg_iret hk_160 rfl (Or.inl rfl) rfl
  · refine kg_ifF hk_160 rfl (jc_F0 cz4) rfl ?_
    refine kg_aload hk_160 rfl rfl rfl ?_
    refine kg_iload hk_160 rfl rfl rfl ?_
    refine kg_iload hk_160 rfl rfl rfl ?_
    refine wf_bind hF (fun vz5 hvz5 hF => ?_)
    refine kg_call (as := [.ref (1076 + 1), .int x1, .int x2]) (rest := []) hk_160 rfl (Or.inr (Or.inr (Or.inr ⟨Or.inl rfl, _, _, rfl, wc_1076⟩))) rfl rfl rfl (Nat.not_lt.mpr (Nat.le_of_ble_eq_true rfl)) (p_158_ok hvz5) (by decide) rfl ?_
    refine kg_goto hk_160 rfl ?_
    have hF := Option.some.inj hF
    subst hF
    exact kg_iret hk_160 rfl (Or.inl rfl) rfl
def p_160 (h : Hp) (x1 : Int32) (x2 : Int32) : Option (Int32 × Hp) :=
  q_160_14 h x1 x2 (if (v_147 x1 0 1) = 0 then 0 else (if (v_147 x2 0 2) = 0 then 0 else 1 : Int32) : Int32)
theorem p_160_ok {X : List Int32}  {h : Hp} {x1 : Int32} {x2 : Int32}  {r : Int32 × Hp} (hF : p_160 h x1 x2 = some r) : k_Ev X 6 160 [.ref (1076 + 1), .int x1, .int x2] h (.inl (some (.int r.1)), r.2) := by
  refine k_of hk_160 ?_
  show k_Go X 6 160 (0, [.ref (1076 + 1), .int x1, .int x2], []) h _
  unfold p_160 at hF
  refine kg_aload hk_160 rfl rfl rfl ?_
  refine kg_iload hk_160 rfl rfl rfl ?_
  refine kg_push (x := 0) hk_160 rfl (by decide) rfl ?_
  refine kg_push (x := 1) hk_160 rfl (by decide) rfl ?_
  refine kg_call (as := [.int x1, .int 0, .int 1]) (rest := [.ref (1076 + 1)]) hk_160 rfl (Or.inl rfl) rfl rfl rfl (Nat.not_lt.mpr (Nat.le_of_ble_eq_true rfl)) (v_147_ok) (by decide) rfl ?_
  refine kv_mid (p := 14) (L := [.ref (1076 + 1), .int x1, .int x2]) (S := [.int (if (v_147 x1 0 1) = 0 then 0 else (if (v_147 x2 0 2) = 0 then 0 else 1 : Int32) : Int32), .ref (1076 + 1)]) ?_ (fun hK => ?_)
  · exact q_160_14_ok hF
  · by_cases cz1 : (v_147 x1 0 1) = 0
    · have hK := kv_T cz1 hK
      refine kg_ifT hk_160 rfl (jc_T0 cz1) ?_
      refine kg_push (x := 0) hk_160 rfl (by decide) rfl ?_
      exact hK
    · have hK := kv_F cz1 hK
      refine kg_ifF hk_160 rfl (jc_F0 cz1) rfl ?_
      refine kg_iload hk_160 rfl rfl rfl ?_
      refine kg_push (x := 0) hk_160 rfl (by decide) rfl ?_
      refine kg_push (x := 2) hk_160 rfl (by decide) rfl ?_
      refine kg_call (as := [.int x2, .int 0, .int 2]) (rest := [.ref (1076 + 1)]) hk_160 rfl (Or.inl rfl) rfl rfl rfl (Nat.not_lt.mpr (Nat.le_of_ble_eq_true rfl)) (v_147_ok) (by decide) rfl ?_
      by_cases cz2 : (v_147 x2 0 2) = 0
      · have hK := kv_T cz2 hK
        refine kg_ifT hk_160 rfl (jc_T0 cz2) ?_
        refine kg_push (x := 0) hk_160 rfl (by decide) rfl ?_
        exact hK
      · have hK := kv_F cz2 hK
        refine kg_ifF hk_160 rfl (jc_F0 cz2) rfl ?_
        refine kg_push (x := 1) hk_160 rfl (by decide) rfl ?_
        refine kg_goto hk_160 rfl ?_
        exact hK
-- NotebookWeirModel.loads(I)V
theorem hk_161 : jP[161]? = some (jc_161, 3, [], []) := by rfl
def l_161_8 (x1 : Int32) (x2 : Int32) (h : Hp) : Option ((Int32 × Hp) ⊕ Hp) :=
  if x2 < (h 1076 66) then
    (w_gd (w_ix ((40 * x1) + x2) 640) <|
    w_gd (w_ix x2 40) <|
    w_let (w_up h 1127 x2.toNatClampNeg (h 1079 ((40 * x1) + x2).toNatClampNeg)) fun hz6 =>
    some (.inl ((x2 + 1), hz6)))
  else
    (some (.inr h))
theorem l_161_8_st {X : List Int32} {o : kO}  {h : Hp} {x1 : Int32} {x2 : Int32}  {r : (Int32 × Hp) ⊕ Hp} (hF : l_161_8 x1 x2 h = some r) (hK : ∀ s' : Int32 × Hp, r = .inl s' → k_Go X 0 161 (8, [.ref (1076 + 1), .int x1, .int (s'.1)], []) s'.2 o) (hX0 : ∀ e : Hp, r = .inr e → ∀ (u1 : Value) (u2 : Value), k_Go X 0 161 (26, [.ref (1076 + 1), u1, u2], []) e o) : k_Go X 0 161 (8, [.ref (1076 + 1), .int x1, .int x2], []) h o := by
  refine kg_iload hk_161 rfl rfl rfl ?_
  refine kg_aload hk_161 rfl rfl rfl ?_
  refine kg_get (v := .int (h 1076 66)) hk_161 rfl wk_1076_66 rfl rfl ?_
  refine wf_if hF (fun cz3 hF => ?_) (fun cz3 hF => ?_)
  · refine kg_icF hk_161 rfl (jc_F3 cz3) rfl ?_
    refine kg_aload hk_161 rfl rfl rfl ?_
    refine kg_get (v := .ref (1127 + 1)) hk_161 rfl wk_1076_65 rfl rfl ?_
    refine kg_iload hk_161 rfl rfl rfl ?_
    refine kg_aload hk_161 rfl rfl rfl ?_
    refine kg_get (v := .ref (1079 + 1)) hk_161 rfl wk_1076_3 rfl rfl ?_
    refine kg_push (x := 40) hk_161 rfl (by decide) rfl ?_
    refine kg_iload hk_161 rfl rfl rfl ?_
    refine kg_bin (z := (40 * x1)) hk_161 rfl rfl rfl ?_
    refine kg_iload hk_161 rfl rfl rfl ?_
    refine kg_bin (z := ((40 * x1) + x2)) hk_161 rfl rfl rfl ?_
    refine wf_gd hF (fun gz4 hF => ?_)
    refine kg_ald (y := (h 1079 ((40 * x1) + x2).toNatClampNeg)) hk_161 rfl wc_1079 gz4 rfl rfl ?_
    refine wf_gd hF (fun gz5 hF => ?_)
    refine wf_let hF (fun hz6 hhz6 hF => ?_)
    refine kg_ast hk_161 rfl wc_1127 gz5 hhz6 rfl ?_
    refine kg_iinc (y := (x2 + 1)) (L2 := [.ref (1076 + 1), .int x1, .int (x2 + 1)]) hk_161 rfl rfl rfl rfl rfl ?_
    refine kg_goto hk_161 rfl ?_
    have hF := Option.some.inj hF
    exact hK _ hF.symm
  · refine kg_icT hk_161 rfl (jc_T3 cz3) ?_
    have hF := Option.some.inj hF
    exact hX0 _ hF.symm _ _
theorem l_161_8_ok {X : List Int32} {o : kO}  {x1 : Int32}  {n : Nat} {s : Int32 × Hp} {e : Hp} (hF : w_lp (fun (s : Int32 × Hp) => l_161_8 x1 s.1 s.2) n s = some e) (hX0 : ∀ (u1 : Value) (u2 : Value), k_Go X 0 161 (26, [.ref (1076 + 1), u1, u2], []) e o) : k_Go X 0 161 (8, [.ref (1076 + 1), .int x1, .int s.1], []) s.2 o := by
  exact w_lp_ok (P := (fun (s : Int32 × Hp) => k_Go X 0 161 (8, [.ref (1076 + 1), .int x1, .int s.1], []) s.2 o)) (Q := (fun (e : Hp) => (∀ (u1 : Value) (u2 : Value), k_Go X 0 161 (26, [.ref (1076 + 1), u1, u2], []) e o))) (fun s r hF hK hX => l_161_8_st hF hK (fun x hx => (hX _ hx))) n s e hF hX0
def p_161 (h : Hp) (x1 : Int32) : Option (Hp) :=
  w_gd (w_ix x1 16) <|
  w_let (w_up h 1076 66 (h 1080 x1.toNatClampNeg)) fun hz2 =>
  (w_lp (fun (s : Int32 × Hp) => l_161_8 x1 s.1 s.2) w_N (0, hz2)).bind fun ez7 =>
  w_let (w_up ez7 1076 67 0) fun hz8 =>
  some hz8
theorem p_161_ok {X : List Int32}  {h : Hp} {x1 : Int32}  {r : Hp} (hF : p_161 h x1 = some r) : k_Ev X 0 161 [.ref (1076 + 1), .int x1] h (.inl none, r) := by
  refine k_of hk_161 ?_
  show k_Go X 0 161 (0, [.ref (1076 + 1), .int x1, (.retAddr 0)], []) h _
  unfold p_161 at hF
  refine kg_aload hk_161 rfl rfl rfl ?_
  refine kg_aload hk_161 rfl rfl rfl ?_
  refine kg_get (v := .ref (1080 + 1)) hk_161 rfl wk_1076_4 rfl rfl ?_
  refine kg_iload hk_161 rfl rfl rfl ?_
  refine wf_gd hF (fun gz1 hF => ?_)
  refine kg_ald (y := (h 1080 x1.toNatClampNeg)) hk_161 rfl wc_1080 gz1 rfl rfl ?_
  refine wf_let hF (fun hz2 hhz2 hF => ?_)
  refine kg_put hk_161 rfl wk_1076_66 rfl rfl hhz2 rfl ?_
  refine kg_push (x := 0) hk_161 rfl (by decide) rfl ?_
  refine kg_istore (L2 := [.ref (1076 + 1), .int x1, .int 0]) hk_161 rfl (Nat.le_of_ble_eq_true rfl) rfl rfl ?_
  refine wf_bind hF (fun ez7 hez7 hF => ?_)
  refine l_161_8_ok hez7 ?_
  intro u1 u2
  refine kg_aload hk_161 rfl rfl rfl ?_
  refine kg_push (x := 0) hk_161 rfl (by decide) rfl ?_
  refine wf_let hF (fun hz8 hhz8 hF => ?_)
  refine kg_put hk_161 rfl wk_1076_67 rfl rfl hhz8 rfl ?_
  have hF := Option.some.inj hF
  subst hF
  exact kg_ret hk_161 rfl rfl
-- NotebookWeirModel.bit(I)I
theorem hk_162 : jP[162]? = some (jc_162, 1, [], []) := by rfl
def v_162 (x0 : Int32) : Int32 := (1 <<< ((x0 - 97) &&& 31))
theorem v_162_ok {X : List Int32} {h : Hp} {x0 : Int32}  : k_Ev X 0 162 [.int x0] h (.inl (some (.int (v_162 x0))), h) := by
  refine k_of hk_162 ?_
  show k_Go X 0 162 (0, [.int x0], []) h _
  generalize hv : v_162 x0 = z
  unfold v_162 at hv
  refine kg_push (x := 1) hk_162 rfl (by decide) rfl ?_
  refine kg_iload hk_162 rfl rfl rfl ?_
  refine kg_push (x := 97) hk_162 rfl (by decide) rfl ?_
  refine kg_bin (z := (x0 - 97)) hk_162 rfl rfl rfl ?_
  refine kg_bin (z := (1 <<< ((x0 - 97) &&& 31))) hk_162 rfl rfl rfl ?_
  exact kg_iret hk_162 rfl (Or.inl rfl) (by rw [hv])
