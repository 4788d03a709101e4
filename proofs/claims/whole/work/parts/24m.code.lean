/-! ===== the methods as functions over the flat heap, and that the interpreter does what they say (printed by wip/whole/dec.py) ===== -/
-- NotebookWeirModel.tick()I
theorem hk_177 : jP[177]? = some (jc_177, 2, [], []) := by rfl
def l_177_11 (x1 : Int32) (h : Hp) : Option ((Int32 × Hp) ⊕ Hp) :=
  if x1 < (h 1076 48) then
    (w_gd (w_ix x1 4) <|
    w_gd (w_ix x1 4) <|
    w_let (w_up h 1119 x1.toNatClampNeg (j_nar 52 (h 1117 x1.toNatClampNeg))) fun hz6 =>
    w_gd (w_ix x1 4) <|
    w_gd ((if (hz6 1117 x1.toNatClampNeg) = 0 then w_ix x1 4 else w_ix x1 4)) <|
    w_gd (w_ix x1 4) <|
    w_let (w_up hz6 1115 x1.toNatClampNeg (if (hz6 1117 x1.toNatClampNeg) = 0 then (hz6 1115 x1.toNatClampNeg) else (hz6 1116 x1.toNatClampNeg) : Int32)) fun hz13 =>
    some (.inl ((x1 + 1), hz13)))
  else
    (some (.inr h))
theorem l_177_11_st {X : List Int32} {o : kO}  {h : Hp} {x1 : Int32}  {r : (Int32 × Hp) ⊕ Hp} (hF : l_177_11 x1 h = some r) (hK : ∀ s' : Int32 × Hp, r = .inl s' → k_Go X 14 177 (11, [.ref (1076 + 1), .int (s'.1)], []) s'.2 o) (hX0 : ∀ e : Hp, r = .inr e → ∀ (u1 : Value), k_Go X 14 177 (43, [.ref (1076 + 1), u1], []) e o) : k_Go X 14 177 (11, [.ref (1076 + 1), .int x1], []) h o := by
  refine kg_iload hk_177 rfl rfl rfl ?_
  refine kg_aload hk_177 rfl rfl rfl ?_
  refine kg_get (v := .int (h 1076 48)) hk_177 rfl wk_1076_48 rfl rfl ?_
  refine wf_if hF (fun cz3 hF => ?_) (fun cz3 hF => ?_)
  · refine kg_icF hk_177 rfl (jc_F3 cz3) rfl ?_
    refine kg_aload hk_177 rfl rfl rfl ?_
    refine kg_get (v := .ref (1119 + 1)) hk_177 rfl wk_1076_56 rfl rfl ?_
    refine kg_iload hk_177 rfl rfl rfl ?_
    refine kg_aload hk_177 rfl rfl rfl ?_
    refine kg_get (v := .ref (1117 + 1)) hk_177 rfl wk_1076_54 rfl rfl ?_
    refine kg_iload hk_177 rfl rfl rfl ?_
    refine wf_gd hF (fun gz4 hF => ?_)
    refine kg_ald (y := (h 1117 x1.toNatClampNeg)) hk_177 rfl wc_1117 gz4 rfl rfl ?_
    refine wf_gd hF (fun gz5 hF => ?_)
    refine wf_let hF (fun hz6 hhz6 hF => ?_)
    refine kg_ast hk_177 rfl wc_1119 gz5 hhz6 rfl ?_
    refine kg_aload hk_177 rfl rfl rfl ?_
    refine kg_get (v := .ref (1115 + 1)) hk_177 rfl wk_1076_52 rfl rfl ?_
    refine kg_iload hk_177 rfl rfl rfl ?_
    refine kg_aload hk_177 rfl rfl rfl ?_
    refine kg_get (v := .ref (1117 + 1)) hk_177 rfl wk_1076_54 rfl rfl ?_
    refine kg_iload hk_177 rfl rfl rfl ?_
    refine wf_gd hF (fun gz7 hF => ?_)
    refine kg_ald (y := (hz6 1117 x1.toNatClampNeg)) hk_177 rfl wc_1117 gz7 rfl rfl ?_
    refine wf_gd hF (fun gz11 hF => ?_)
    refine kv_mid (p := 40) (L := [.ref (1076 + 1), .int x1]) (S := [.int (if (hz6 1117 x1.toNatClampNeg) = 0 then (hz6 1115 x1.toNatClampNeg) else (hz6 1116 x1.toNatClampNeg) : Int32), .int x1, .ref (1115 + 1)]) ?_ (fun hK => ?_)
    · refine wf_gd hF (fun gz12 hF => ?_)
      refine wf_let hF (fun hz13 hhz13 hF => ?_)
      refine kg_ast hk_177 rfl wc_1115 gz12 hhz13 rfl ?_
      refine kg_iinc (y := (x1 + 1)) (L2 := [.ref (1076 + 1), .int (x1 + 1)]) hk_177 rfl rfl rfl rfl rfl ?_
      refine kg_goto hk_177 rfl ?_
      have hF := Option.some.inj hF
      exact hK _ hF.symm
    · have hg := gz11
      by_cases cz8 : (hz6 1117 x1.toNatClampNeg) = 0
      · have hg := wv_T cz8 hg
        have hK := kv_T cz8 hK
        have gz9 := hg
        refine kg_ifT hk_177 rfl (jc_T0 cz8) ?_
        refine kg_aload hk_177 rfl rfl rfl ?_
        refine kg_get (v := .ref (1115 + 1)) hk_177 rfl wk_1076_52 rfl rfl ?_
        refine kg_iload hk_177 rfl rfl rfl ?_
        refine kg_ald (y := (hz6 1115 x1.toNatClampNeg)) hk_177 rfl wc_1115 gz9 rfl rfl ?_
        exact hK
      · have hg := wv_F cz8 hg
        have hK := kv_F cz8 hK
        have gz10 := hg
        refine kg_ifF hk_177 rfl (jc_F0 cz8) rfl ?_
        refine kg_aload hk_177 rfl rfl rfl ?_
        refine kg_get (v := .ref (1116 + 1)) hk_177 rfl wk_1076_53 rfl rfl ?_
        refine kg_iload hk_177 rfl rfl rfl ?_
        refine kg_ald (y := (hz6 1116 x1.toNatClampNeg)) hk_177 rfl wc_1116 gz10 rfl rfl ?_
        refine kg_goto hk_177 rfl ?_
        exact hK
  · refine kg_icT hk_177 rfl (jc_T3 cz3) ?_
    have hF := Option.some.inj hF
    exact hX0 _ hF.symm _
theorem l_177_11_ok {X : List Int32} {o : kO}    {n : Nat} {s : Int32 × Hp} {e : Hp} (hF : w_lp (fun (s : Int32 × Hp) => l_177_11 s.1 s.2) n s = some e) (hX0 : ∀ (u1 : Value), k_Go X 14 177 (43, [.ref (1076 + 1), u1], []) e o) : k_Go X 14 177 (11, [.ref (1076 + 1), .int s.1], []) s.2 o := by
  exact w_lp_ok (P := (fun (s : Int32 × Hp) => k_Go X 14 177 (11, [.ref (1076 + 1), .int s.1], []) s.2 o)) (Q := (fun (e : Hp) => (∀ (u1 : Value), k_Go X 14 177 (43, [.ref (1076 + 1), u1], []) e o))) (fun s r hF hK hX => l_177_11_st hF hK (fun x hx => (hX _ hx))) n s e hF hX0
def q_177_57 (h : Hp) (x1 : Int32) : Option ((Int32 × Hp) ⊕ Hp) :=
  w_gd (w_ix x1 4) <|
  w_let (w_up h 1117 x1.toNatClampNeg (j_nar 52 0)) fun hz19 =>
  some (.inl ((x1 + 1), hz19))
theorem q_177_57_ok {X : List Int32} {o : kO}  {h : Hp} {x1 : Int32}  {r : (Int32 × Hp) ⊕ Hp} (hF : q_177_57 h x1 = some r) (hK : ∀ s' : Int32 × Hp, r = .inl s' → k_Go X 14 177 (45, [.ref (1076 + 1), .int (s'.1)], []) s'.2 o) (hX0 : ∀ e : Hp, r = .inr e → ∀ (u1 : Value), k_Go X 14 177 (64, [.ref (1076 + 1), u1], []) e o) : k_Go X 14 177 (57, [.ref (1076 + 1), .int x1], []) h o := by
  unfold q_177_57 at hF
  refine kg_aload hk_177 rfl rfl rfl ?_
  refine kg_get (v := .ref (1117 + 1)) hk_177 rfl wk_1076_54 rfl rfl ?_
  refine kg_iload hk_177 rfl rfl rfl ?_
  refine kg_push (x := 0) hk_177 rfl (by decide) rfl ?_
  refine wf_gd hF (fun gz18 hF => ?_)
  refine wf_let hF (fun hz19 hhz19 hF => ?_)
  refine kg_ast hk_177 rfl wc_1117 gz18 hhz19 rfl ?_
  refine kg_iinc (y := (x1 + 1)) (L2 := [.ref (1076 + 1), .int (x1 + 1)]) hk_177 rfl rfl rfl rfl rfl ?_
  refine kg_goto hk_177 rfl ?_
  have hF := Option.some.inj hF
  exact hK _ hF.symm
def l_177_45 (x1 : Int32) (h : Hp) : Option ((Int32 × Hp) ⊕ Hp) :=
  if x1 < (h 1076 48) then
    (w_gd (w_ix x1 4) <|
    if (h 1117 x1.toNatClampNeg) = 0 then
      (q_177_57 h x1)
    else
      ((p_176 h x1).bind fun vz20 =>
      q_177_57 vz20 x1))
  else
    (some (.inr h))
theorem l_177_45_st {X : List Int32} {o : kO}  {h : Hp} {x1 : Int32}  {r : (Int32 × Hp) ⊕ Hp} (hF : l_177_45 x1 h = some r) (hK : ∀ s' : Int32 × Hp, r = .inl s' → k_Go X 14 177 (45, [.ref (1076 + 1), .int (s'.1)], []) s'.2 o) (hX0 : ∀ e : Hp, r = .inr e → ∀ (u1 : Value), k_Go X 14 177 (64, [.ref (1076 + 1), u1], []) e o) : k_Go X 14 177 (45, [.ref (1076 + 1), .int x1], []) h o := by
  refine kg_iload hk_177 rfl rfl rfl ?_
  refine kg_aload hk_177 rfl rfl rfl ?_
  refine kg_get (v := .int (h 1076 48)) hk_177 rfl wk_1076_48 rfl rfl ?_
  refine wf_if hF (fun cz15 hF => ?_) (fun cz15 hF => ?_)
  · refine kg_icF hk_177 rfl (jc_F3 cz15) rfl ?_
    refine kg_aload hk_177 rfl rfl rfl ?_
    refine kg_get (v := .ref (1117 + 1)) hk_177 rfl wk_1076_54 rfl rfl ?_
    refine kg_iload hk_177 rfl rfl rfl ?_
    refine wf_gd hF (fun gz16 hF => ?_)
    refine kg_ald (y := (h 1117 x1.toNatClampNeg)) hk_177 rfl wc_1117 gz16 rfl rfl ?_
    refine wf_if hF (fun cz17 hF => ?_) (fun cz17 hF => ?_)
    · refine kg_ifT hk_177 rfl (jc_T0 cz17) ?_
      exact q_177_57_ok hF hK hX0
    · refine kg_ifF hk_177 rfl (jc_F0 cz17) rfl ?_
      refine kg_aload hk_177 rfl rfl rfl ?_
      refine kg_iload hk_177 rfl rfl rfl ?_
      refine wf_bind hF (fun vz20 hvz20 hF => ?_)
      refine kg_call (as := [.ref (1076 + 1), .int x1]) (rest := []) hk_177 rfl (Or.inr (Or.inr (Or.inr ⟨Or.inl rfl, _, _, rfl, wc_1076⟩))) rfl rfl rfl (Nat.not_lt.mpr (Nat.le_of_ble_eq_true rfl)) (p_176_ok hvz20) (by decide) rfl ?_
      exact q_177_57_ok hF hK hX0
  · refine kg_icT hk_177 rfl (jc_T3 cz15) ?_
    have hF := Option.some.inj hF
    exact hX0 _ hF.symm _
theorem l_177_45_ok {X : List Int32} {o : kO}    {n : Nat} {s : Int32 × Hp} {e : Hp} (hF : w_lp (fun (s : Int32 × Hp) => l_177_45 s.1 s.2) n s = some e) (hX0 : ∀ (u1 : Value), k_Go X 14 177 (64, [.ref (1076 + 1), u1], []) e o) : k_Go X 14 177 (45, [.ref (1076 + 1), .int s.1], []) s.2 o := by
  exact w_lp_ok (P := (fun (s : Int32 × Hp) => k_Go X 14 177 (45, [.ref (1076 + 1), .int s.1], []) s.2 o)) (Q := (fun (e : Hp) => (∀ (u1 : Value), k_Go X 14 177 (64, [.ref (1076 + 1), u1], []) e o))) (fun s r hF hK hX => l_177_45_st hF hK (fun x hx => (hX _ hx))) n s e hF hX0
def p_177 (h : Hp) : Option (Int32 × Hp) :=
  w_let (w_up h 1076 79 0) fun hz1 =>
  w_let (w_up hz1 1076 32 ((hz1 1076 32) + 1)) fun hz2 =>
  (w_lp (fun (s : Int32 × Hp) => l_177_11 s.1 s.2) w_N (0, hz2)).bind fun ez14 =>
  (w_lp (fun (s : Int32 × Hp) => l_177_45 s.1 s.2) w_N (0, ez14)).bind fun ez21 =>
  w_let (w_up ez21 1076 45 0) fun hz22 =>
  (p_192 hz22).bind fun vz23 =>
  some ((vz23 1076 32), vz23)
theorem p_177_ok {X : List Int32}  {h : Hp}   {r : Int32 × Hp} (hF : p_177 h = some r) : k_Ev X 14 177 [.ref (1076 + 1)] h (.inl (some (.int r.1)), r.2) := by
  refine k_of hk_177 ?_
  show k_Go X 14 177 (0, [.ref (1076 + 1), (.retAddr 0)], []) h _
  unfold p_177 at hF
  refine kg_aload hk_177 rfl rfl rfl ?_
  refine kg_push (x := 0) hk_177 rfl (by decide) rfl ?_
  refine wf_let hF (fun hz1 hhz1 hF => ?_)
  refine kg_put hk_177 rfl wk_1076_79 rfl rfl hhz1 rfl ?_
  refine kg_aload hk_177 rfl rfl rfl ?_
  refine kg_dup hk_177 rfl rfl rfl ?_
  refine kg_get (v := .int (hz1 1076 32)) hk_177 rfl wk_1076_32 rfl rfl ?_
  refine kg_push (x := 1) hk_177 rfl (by decide) rfl ?_
  refine kg_bin (z := ((hz1 1076 32) + 1)) hk_177 rfl rfl rfl ?_
  refine wf_let hF (fun hz2 hhz2 hF => ?_)
  refine kg_put hk_177 rfl wk_1076_32 rfl rfl hhz2 rfl ?_
  refine kg_push (x := 0) hk_177 rfl (by decide) rfl ?_
  refine kg_istore (L2 := [.ref (1076 + 1), .int 0]) hk_177 rfl (Nat.le_of_ble_eq_true rfl) rfl rfl ?_
  refine wf_bind hF (fun ez14 hez14 hF => ?_)
  refine l_177_11_ok hez14 ?_
  intro u1
  refine kg_push (x := 0) hk_177 rfl (by decide) rfl ?_
  refine kg_istore (L2 := [.ref (1076 + 1), .int 0]) hk_177 rfl (Nat.le_of_ble_eq_true rfl) rfl rfl ?_
  refine wf_bind hF (fun ez21 hez21 hF => ?_)
  refine l_177_45_ok hez21 ?_
  intro u1
  refine kg_aload hk_177 rfl rfl rfl ?_
  refine kg_push (x := 0) hk_177 rfl (by decide) rfl ?_
  refine wf_let hF (fun hz22 hhz22 hF => ?_)
  refine kg_put hk_177 rfl wk_1076_45 rfl (w_fitB rfl) hhz22 rfl ?_
  refine kg_aload hk_177 rfl rfl rfl ?_
  refine wf_bind hF (fun vz23 hvz23 hF => ?_)
  refine kg_call (as := [.ref (1076 + 1)]) (rest := []) hk_177 rfl (Or.inr (Or.inr (Or.inr ⟨Or.inl rfl, _, _, rfl, wc_1076⟩))) rfl rfl rfl (Nat.not_lt.mpr (Nat.le_of_ble_eq_true rfl)) (p_192_ok hvz23) (by decide) rfl ?_
  refine kg_aload hk_177 rfl rfl rfl ?_
  refine kg_get (v := .int (vz23 1076 32)) hk_177 rfl wk_1076_32 rfl rfl ?_
  have hF := Option.some.inj hF
  subst hF
  exact kg_iret hk_177 rfl (Or.inl rfl) rfl
-- NotebookWeirModel.shows(I)I
theorem hk_178 : jP[178]? = some (jc_178, 2, [], []) := by rfl
def p_178 (h : Hp) (x1 : Int32) : Option (Int32 × Hp) :=
  (p_146 h (v_172 h x1) 1 1).bind fun vz1 =>
  w_gd ((if vz1.1 = 0 then true else w_ix x1 4)) <|
  some ((if vz1.1 = 0 then 0 else (vz1.2 1115 x1.toNatClampNeg) : Int32), vz1.2)
theorem p_178_ok {X : List Int32}  {h : Hp} {x1 : Int32}  {r : Int32 × Hp} (hF : p_178 h x1 = some r) : k_Ev X 2 178 [.ref (1076 + 1), .int x1] h (.inl (some (.int r.1)), r.2) := by
  refine k_of hk_178 ?_
  show k_Go X 2 178 (0, [.ref (1076 + 1), .int x1], []) h _
  unfold p_178 at hF
  refine kg_aload hk_178 rfl rfl rfl ?_
  refine kg_aload hk_178 rfl rfl rfl ?_
  refine kg_iload hk_178 rfl rfl rfl ?_
  refine kg_call (as := [.ref (1076 + 1), .int x1]) (rest := [.ref (1076 + 1)]) hk_178 rfl (Or.inr (Or.inr (Or.inr ⟨Or.inl rfl, _, _, rfl, wc_1076⟩))) rfl rfl rfl (Nat.not_lt.mpr (Nat.le_of_ble_eq_true rfl)) (v_172_ok) (by decide) rfl ?_
  refine kg_push (x := 1) hk_178 rfl (by decide) rfl ?_
  refine kg_push (x := 1) hk_178 rfl (by decide) rfl ?_
  refine wf_bind hF (fun vz1 hvz1 hF => ?_)
  refine kg_call (as := [.ref (1076 + 1), .int (v_172 h x1), .int 1, .int 1]) (rest := []) hk_178 rfl (Or.inr (Or.inr (Or.inr ⟨Or.inl rfl, _, _, rfl, wc_1076⟩))) rfl rfl rfl (Nat.not_lt.mpr (Nat.le_of_ble_eq_true rfl)) (p_146_ok hvz1) (by decide) rfl ?_
  refine wf_gd hF (fun gz4 hF => ?_)
  refine kv_mid (p := 14) (L := [.ref (1076 + 1), .int x1]) (S := [.int (if vz1.1 = 0 then 0 else (vz1.2 1115 x1.toNatClampNeg) : Int32)]) ?_ (fun hK => ?_)
  · have hF := Option.some.inj hF
    subst hF
    exact kg_iret hk_178 rfl (Or.inl rfl) rfl
  · have hg := gz4
    by_cases cz2 : vz1.1 = 0
    · have hK := kv_T cz2 hK
      refine kg_ifT hk_178 rfl (jc_T0 cz2) ?_
      refine kg_push (x := 0) hk_178 rfl (by decide) rfl ?_
      exact hK
    · have hg := wv_F cz2 hg
      have hK := kv_F cz2 hK
      have gz3 := hg
      refine kg_ifF hk_178 rfl (jc_F0 cz2) rfl ?_
      refine kg_aload hk_178 rfl rfl rfl ?_
      refine kg_get (v := .ref (1115 + 1)) hk_178 rfl wk_1076_52 rfl rfl ?_
      refine kg_iload hk_178 rfl rfl rfl ?_
      refine kg_ald (y := (vz1.2 1115 x1.toNatClampNeg)) hk_178 rfl wc_1115 gz3 rfl rfl ?_
      refine kg_goto hk_178 rfl ?_
      exact hK
-- NotebookWeirModel.runsWith(I)I
theorem hk_225 : jP[225]? = some (jc_225, 2, [], []) := by rfl
def p_225 (h : Hp) (x1 : Int32) : Option (Int32 × Hp) :=
  (p_188 h).bind fun vz1 =>
  w_gd (w_ix x1 16) <|
  (p_191 vz1 ((vz1 1121 x1.toNatClampNeg) &&& ((1 <<< (x1 &&& 31)) ^^^ (-1)))).bind fun vz3 =>
  w_gd (w_ix x1 16) <|
  (p_189 vz3 (vz3 1120 x1.toNatClampNeg)).bind fun vz5 =>
  if vz5 = 0 then
    (some ((-1), vz3))
  else
    ((p_224 vz3 x1).bind fun vz7 =>
    some (vz7.1, vz7.2))
theorem p_225_ok {X : List Int32}  {h : Hp} {x1 : Int32}  {r : Int32 × Hp} (hF : p_225 h x1 = some r) : k_Ev X 13 225 [.ref (1076 + 1), .int x1] h (.inl (some (.int r.1)), r.2) := by
  refine k_of hk_225 ?_
  show k_Go X 13 225 (0, [.ref (1076 + 1), .int x1], []) h _
  unfold p_225 at hF
  refine kg_aload hk_225 rfl rfl rfl ?_
  refine wf_bind hF (fun vz1 hvz1 hF => ?_)
  refine kg_call (as := [.ref (1076 + 1)]) (rest := []) hk_225 rfl (Or.inr (Or.inr (Or.inr ⟨Or.inl rfl, _, _, rfl, wc_1076⟩))) rfl rfl rfl (Nat.not_lt.mpr (Nat.le_of_ble_eq_true rfl)) (p_188_ok hvz1) (by decide) rfl ?_
  refine kg_aload hk_225 rfl rfl rfl ?_
  refine kg_aload hk_225 rfl rfl rfl ?_
  refine kg_get (v := .ref (1121 + 1)) hk_225 rfl wk_1076_58 rfl rfl ?_
  refine kg_iload hk_225 rfl rfl rfl ?_
  refine wf_gd hF (fun gz2 hF => ?_)
  refine kg_ald (y := (vz1 1121 x1.toNatClampNeg)) hk_225 rfl wc_1121 gz2 rfl rfl ?_
  refine kg_push (x := 1) hk_225 rfl (by decide) rfl ?_
  refine kg_iload hk_225 rfl rfl rfl ?_
  refine kg_bin (z := (1 <<< (x1 &&& 31))) hk_225 rfl rfl rfl ?_
  refine kg_push (x := (-1)) hk_225 rfl (by decide) rfl ?_
  refine kg_bin (z := ((1 <<< (x1 &&& 31)) ^^^ (-1))) hk_225 rfl rfl rfl ?_
  refine kg_bin (z := ((vz1 1121 x1.toNatClampNeg) &&& ((1 <<< (x1 &&& 31)) ^^^ (-1)))) hk_225 rfl rfl rfl ?_
  refine wf_bind hF (fun vz3 hvz3 hF => ?_)
  refine kg_call (as := [.ref (1076 + 1), .int ((vz1 1121 x1.toNatClampNeg) &&& ((1 <<< (x1 &&& 31)) ^^^ (-1)))]) (rest := []) hk_225 rfl (Or.inr (Or.inr (Or.inr ⟨Or.inl rfl, _, _, rfl, wc_1076⟩))) rfl rfl rfl (Nat.not_lt.mpr (Nat.le_of_ble_eq_true rfl)) (p_191_ok hvz3) (by decide) rfl ?_
  refine kg_aload hk_225 rfl rfl rfl ?_
  refine kg_aload hk_225 rfl rfl rfl ?_
  refine kg_get (v := .ref (1120 + 1)) hk_225 rfl wk_1076_57 rfl rfl ?_
  refine kg_iload hk_225 rfl rfl rfl ?_
  refine wf_gd hF (fun gz4 hF => ?_)
  refine kg_ald (y := (vz3 1120 x1.toNatClampNeg)) hk_225 rfl wc_1120 gz4 rfl rfl ?_
  refine wf_bind hF (fun vz5 hvz5 hF => ?_)
  refine kg_call (as := [.ref (1076 + 1), .int (vz3 1120 x1.toNatClampNeg)]) (rest := []) hk_225 rfl (Or.inr (Or.inr (Or.inr ⟨Or.inl rfl, _, _, rfl, wc_1076⟩))) rfl rfl rfl (Nat.not_lt.mpr (Nat.le_of_ble_eq_true rfl)) (p_189_ok hvz5) (by decide) rfl ?_
  refine wf_if hF (fun cz6 hF => ?_) (fun cz6 hF => ?_)
  · refine kg_ifT hk_225 rfl (jc_T0 cz6) ?_
    refine kg_push (x := (-1)) hk_225 rfl (by decide) rfl ?_
    have hF := Option.some.inj hF
    subst hF
    exact kg_iret hk_225 rfl (Or.inl rfl) rfl
  · refine kg_ifF hk_225 rfl (jc_F0 cz6) rfl ?_
    refine kg_aload hk_225 rfl rfl rfl ?_
    refine kg_iload hk_225 rfl rfl rfl ?_
    refine wf_bind hF (fun vz7 hvz7 hF => ?_)
    refine kg_call (as := [.ref (1076 + 1), .int x1]) (rest := []) hk_225 rfl (Or.inr (Or.inr (Or.inr ⟨Or.inl rfl, _, _, rfl, wc_1076⟩))) rfl rfl rfl (Nat.not_lt.mpr (Nat.le_of_ble_eq_true rfl)) (p_224_ok hvz7) (by decide) rfl ?_
    refine kg_goto hk_225 rfl ?_
    have hF := Option.some.inj hF
    subst hF
    exact kg_iret hk_225 rfl (Or.inl rfl) rfl
-- NotebookWeirModel.run(I)I
theorem hk_226 : jP[226]? = some (jc_226, 3, [], []) := by rfl
def q_226_19 (h : Hp) (x1 : Int32) (s0 : Int32) (s1 : Int32) : Option (Int32 × Hp) :=
  (p_146 h s1 s0 1).bind fun vz6 =>
  if vz6.1 = 0 then
    (some (0, vz6.2))
  else
    ((p_225 vz6.2 x1).bind fun vz8 =>
    some (vz8.1, vz8.2))
theorem q_226_19_ok {X : List Int32}   {h : Hp} {s0 : Int32} {s1 : Int32} {x1 : Int32}  {r : Int32 × Hp} (hF : q_226_19 h x1 s0 s1 = some r)  : ∀ (u2 : Value), k_Go X 14 226 (19, [.ref (1076 + 1), .int x1, u2], [.int s0, .int s1, .ref (1076 + 1)]) h (.inl (some (.int r.1)), r.2) := by
  intro u2
  unfold q_226_19 at hF
  refine kg_push (x := 1) hk_226 rfl (by decide) rfl ?_
  refine wf_bind hF (fun vz6 hvz6 hF => ?_)
  refine kg_call (as := [.ref (1076 + 1), .int s1, .int s0, .int 1]) (rest := []) hk_226 rfl (Or.inr (Or.inr (Or.inr ⟨Or.inl rfl, _, _, rfl, wc_1076⟩))) rfl rfl rfl (Nat.not_lt.mpr (Nat.le_of_ble_eq_true rfl)) (p_146_ok hvz6) (by decide) rfl ?_
  refine wf_if hF (fun cz7 hF => ?_) (fun cz7 hF => ?_)
  · refine kg_ifT hk_226 rfl (jc_T0 cz7) ?_
    refine kg_push (x := 0) hk_226 rfl (by decide) rfl ?_
    have hF := Option.some.inj hF
    subst hF
    exact kg_iret hk_226 rfl (Or.inl rfl) rfl
  · refine kg_ifF hk_226 rfl (jc_F0 cz7) rfl ?_
    refine kg_aload hk_226 rfl rfl rfl ?_
    refine kg_iload hk_226 rfl rfl rfl ?_
    refine wf_bind hF (fun vz8 hvz8 hF => ?_)
    refine kg_call (as := [.ref (1076 + 1), .int x1]) (rest := []) hk_226 rfl (Or.inr (Or.inr (Or.inr ⟨Or.inl rfl, _, _, rfl, wc_1076⟩))) rfl rfl rfl (Nat.not_lt.mpr (Nat.le_of_ble_eq_true rfl)) (p_225_ok hvz8) (by decide) rfl ?_
    refine kg_goto hk_226 rfl ?_
    have hF := Option.some.inj hF
    subst hF
    exact kg_iret hk_226 rfl (Or.inl rfl) rfl
def p_226 (h : Hp) (x1 : Int32) : Option (Int32 × Hp) :=
  (p_188 h).bind fun vz1 =>
  w_gd ((if (v_167 h x1) = 0 then true else w_ix x1 16)) <|
  q_226_19 vz1 x1 (if (v_167 h x1) = 0 then 0 else (if (vz1 1122 x1.toNatClampNeg) < 3 then 1 else 0 : Int32) : Int32) (v_167 h x1)
theorem p_226_ok {X : List Int32}  {h : Hp} {x1 : Int32}  {r : Int32 × Hp} (hF : p_226 h x1 = some r) : k_Ev X 14 226 [.ref (1076 + 1), .int x1] h (.inl (some (.int r.1)), r.2) := by
  refine k_of hk_226 ?_
  show k_Go X 14 226 (0, [.ref (1076 + 1), .int x1, (.retAddr 0)], []) h _
  unfold p_226 at hF
  refine kg_aload hk_226 rfl rfl rfl ?_
  refine kg_iload hk_226 rfl rfl rfl ?_
  refine kg_call (as := [.ref (1076 + 1), .int x1]) (rest := []) hk_226 rfl (Or.inr (Or.inr (Or.inr ⟨Or.inl rfl, _, _, rfl, wc_1076⟩))) rfl rfl rfl (Nat.not_lt.mpr (Nat.le_of_ble_eq_true rfl)) (v_167_ok) (by decide) rfl ?_
  refine kg_istore (L2 := [.ref (1076 + 1), .int x1, .int (v_167 h x1)]) hk_226 rfl (Nat.le_of_ble_eq_true rfl) rfl rfl ?_
  refine kg_aload hk_226 rfl rfl rfl ?_
  refine wf_bind hF (fun vz1 hvz1 hF => ?_)
  refine kg_call (as := [.ref (1076 + 1)]) (rest := []) hk_226 rfl (Or.inr (Or.inr (Or.inr ⟨Or.inl rfl, _, _, rfl, wc_1076⟩))) rfl rfl rfl (Nat.not_lt.mpr (Nat.le_of_ble_eq_true rfl)) (p_188_ok hvz1) (by decide) rfl ?_
  refine kg_aload hk_226 rfl rfl rfl ?_
  refine kg_iload hk_226 rfl rfl rfl ?_
  refine kg_iload hk_226 rfl rfl rfl ?_
  refine wf_gd hF (fun gz5 hF => ?_)
  refine kv_mid (p := 19) (L := [.ref (1076 + 1), .int x1, .int (v_167 h x1)]) (S := [.int (if (v_167 h x1) = 0 then 0 else (if (vz1 1122 x1.toNatClampNeg) < 3 then 1 else 0 : Int32) : Int32), .int (v_167 h x1), .ref (1076 + 1)]) ?_ (fun hK => ?_)
  · exact q_226_19_ok hF _
  · have hg := gz5
    by_cases cz2 : (v_167 h x1) = 0
    · have hK := kv_T cz2 hK
      refine kg_ifT hk_226 rfl (jc_T0 cz2) ?_
      refine kg_push (x := 0) hk_226 rfl (by decide) rfl ?_
      exact hK
    · have hg := wv_F cz2 hg
      have hK := kv_F cz2 hK
      have gz3 := hg
      refine kg_ifF hk_226 rfl (jc_F0 cz2) rfl ?_
      refine kg_aload hk_226 rfl rfl rfl ?_
      refine kg_get (v := .ref (1122 + 1)) hk_226 rfl wk_1076_59 rfl rfl ?_
      refine kg_iload hk_226 rfl rfl rfl ?_
      refine kg_ald (y := (vz1 1122 x1.toNatClampNeg)) hk_226 rfl wc_1122 gz3 rfl rfl ?_
      refine kg_push (x := 3) hk_226 rfl (by decide) rfl ?_
      by_cases cz4 : (vz1 1122 x1.toNatClampNeg) < 3
      · have hK := kv_T cz4 hK
        refine kg_icF hk_226 rfl (jc_F3 cz4) rfl ?_
        refine kg_push (x := 1) hk_226 rfl (by decide) rfl ?_
        refine kg_goto hk_226 rfl ?_
        exact hK
      · have hK := kv_F cz4 hK
        refine kg_icT hk_226 rfl (jc_T3 cz4) ?_
        refine kg_push (x := 0) hk_226 rfl (by decide) rfl ?_
        exact hK
-- NotebookWeirModel.checkpoint()I
theorem hk_227 : jP[227]? = some (jc_227, 5, [], []) := by rfl
def l_227_34 (h : Hp) (x2 : Int32) (x3 : Int32) (x4 : Int32) : Option ((Int32 × Int32) ⊕ Int32) :=
  if x4 < 26 then
    (if x3 = 0 then
      (some (.inr x3))
    else
      (w_gd (w_ix ((234 * x2) + (9 * x4)) 3744) <|
      some (.inl ((if (h 1093 ((234 * x2) + (9 * x4)).toNatClampNeg) < 0 then 1 else 0 : Int32), (x4 + 1)))))
  else
    (some (.inr x3))
theorem l_227_34_st {X : List Int32} {o : kO}  {h : Hp} {x1 : Int32} {x2 : Int32} {x3 : Int32} {x4 : Int32}  {r : (Int32 × Int32) ⊕ Int32} (hF : l_227_34 h x2 x3 x4 = some r) (hK : ∀ s' : Int32 × Int32, r = .inl s' → k_Go X 7 227 (34, [.ref (1076 + 1), .int x1, .int x2, .int (s'.1), .int (s'.2)], []) h o) (hX0 : ∀ e : Int32, r = .inr e → ∀ (u4 : Value), k_Go X 7 227 (56, [.ref (1076 + 1), .int x1, .int x2, .int e, u4], []) h o) : k_Go X 7 227 (34, [.ref (1076 + 1), .int x1, .int x2, .int x3, .int x4], []) h o := by
  refine kg_iload hk_227 rfl rfl rfl ?_
  refine kg_push (x := 26) hk_227 rfl (by decide) rfl ?_
  refine wf_if hF (fun cz10 hF => ?_) (fun cz10 hF => ?_)
  · refine kg_icF hk_227 rfl (jc_F3 cz10) rfl ?_
    refine kg_iload hk_227 rfl rfl rfl ?_
    refine wf_if hF (fun cz11 hF => ?_) (fun cz11 hF => ?_)
    · refine kg_ifT hk_227 rfl (jc_T0 cz11) ?_
      have hF := Option.some.inj hF
      exact hX0 _ hF.symm _
    · refine kg_ifF hk_227 rfl (jc_F0 cz11) rfl ?_
      refine kg_aload hk_227 rfl rfl rfl ?_
      refine kg_get (v := .ref (1093 + 1)) hk_227 rfl wk_1076_17 rfl rfl ?_
      refine kg_push (x := 234) hk_227 rfl (by decide) rfl ?_
      refine kg_iload hk_227 rfl rfl rfl ?_
      refine kg_bin (z := (234 * x2)) hk_227 rfl rfl rfl ?_
      refine kg_push (x := 9) hk_227 rfl (by decide) rfl ?_
      refine kg_iload hk_227 rfl rfl rfl ?_
      refine kg_bin (z := (9 * x4)) hk_227 rfl rfl rfl ?_
      refine kg_bin (z := ((234 * x2) + (9 * x4))) hk_227 rfl rfl rfl ?_
      refine wf_gd hF (fun gz12 hF => ?_)
      refine kg_ald (y := (h 1093 ((234 * x2) + (9 * x4)).toNatClampNeg)) hk_227 rfl wc_1093 gz12 rfl rfl ?_
      refine kv_mid (p := 53) (L := [.ref (1076 + 1), .int x1, .int x2, .int x3, .int x4]) (S := [.int (if (h 1093 ((234 * x2) + (9 * x4)).toNatClampNeg) < 0 then 1 else 0 : Int32)]) ?_ (fun hK => ?_)
      · refine kg_istore (L2 := [.ref (1076 + 1), .int x1, .int x2, .int (if (h 1093 ((234 * x2) + (9 * x4)).toNatClampNeg) < 0 then 1 else 0 : Int32), .int x4]) hk_227 rfl (Nat.le_of_ble_eq_true rfl) rfl rfl ?_
        refine kg_iinc (y := (x4 + 1)) (L2 := [.ref (1076 + 1), .int x1, .int x2, .int (if (h 1093 ((234 * x2) + (9 * x4)).toNatClampNeg) < 0 then 1 else 0 : Int32), .int (x4 + 1)]) hk_227 rfl rfl rfl rfl rfl ?_
        refine kg_goto hk_227 rfl ?_
        have hF := Option.some.inj hF
        exact hK _ hF.symm
      · by_cases cz13 : (h 1093 ((234 * x2) + (9 * x4)).toNatClampNeg) < 0
        · have hK := kv_T cz13 hK
          refine kg_ifF hk_227 rfl (jc_F3 cz13) rfl ?_
          refine kg_push (x := 1) hk_227 rfl (by decide) rfl ?_
          refine kg_goto hk_227 rfl ?_
          exact hK
        · have hK := kv_F cz13 hK
          refine kg_ifT hk_227 rfl (jc_T3 cz13) ?_
          refine kg_push (x := 0) hk_227 rfl (by decide) rfl ?_
          exact hK
  · refine kg_icT hk_227 rfl (jc_T3 cz10) ?_
    have hF := Option.some.inj hF
    exact hX0 _ hF.symm _
theorem l_227_34_ok {X : List Int32} {o : kO}  {h : Hp} {x1 : Int32} {x2 : Int32}  {n : Nat} {s : Int32 × Int32} {e : Int32} (hF : w_lp (fun (s : Int32 × Int32) => l_227_34 h x2 s.1 s.2) n s = some e) (hX0 : ∀ (u4 : Value), k_Go X 7 227 (56, [.ref (1076 + 1), .int x1, .int x2, .int e, u4], []) h o) : k_Go X 7 227 (34, [.ref (1076 + 1), .int x1, .int x2, .int s.1, .int s.2], []) h o := by
  exact w_lp_ok (P := (fun (s : Int32 × Int32) => k_Go X 7 227 (34, [.ref (1076 + 1), .int x1, .int x2, .int s.1, .int s.2], []) h o)) (Q := (fun (e : Int32) => (∀ (u4 : Value), k_Go X 7 227 (56, [.ref (1076 + 1), .int x1, .int x2, .int e, u4], []) h o))) (fun s r hF hK hX => l_227_34_st hF hK (fun x hx => (hX _ hx))) n s e hF hX0
def l_227_58 (h : Hp) (x2 : Int32) (x3 : Int32) (x4 : Int32) : Option ((Int32 × Int32) ⊕ Int32) :=
  if x3 = 0 then
    (some (.inr x3))
  else
    (w_gd (w_ix x2 16) <|
    if x4 < (h 1080 x2.toNatClampNeg) then
      (w_gd (w_ix ((40 * x2) + x4) 640) <|
      w_gd ((if (h 1079 ((40 * x2) + x4).toNatClampNeg) = 63 then true else w_ix ((40 * x2) + x4) 640)) <|
      some (.inl ((if (h 1079 ((40 * x2) + x4).toNatClampNeg) = 63 then 0 else (if (h 1079 ((40 * x2) + x4).toNatClampNeg) = 64 then 0 else 1 : Int32) : Int32), (x4 + 1))))
    else
      (some (.inr x3)))
theorem l_227_58_st {X : List Int32} {o : kO}  {h : Hp} {x1 : Int32} {x2 : Int32} {x3 : Int32} {x4 : Int32}  {r : (Int32 × Int32) ⊕ Int32} (hF : l_227_58 h x2 x3 x4 = some r) (hK : ∀ s' : Int32 × Int32, r = .inl s' → k_Go X 7 227 (58, [.ref (1076 + 1), .int x1, .int x2, .int (s'.1), .int (s'.2)], []) h o) (hX0 : ∀ e : Int32, r = .inr e → ∀ (u4 : Value), k_Go X 7 227 (92, [.ref (1076 + 1), .int x1, .int x2, .int e, u4], []) h o) : k_Go X 7 227 (58, [.ref (1076 + 1), .int x1, .int x2, .int x3, .int x4], []) h o := by
  refine kg_iload hk_227 rfl rfl rfl ?_
  refine wf_if hF (fun cz15 hF => ?_) (fun cz15 hF => ?_)
  · refine kg_ifT hk_227 rfl (jc_T0 cz15) ?_
    have hF := Option.some.inj hF
    exact hX0 _ hF.symm _
  · refine kg_ifF hk_227 rfl (jc_F0 cz15) rfl ?_
    refine kg_iload hk_227 rfl rfl rfl ?_
    refine kg_aload hk_227 rfl rfl rfl ?_
    refine kg_get (v := .ref (1080 + 1)) hk_227 rfl wk_1076_4 rfl rfl ?_
    refine kg_iload hk_227 rfl rfl rfl ?_
    refine wf_gd hF (fun gz16 hF => ?_)
    refine kg_ald (y := (h 1080 x2.toNatClampNeg)) hk_227 rfl wc_1080 gz16 rfl rfl ?_
    refine wf_if hF (fun cz17 hF => ?_) (fun cz17 hF => ?_)
    · refine kg_icF hk_227 rfl (jc_F3 cz17) rfl ?_
      refine kg_aload hk_227 rfl rfl rfl ?_
      refine kg_get (v := .ref (1079 + 1)) hk_227 rfl wk_1076_3 rfl rfl ?_
      refine kg_push (x := 40) hk_227 rfl (by decide) rfl ?_
      refine kg_iload hk_227 rfl rfl rfl ?_
      refine kg_bin (z := (40 * x2)) hk_227 rfl rfl rfl ?_
      refine kg_iload hk_227 rfl rfl rfl ?_
      refine kg_bin (z := ((40 * x2) + x4)) hk_227 rfl rfl rfl ?_
      refine wf_gd hF (fun gz18 hF => ?_)
      refine kg_ald (y := (h 1079 ((40 * x2) + x4).toNatClampNeg)) hk_227 rfl wc_1079 gz18 rfl rfl ?_
      refine kg_push (x := 63) hk_227 rfl (by decide) rfl ?_
      refine wf_gd hF (fun gz22 hF => ?_)
      refine kv_mid (p := 89) (L := [.ref (1076 + 1), .int x1, .int x2, .int x3, .int x4]) (S := [.int (if (h 1079 ((40 * x2) + x4).toNatClampNeg) = 63 then 0 else (if (h 1079 ((40 * x2) + x4).toNatClampNeg) = 64 then 0 else 1 : Int32) : Int32)]) ?_ (fun hK => ?_)
      · refine kg_istore (L2 := [.ref (1076 + 1), .int x1, .int x2, .int (if (h 1079 ((40 * x2) + x4).toNatClampNeg) = 63 then 0 else (if (h 1079 ((40 * x2) + x4).toNatClampNeg) = 64 then 0 else 1 : Int32) : Int32), .int x4]) hk_227 rfl (Nat.le_of_ble_eq_true rfl) rfl rfl ?_
        refine kg_iinc (y := (x4 + 1)) (L2 := [.ref (1076 + 1), .int x1, .int x2, .int (if (h 1079 ((40 * x2) + x4).toNatClampNeg) = 63 then 0 else (if (h 1079 ((40 * x2) + x4).toNatClampNeg) = 64 then 0 else 1 : Int32) : Int32), .int (x4 + 1)]) hk_227 rfl rfl rfl rfl rfl ?_
        refine kg_goto hk_227 rfl ?_
        have hF := Option.some.inj hF
        exact hK _ hF.symm
      · have hg := gz22
        by_cases cz19 : (h 1079 ((40 * x2) + x4).toNatClampNeg) = 63
        · have hK := kv_T cz19 hK
          refine kg_icT hk_227 rfl (jc_T0 cz19) ?_
          refine kg_push (x := 0) hk_227 rfl (by decide) rfl ?_
          exact hK
        · have hg := wv_F cz19 hg
          have hK := kv_F cz19 hK
          have gz20 := hg
          refine kg_icF hk_227 rfl (jc_F0 cz19) rfl ?_
          refine kg_aload hk_227 rfl rfl rfl ?_
          refine kg_get (v := .ref (1079 + 1)) hk_227 rfl wk_1076_3 rfl rfl ?_
          refine kg_push (x := 40) hk_227 rfl (by decide) rfl ?_
          refine kg_iload hk_227 rfl rfl rfl ?_
          refine kg_bin (z := (40 * x2)) hk_227 rfl rfl rfl ?_
          refine kg_iload hk_227 rfl rfl rfl ?_
          refine kg_bin (z := ((40 * x2) + x4)) hk_227 rfl rfl rfl ?_
          refine kg_ald (y := (h 1079 ((40 * x2) + x4).toNatClampNeg)) hk_227 rfl wc_1079 gz20 rfl rfl ?_
          refine kg_push (x := 64) hk_227 rfl (by decide) rfl ?_
          by_cases cz21 : (h 1079 ((40 * x2) + x4).toNatClampNeg) = 64
          · have hK := kv_T cz21 hK
            refine kg_icT hk_227 rfl (jc_T0 cz21) ?_
            refine kg_push (x := 0) hk_227 rfl (by decide) rfl ?_
            exact hK
          · have hK := kv_F cz21 hK
            refine kg_icF hk_227 rfl (jc_F0 cz21) rfl ?_
            refine kg_push (x := 1) hk_227 rfl (by decide) rfl ?_
            refine kg_goto hk_227 rfl ?_
            exact hK
    · refine kg_icT hk_227 rfl (jc_T3 cz17) ?_
      have hF := Option.some.inj hF
      exact hX0 _ hF.symm _
theorem l_227_58_ok {X : List Int32} {o : kO}  {h : Hp} {x1 : Int32} {x2 : Int32}  {n : Nat} {s : Int32 × Int32} {e : Int32} (hF : w_lp (fun (s : Int32 × Int32) => l_227_58 h x2 s.1 s.2) n s = some e) (hX0 : ∀ (u4 : Value), k_Go X 7 227 (92, [.ref (1076 + 1), .int x1, .int x2, .int e, u4], []) h o) : k_Go X 7 227 (58, [.ref (1076 + 1), .int x1, .int x2, .int s.1, .int s.2], []) h o := by
  exact w_lp_ok (P := (fun (s : Int32 × Int32) => k_Go X 7 227 (58, [.ref (1076 + 1), .int x1, .int x2, .int s.1, .int s.2], []) h o)) (Q := (fun (e : Int32) => (∀ (u4 : Value), k_Go X 7 227 (92, [.ref (1076 + 1), .int x1, .int x2, .int e, u4], []) h o))) (fun s r hF hK hX => l_227_58_st hF hK (fun x hx => (hX _ hx))) n s e hF hX0
def l_227_126 (x2 : Int32) (x4 : Int32) (h : Hp) : Option ((Int32 × Hp) ⊕ Hp) :=
  if x4 < 234 then
    (w_gd (w_ix ((234 * x2) + x4) 3744) <|
    w_gd (w_ix ((234 * x2) + x4) 3744) <|
    w_let (w_up h 1110 (((234 * x2) + x4).toNatClampNeg) (h 1093 ((234 * x2) + x4).toNatClampNeg)) fun hz35 =>
    some (.inl ((x4 + 1), hz35)))
  else
    (some (.inr h))
theorem l_227_126_st {X : List Int32} {o : kO}  {h : Hp} {x1 : Int32} {x2 : Int32} {x4 : Int32}  {r : (Int32 × Hp) ⊕ Hp} (hF : l_227_126 x2 x4 h = some r) (hK : ∀ s' : Int32 × Hp, r = .inl s' → ∀ (u3 : Value), k_Go X 7 227 (126, [.ref (1076 + 1), .int x1, .int x2, u3, .int (s'.1)], []) s'.2 o) (hX0 : ∀ e : Hp, r = .inr e → ∀ (u3 : Value) (u4 : Value), k_Go X 7 227 (147, [.ref (1076 + 1), .int x1, .int x2, u3, u4], []) e o) : ∀ (u3 : Value), k_Go X 7 227 (126, [.ref (1076 + 1), .int x1, .int x2, u3, .int x4], []) h o := by
  intro u3
  refine kg_iload hk_227 rfl rfl rfl ?_
  refine kg_push (x := 234) hk_227 rfl (by decide) rfl ?_
  refine wf_if hF (fun cz32 hF => ?_) (fun cz32 hF => ?_)
  · refine kg_icF hk_227 rfl (jc_F3 cz32) rfl ?_
    refine kg_aload hk_227 rfl rfl rfl ?_
    refine kg_get (v := .ref (1110 + 1)) hk_227 rfl wk_1076_43 rfl rfl ?_
    refine kg_push (x := 234) hk_227 rfl (by decide) rfl ?_
    refine kg_iload hk_227 rfl rfl rfl ?_
    refine kg_bin (z := (234 * x2)) hk_227 rfl rfl rfl ?_
    refine kg_iload hk_227 rfl rfl rfl ?_
    refine kg_bin (z := ((234 * x2) + x4)) hk_227 rfl rfl rfl ?_
    refine kg_aload hk_227 rfl rfl rfl ?_
    refine kg_get (v := .ref (1093 + 1)) hk_227 rfl wk_1076_17 rfl rfl ?_
    refine kg_push (x := 234) hk_227 rfl (by decide) rfl ?_
    refine kg_iload hk_227 rfl rfl rfl ?_
    refine kg_bin (z := (234 * x2)) hk_227 rfl rfl rfl ?_
    refine kg_iload hk_227 rfl rfl rfl ?_
    refine kg_bin (z := ((234 * x2) + x4)) hk_227 rfl rfl rfl ?_
    refine wf_gd hF (fun gz33 hF => ?_)
    refine kg_ald (y := (h 1093 ((234 * x2) + x4).toNatClampNeg)) hk_227 rfl wc_1093 gz33 rfl rfl ?_
    refine wf_gd hF (fun gz34 hF => ?_)
    refine wf_let hF (fun hz35 hhz35 hF => ?_)
    refine kg_ast hk_227 rfl wc_1110 gz34 hhz35 rfl ?_
    refine kg_iinc (y := (x4 + 1)) (L2 := [.ref (1076 + 1), .int x1, .int x2, u3, .int (x4 + 1)]) hk_227 rfl rfl rfl rfl rfl ?_
    refine kg_goto hk_227 rfl ?_
    have hF := Option.some.inj hF
    exact hK _ hF.symm _
  · refine kg_icT hk_227 rfl (jc_T3 cz32) ?_
    have hF := Option.some.inj hF
    exact hX0 _ hF.symm _ _
theorem l_227_126_ok {X : List Int32} {o : kO}  {x1 : Int32} {x2 : Int32}  {n : Nat} {s : Int32 × Hp} {e : Hp} (hF : w_lp (fun (s : Int32 × Hp) => l_227_126 x2 s.1 s.2) n s = some e) (hX0 : ∀ (u3 : Value) (u4 : Value), k_Go X 7 227 (147, [.ref (1076 + 1), .int x1, .int x2, u3, u4], []) e o) : ∀ (u3 : Value), k_Go X 7 227 (126, [.ref (1076 + 1), .int x1, .int x2, u3, .int s.1], []) s.2 o := by
  exact w_lp_ok (P := (fun (s : Int32 × Hp) => ∀ (u3 : Value), k_Go X 7 227 (126, [.ref (1076 + 1), .int x1, .int x2, u3, .int s.1], []) s.2 o)) (Q := (fun (e : Hp) => (∀ (u3 : Value) (u4 : Value), k_Go X 7 227 (147, [.ref (1076 + 1), .int x1, .int x2, u3, u4], []) e o))) (fun s r hF hK hX => l_227_126_st hF hK (fun x hx => (hX _ hx))) n s e hF hX0
def q_227_92 (h : Hp) (x1 : Int32) (x2 : Int32) (x3 : Int32) : Option ((Int32 × Int32 × Hp) ⊕ Int32 × Hp) :=
  w_gd (w_ix x2 16) <|
  w_let (w_up h 1106 x2.toNatClampNeg (j_nar 52 x3)) fun hz25 =>
  if x3 = 0 then
    (some (.inl (x1, (x2 + 1), hz25)))
  else
    ((p_215 hz25 x2 1107 (40 * x2)).bind fun vz27 =>
    w_gd (w_ix x2 16) <|
    w_gd (w_ix x2 16) <|
    w_let (w_up vz27 1108 x2.toNatClampNeg (vz27 1080 x2.toNatClampNeg)) fun hz30 =>
    (p_219 hz30 x2 1109 (234 * x2)).bind fun vz31 =>
    (w_lp (fun (s : Int32 × Hp) => l_227_126 x2 s.1 s.2) w_N (0, vz31)).bind fun ez36 =>
    (p_193 ez36 1094 (9 * x2) 1111 (9 * x2)).bind fun vz37 =>
    some (.inl ((x1 + 1), (x2 + 1), vz37)))
theorem q_227_92_ok {X : List Int32} {o : kO}  {h : Hp} {x1 : Int32} {x2 : Int32} {x3 : Int32}  {r : (Int32 × Int32 × Hp) ⊕ Int32 × Hp} (hF : q_227_92 h x1 x2 x3 = some r) (hK : ∀ s' : Int32 × Int32 × Hp, r = .inl s' → ∀ (u3 : Value) (u4 : Value), k_Go X 7 227 (9, [.ref (1076 + 1), .int (s'.1), .int (s'.2.1), u3, u4], []) s'.2.2 o) (hX0 : ∀ e : Int32 × Hp, r = .inr e → (.inl (some (.int e.1)), e.2) = o) : ∀ (u4 : Value), k_Go X 7 227 (92, [.ref (1076 + 1), .int x1, .int x2, .int x3, u4], []) h o := by
  intro u4
  unfold q_227_92 at hF
  refine kg_aload hk_227 rfl rfl rfl ?_
  refine kg_get (v := .ref (1106 + 1)) hk_227 rfl wk_1076_39 rfl rfl ?_
  refine kg_iload hk_227 rfl rfl rfl ?_
  refine kg_iload hk_227 rfl rfl rfl ?_
  refine wf_gd hF (fun gz24 hF => ?_)
  refine wf_let hF (fun hz25 hhz25 hF => ?_)
  refine kg_ast hk_227 rfl wc_1106 gz24 hhz25 rfl ?_
  refine kg_iload hk_227 rfl rfl rfl ?_
  refine wf_if hF (fun cz26 hF => ?_) (fun cz26 hF => ?_)
  · refine kg_ifT hk_227 rfl (jc_T0 cz26) ?_
    refine kg_iinc (y := (x2 + 1)) (L2 := [.ref (1076 + 1), .int x1, .int (x2 + 1), .int x3, u4]) hk_227 rfl rfl rfl rfl rfl ?_
    refine kg_goto hk_227 rfl ?_
    have hF := Option.some.inj hF
    exact hK _ hF.symm _ _
  · refine kg_ifF hk_227 rfl (jc_F0 cz26) rfl ?_
    refine kg_iinc (y := (x1 + 1)) (L2 := [.ref (1076 + 1), .int (x1 + 1), .int x2, .int x3, u4]) hk_227 rfl rfl rfl rfl rfl ?_
    refine kg_aload hk_227 rfl rfl rfl ?_
    refine kg_iload hk_227 rfl rfl rfl ?_
    refine kg_aload hk_227 rfl rfl rfl ?_
    refine kg_get (v := .ref (1107 + 1)) hk_227 rfl wk_1076_40 rfl rfl ?_
    refine kg_push (x := 40) hk_227 rfl (by decide) rfl ?_
    refine kg_iload hk_227 rfl rfl rfl ?_
    refine kg_bin (z := (40 * x2)) hk_227 rfl rfl rfl ?_
    refine wf_bind hF (fun vz27 hvz27 hF => ?_)
    refine kg_call (as := [.ref (1076 + 1), .int x2, .ref (1107 + 1), .int (40 * x2)]) (rest := []) hk_227 rfl (Or.inr (Or.inr (Or.inr ⟨Or.inl rfl, _, _, rfl, wc_1076⟩))) rfl rfl rfl (Nat.not_lt.mpr (Nat.le_of_ble_eq_true rfl)) (p_215_ok (w_lenE wc_1107) hvz27) (by decide) rfl ?_
    refine kg_aload hk_227 rfl rfl rfl ?_
    refine kg_get (v := .ref (1108 + 1)) hk_227 rfl wk_1076_41 rfl rfl ?_
    refine kg_iload hk_227 rfl rfl rfl ?_
    refine kg_aload hk_227 rfl rfl rfl ?_
    refine kg_get (v := .ref (1080 + 1)) hk_227 rfl wk_1076_4 rfl rfl ?_
    refine kg_iload hk_227 rfl rfl rfl ?_
    refine wf_gd hF (fun gz28 hF => ?_)
    refine kg_ald (y := (vz27 1080 x2.toNatClampNeg)) hk_227 rfl wc_1080 gz28 rfl rfl ?_
    refine wf_gd hF (fun gz29 hF => ?_)
    refine wf_let hF (fun hz30 hhz30 hF => ?_)
    refine kg_ast hk_227 rfl wc_1108 gz29 hhz30 rfl ?_
    refine kg_aload hk_227 rfl rfl rfl ?_
    refine kg_iload hk_227 rfl rfl rfl ?_
    refine kg_aload hk_227 rfl rfl rfl ?_
    refine kg_get (v := .ref (1109 + 1)) hk_227 rfl wk_1076_42 rfl rfl ?_
    refine kg_push (x := 234) hk_227 rfl (by decide) rfl ?_
    refine kg_iload hk_227 rfl rfl rfl ?_
    refine kg_bin (z := (234 * x2)) hk_227 rfl rfl rfl ?_
    refine wf_bind hF (fun vz31 hvz31 hF => ?_)
    refine kg_call (as := [.ref (1076 + 1), .int x2, .ref (1109 + 1), .int (234 * x2)]) (rest := []) hk_227 rfl (Or.inr (Or.inr (Or.inr ⟨Or.inl rfl, _, _, rfl, wc_1076⟩))) rfl rfl rfl (Nat.not_lt.mpr (Nat.le_of_ble_eq_true rfl)) (p_219_ok (w_lenE wc_1109) hvz31) (by decide) rfl ?_
    refine kg_push (x := 0) hk_227 rfl (by decide) rfl ?_
    refine kg_istore (L2 := [.ref (1076 + 1), .int (x1 + 1), .int x2, .int x3, .int 0]) hk_227 rfl (Nat.le_of_ble_eq_true rfl) rfl rfl ?_
    refine wf_bind hF (fun ez36 hez36 hF => ?_)
    refine l_227_126_ok hez36 ?_ _
    intro u3 u4
    refine kg_aload hk_227 rfl rfl rfl ?_
    refine kg_aload hk_227 rfl rfl rfl ?_
    refine kg_get (v := .ref (1094 + 1)) hk_227 rfl wk_1076_18 rfl rfl ?_
    refine kg_push (x := 9) hk_227 rfl (by decide) rfl ?_
    refine kg_iload hk_227 rfl rfl rfl ?_
    refine kg_bin (z := (9 * x2)) hk_227 rfl rfl rfl ?_
    refine kg_aload hk_227 rfl rfl rfl ?_
    refine kg_get (v := .ref (1111 + 1)) hk_227 rfl wk_1076_44 rfl rfl ?_
    refine kg_push (x := 9) hk_227 rfl (by decide) rfl ?_
    refine kg_iload hk_227 rfl rfl rfl ?_
    refine kg_bin (z := (9 * x2)) hk_227 rfl rfl rfl ?_
    refine wf_bind hF (fun vz37 hvz37 hF => ?_)
    refine kg_call (as := [.ref (1076 + 1), .ref (1094 + 1), .int (9 * x2), .ref (1111 + 1), .int (9 * x2)]) (rest := []) hk_227 rfl (Or.inr (Or.inr (Or.inr ⟨Or.inl rfl, _, _, rfl, wc_1076⟩))) rfl rfl rfl (Nat.not_lt.mpr (Nat.le_of_ble_eq_true rfl)) (p_193_ok (w_lenE wc_1094) (w_lenE wc_1111) hvz37) (by decide) rfl ?_
    refine kg_iinc (y := (x2 + 1)) (L2 := [.ref (1076 + 1), .int (x1 + 1), .int (x2 + 1), u3, u4]) hk_227 rfl rfl rfl rfl rfl ?_
    refine kg_goto hk_227 rfl ?_
    have hF := Option.some.inj hF
    exact hK _ hF.symm _ _
def q_227_56 (h : Hp) (x1 : Int32) (x2 : Int32) (x3 : Int32) : Option ((Int32 × Int32 × Hp) ⊕ Int32 × Hp) :=
  (w_lp (fun (s : Int32 × Int32) => l_227_58 h x2 s.1 s.2) w_N (x3, 0)).bind fun ez23 =>
  q_227_92 h x1 x2 ez23
theorem q_227_56_ok {X : List Int32} {o : kO}  {h : Hp} {x1 : Int32} {x2 : Int32} {x3 : Int32}  {r : (Int32 × Int32 × Hp) ⊕ Int32 × Hp} (hF : q_227_56 h x1 x2 x3 = some r) (hK : ∀ s' : Int32 × Int32 × Hp, r = .inl s' → ∀ (u3 : Value) (u4 : Value), k_Go X 7 227 (9, [.ref (1076 + 1), .int (s'.1), .int (s'.2.1), u3, u4], []) s'.2.2 o) (hX0 : ∀ e : Int32 × Hp, r = .inr e → (.inl (some (.int e.1)), e.2) = o) : ∀ (u4 : Value), k_Go X 7 227 (56, [.ref (1076 + 1), .int x1, .int x2, .int x3, u4], []) h o := by
  intro u4
  unfold q_227_56 at hF
  refine kg_push (x := 0) hk_227 rfl (by decide) rfl ?_
  refine kg_istore (L2 := [.ref (1076 + 1), .int x1, .int x2, .int x3, .int 0]) hk_227 rfl (Nat.le_of_ble_eq_true rfl) rfl rfl ?_
  refine wf_bind hF (fun ez23 hez23 hF => ?_)
  refine l_227_58_ok hez23 ?_
  intro u4
  exact q_227_92_ok hF hK hX0 _
def q_227_31 (h : Hp) (x1 : Int32) (x2 : Int32) (s0 : Int32) : Option ((Int32 × Int32 × Hp) ⊕ Int32 × Hp) :=
  (w_lp (fun (s : Int32 × Int32) => l_227_34 h x2 s.1 s.2) w_N (s0, 0)).bind fun ez14 =>
  q_227_56 h x1 x2 ez14
theorem q_227_31_ok {X : List Int32} {o : kO}  {h : Hp} {s0 : Int32} {x1 : Int32} {x2 : Int32}  {r : (Int32 × Int32 × Hp) ⊕ Int32 × Hp} (hF : q_227_31 h x1 x2 s0 = some r) (hK : ∀ s' : Int32 × Int32 × Hp, r = .inl s' → ∀ (u3 : Value) (u4 : Value), k_Go X 7 227 (9, [.ref (1076 + 1), .int (s'.1), .int (s'.2.1), u3, u4], []) s'.2.2 o) (hX0 : ∀ e : Int32 × Hp, r = .inr e → (.inl (some (.int e.1)), e.2) = o) : ∀ (u3 : Value) (u4 : Value), k_Go X 7 227 (31, [.ref (1076 + 1), .int x1, .int x2, u3, u4], [.int s0]) h o := by
  intro u3 u4
  unfold q_227_31 at hF
  refine kg_istore (L2 := [.ref (1076 + 1), .int x1, .int x2, .int s0, u4]) hk_227 rfl (Nat.le_of_ble_eq_true rfl) rfl rfl ?_
  refine kg_push (x := 0) hk_227 rfl (by decide) rfl ?_
  refine kg_istore (L2 := [.ref (1076 + 1), .int x1, .int x2, .int s0, .int 0]) hk_227 rfl (Nat.le_of_ble_eq_true rfl) rfl rfl ?_
  refine wf_bind hF (fun ez14 hez14 hF => ?_)
  refine l_227_34_ok hez14 ?_
  intro u4
  exact q_227_56_ok hF hK hX0 _
def l_227_9 (x1 : Int32) (x2 : Int32) (h : Hp) : Option ((Int32 × Int32 × Hp) ⊕ Int32 × Hp) :=
  if x2 < 16 then
    (w_gd ((if x2 < (h 1076 2) then (w_ix x2 16) && ((if (h 1122 x2.toNatClampNeg) = 0 then w_ix (9 * x2) 144 else true)) else true)) <|
    q_227_31 h x1 x2 (if x2 < (h 1076 2) then (if (h 1122 x2.toNatClampNeg) = 0 then (if (h 1094 (9 * x2).toNatClampNeg) < 0 then 1 else 0 : Int32) else 0 : Int32) else 0 : Int32))
  else
    (some (.inr (x1, h)))
theorem l_227_9_st {X : List Int32} {o : kO}  {h : Hp} {x1 : Int32} {x2 : Int32}  {r : (Int32 × Int32 × Hp) ⊕ Int32 × Hp} (hF : l_227_9 x1 x2 h = some r) (hK : ∀ s' : Int32 × Int32 × Hp, r = .inl s' → ∀ (u3 : Value) (u4 : Value), k_Go X 7 227 (9, [.ref (1076 + 1), .int (s'.1), .int (s'.2.1), u3, u4], []) s'.2.2 o) (hX0 : ∀ e : Int32 × Hp, r = .inr e → (.inl (some (.int e.1)), e.2) = o) : ∀ (u3 : Value) (u4 : Value), k_Go X 7 227 (9, [.ref (1076 + 1), .int x1, .int x2, u3, u4], []) h o := by
  intro u3 u4
  refine kg_iload hk_227 rfl rfl rfl ?_
  refine kg_push (x := 16) hk_227 rfl (by decide) rfl ?_
  refine wf_if hF (fun cz3 hF => ?_) (fun cz3 hF => ?_)
  · refine kg_icF hk_227 rfl (jc_F3 cz3) rfl ?_
    refine kg_iload hk_227 rfl rfl rfl ?_
    refine kg_aload hk_227 rfl rfl rfl ?_
    refine kg_get (v := .int (h 1076 2)) hk_227 rfl wk_1076_2 rfl rfl ?_
    refine wf_gd hF (fun gz9 hF => ?_)
    refine kv_mid (p := 31) (L := [.ref (1076 + 1), .int x1, .int x2, u3, u4]) (S := [.int (if x2 < (h 1076 2) then (if (h 1122 x2.toNatClampNeg) = 0 then (if (h 1094 (9 * x2).toNatClampNeg) < 0 then 1 else 0 : Int32) else 0 : Int32) else 0 : Int32)]) ?_ (fun hK => ?_)
    · exact q_227_31_ok hF hK hX0 _ _
    · have hg := gz9
      by_cases cz4 : x2 < (h 1076 2)
      · have hg := wv_T cz4 hg
        have hK := kv_T cz4 hK
        have gz5 := wb_1 hg
        have hg := wb_2 hg
        refine kg_icF hk_227 rfl (jc_F3 cz4) rfl ?_
        refine kg_aload hk_227 rfl rfl rfl ?_
        refine kg_get (v := .ref (1122 + 1)) hk_227 rfl wk_1076_59 rfl rfl ?_
        refine kg_iload hk_227 rfl rfl rfl ?_
        refine kg_ald (y := (h 1122 x2.toNatClampNeg)) hk_227 rfl wc_1122 gz5 rfl rfl ?_
        by_cases cz6 : (h 1122 x2.toNatClampNeg) = 0
        · have hg := wv_T cz6 hg
          have hK := kv_T cz6 hK
          have gz7 := hg
          refine kg_ifF hk_227 rfl (jc_F1 cz6) rfl ?_
          refine kg_aload hk_227 rfl rfl rfl ?_
          refine kg_get (v := .ref (1094 + 1)) hk_227 rfl wk_1076_18 rfl rfl ?_
          refine kg_push (x := 9) hk_227 rfl (by decide) rfl ?_
          refine kg_iload hk_227 rfl rfl rfl ?_
          refine kg_bin (z := (9 * x2)) hk_227 rfl rfl rfl ?_
          refine kg_ald (y := (h 1094 (9 * x2).toNatClampNeg)) hk_227 rfl wc_1094 gz7 rfl rfl ?_
          by_cases cz8 : (h 1094 (9 * x2).toNatClampNeg) < 0
          · have hK := kv_T cz8 hK
            refine kg_ifF hk_227 rfl (jc_F3 cz8) rfl ?_
            refine kg_push (x := 1) hk_227 rfl (by decide) rfl ?_
            refine kg_goto hk_227 rfl ?_
            exact hK
          · have hK := kv_F cz8 hK
            refine kg_ifT hk_227 rfl (jc_T3 cz8) ?_
            refine kg_push (x := 0) hk_227 rfl (by decide) rfl ?_
            exact hK
        · have hK := kv_F cz6 hK
          refine kg_ifT hk_227 rfl (jc_T1 cz6) ?_
          refine kg_push (x := 0) hk_227 rfl (by decide) rfl ?_
          exact hK
      · have hK := kv_F cz4 hK
        refine kg_icT hk_227 rfl (jc_T3 cz4) ?_
        refine kg_push (x := 0) hk_227 rfl (by decide) rfl ?_
        exact hK
  · refine kg_icT hk_227 rfl (jc_T3 cz3) ?_
    refine kg_iload hk_227 rfl rfl rfl ?_
    have hF := Option.some.inj hF
    exact kg_iret hk_227 rfl (Or.inl rfl) (hX0 _ hF.symm)
theorem l_227_9_ok {X : List Int32} {o : kO}    {n : Nat} {s : Int32 × Int32 × Hp} {e : Int32 × Hp} (hF : w_lp (fun (s : Int32 × Int32 × Hp) => l_227_9 s.1 s.2.1 s.2.2) n s = some e) (hX0 : (.inl (some (.int e.1)), e.2) = o) : ∀ (u3 : Value) (u4 : Value), k_Go X 7 227 (9, [.ref (1076 + 1), .int s.1, .int s.2.1, u3, u4], []) s.2.2 o := by
  exact w_lp_ok (P := (fun (s : Int32 × Int32 × Hp) => ∀ (u3 : Value) (u4 : Value), k_Go X 7 227 (9, [.ref (1076 + 1), .int s.1, .int s.2.1, u3, u4], []) s.2.2 o)) (Q := (fun (e : Int32 × Hp) => ((.inl (some (.int e.1)), e.2) = o))) (fun s r hF hK hX => l_227_9_st hF hK (fun x hx => (hX _ hx))) n s e hF hX0
def p_227 (h : Hp) : Option (Int32 × Hp) :=
  w_let (w_up h 1076 79 0) fun hz1 =>
  (p_188 hz1).bind fun vz2 =>
  w_lp (fun (s : Int32 × Int32 × Hp) => l_227_9 s.1 s.2.1 s.2.2) w_N (0, 0, vz2)
theorem p_227_ok {X : List Int32}  {h : Hp}   {r : Int32 × Hp} (hF : p_227 h = some r) : k_Ev X 7 227 [.ref (1076 + 1)] h (.inl (some (.int r.1)), r.2) := by
  refine k_of hk_227 ?_
  show k_Go X 7 227 (0, [.ref (1076 + 1), (.retAddr 0), (.retAddr 0), (.retAddr 0), (.retAddr 0)], []) h _
  unfold p_227 at hF
  refine kg_aload hk_227 rfl rfl rfl ?_
  refine kg_push (x := 0) hk_227 rfl (by decide) rfl ?_
  refine wf_let hF (fun hz1 hhz1 hF => ?_)
  refine kg_put hk_227 rfl wk_1076_79 rfl rfl hhz1 rfl ?_
  refine kg_aload hk_227 rfl rfl rfl ?_
  refine wf_bind hF (fun vz2 hvz2 hF => ?_)
  refine kg_call (as := [.ref (1076 + 1)]) (rest := []) hk_227 rfl (Or.inr (Or.inr (Or.inr ⟨Or.inl rfl, _, _, rfl, wc_1076⟩))) rfl rfl rfl (Nat.not_lt.mpr (Nat.le_of_ble_eq_true rfl)) (p_188_ok hvz2) (by decide) rfl ?_
  refine kg_push (x := 0) hk_227 rfl (by decide) rfl ?_
  refine kg_istore (L2 := [.ref (1076 + 1), .int 0, (.retAddr 0), (.retAddr 0), (.retAddr 0)]) hk_227 rfl (Nat.le_of_ble_eq_true rfl) rfl rfl ?_
  refine kg_push (x := 0) hk_227 rfl (by decide) rfl ?_
  refine kg_istore (L2 := [.ref (1076 + 1), .int 0, .int 0, (.retAddr 0), (.retAddr 0)]) hk_227 rfl (Nat.le_of_ble_eq_true rfl) rfl rfl ?_
  exact l_227_9_ok hF rfl _ _
-- NotebookWeirModel.kill()I
theorem hk_228 : jP[228]? = some (jc_228, 3, [], []) := by rfl
def q_228_59 (h : Hp) (x2 : Int32) (s0 : Int32) (s1 : Int32) : Option ((Int32 × Int32 × Hp) ⊕ Int32 × Hp) :=
  w_gd (w_ix x2 16) <|
  w_let (w_up h 1087 x2.toNatClampNeg 0) fun hz15 =>
  w_gd (w_ix x2 16) <|
  w_let (w_up hz15 1100 x2.toNatClampNeg 0) fun hz17 =>
  some (.inl ((s1 + s0), (x2 + 1), hz17))
theorem q_228_59_ok {X : List Int32} {o : kO}  {h : Hp} {s0 : Int32} {s1 : Int32} {x2 : Int32}  {r : (Int32 × Int32 × Hp) ⊕ Int32 × Hp} (hF : q_228_59 h x2 s0 s1 = some r) (hK : ∀ s' : Int32 × Int32 × Hp, r = .inl s' → k_Go X 7 228 (15, [.ref (1076 + 1), .int (s'.1), .int (s'.2.1)], []) s'.2.2 o) (hX0 : ∀ e : Int32 × Hp, r = .inr e → ∀ (u2 : Value), k_Go X 7 228 (73, [.ref (1076 + 1), .int e.1, u2], []) e.2 o) : ∀ (u1 : Value), k_Go X 7 228 (59, [.ref (1076 + 1), u1, .int x2], [.int s0, .int s1]) h o := by
  intro u1
  unfold q_228_59 at hF
  refine kg_bin (z := (s1 + s0)) hk_228 rfl rfl rfl ?_
  refine kg_istore (L2 := [.ref (1076 + 1), .int (s1 + s0), .int x2]) hk_228 rfl (Nat.le_of_ble_eq_true rfl) rfl rfl ?_
  refine kg_aload hk_228 rfl rfl rfl ?_
  refine kg_get (v := .ref (1087 + 1)) hk_228 rfl wk_1076_11 rfl rfl ?_
  refine kg_iload hk_228 rfl rfl rfl ?_
  refine kg_push (x := 0) hk_228 rfl (by decide) rfl ?_
  refine wf_gd hF (fun gz14 hF => ?_)
  refine wf_let hF (fun hz15 hhz15 hF => ?_)
  refine kg_ast hk_228 rfl wc_1087 gz14 hhz15 rfl ?_
  refine kg_aload hk_228 rfl rfl rfl ?_
  refine kg_get (v := .ref (1100 + 1)) hk_228 rfl wk_1076_33 rfl rfl ?_
  refine kg_iload hk_228 rfl rfl rfl ?_
  refine kg_push (x := 0) hk_228 rfl (by decide) rfl ?_
  refine wf_gd hF (fun gz16 hF => ?_)
  refine wf_let hF (fun hz17 hhz17 hF => ?_)
  refine kg_ast hk_228 rfl wc_1100 gz16 hhz17 rfl ?_
  refine kg_iinc (y := (x2 + 1)) (L2 := [.ref (1076 + 1), .int (s1 + s0), .int (x2 + 1)]) hk_228 rfl rfl rfl rfl rfl ?_
  refine kg_goto hk_228 rfl ?_
  have hF := Option.some.inj hF
  exact hK _ hF.symm
def q_228_48 (h : Hp) (x1 : Int32) (x2 : Int32) (s0 : Int32) (s1 : Int32) : Option ((Int32 × Int32 × Hp) ⊕ Int32 × Hp) :=
  w_let (w_up h 1076 47 (s1 ||| s0)) fun hz11 =>
  w_gd (w_ix x2 16) <|
  q_228_59 hz11 x2 (if (hz11 1122 x2.toNatClampNeg) = 0 then 1 else 0 : Int32) x1
theorem q_228_48_ok {X : List Int32} {o : kO}  {h : Hp} {s0 : Int32} {s1 : Int32} {x1 : Int32} {x2 : Int32}  {r : (Int32 × Int32 × Hp) ⊕ Int32 × Hp} (hF : q_228_48 h x1 x2 s0 s1 = some r) (hK : ∀ s' : Int32 × Int32 × Hp, r = .inl s' → k_Go X 7 228 (15, [.ref (1076 + 1), .int (s'.1), .int (s'.2.1)], []) s'.2.2 o) (hX0 : ∀ e : Int32 × Hp, r = .inr e → ∀ (u2 : Value), k_Go X 7 228 (73, [.ref (1076 + 1), .int e.1, u2], []) e.2 o) : k_Go X 7 228 (48, [.ref (1076 + 1), .int x1, .int x2], [.int s0, .int s1, .ref (1076 + 1)]) h o := by
  unfold q_228_48 at hF
  refine kg_bin (z := (s1 ||| s0)) hk_228 rfl rfl rfl ?_
  refine wf_let hF (fun hz11 hhz11 hF => ?_)
  refine kg_put hk_228 rfl wk_1076_47 rfl rfl hhz11 rfl ?_
  refine kg_iload hk_228 rfl rfl rfl ?_
  refine kg_aload hk_228 rfl rfl rfl ?_
  refine kg_get (v := .ref (1122 + 1)) hk_228 rfl wk_1076_59 rfl rfl ?_
  refine kg_iload hk_228 rfl rfl rfl ?_
  refine wf_gd hF (fun gz12 hF => ?_)
  refine kg_ald (y := (hz11 1122 x2.toNatClampNeg)) hk_228 rfl wc_1122 gz12 rfl rfl ?_
  refine kv_mid (p := 59) (L := [.ref (1076 + 1), .int x1, .int x2]) (S := [.int (if (hz11 1122 x2.toNatClampNeg) = 0 then 1 else 0 : Int32), .int x1]) ?_ (fun hK => ?_)
  · exact q_228_59_ok hF hK hX0 _
  · by_cases cz13 : (hz11 1122 x2.toNatClampNeg) = 0
    · have hK := kv_T cz13 hK
      refine kg_ifF hk_228 rfl (jc_F1 cz13) rfl ?_
      refine kg_push (x := 1) hk_228 rfl (by decide) rfl ?_
      refine kg_goto hk_228 rfl ?_
      exact hK
    · have hK := kv_F cz13 hK
      refine kg_ifT hk_228 rfl (jc_T1 cz13) ?_
      refine kg_push (x := 0) hk_228 rfl (by decide) rfl ?_
      exact hK
def q_228_32 (h : Hp) (x1 : Int32) (x2 : Int32) (s0 : Int32) (s1 : Int32) : Option ((Int32 × Int32 × Hp) ⊕ Int32 × Hp) :=
  w_let (w_up h 1076 46 (s1 ||| s0)) fun hz8 =>
  w_gd (w_ix x2 16) <|
  q_228_48 hz8 x1 x2 (if (hz8 1122 x2.toNatClampNeg) = 2 then (1 <<< (x2 &&& 31)) else 0 : Int32) (hz8 1076 47)
theorem q_228_32_ok {X : List Int32} {o : kO}  {h : Hp} {s0 : Int32} {s1 : Int32} {x1 : Int32} {x2 : Int32}  {r : (Int32 × Int32 × Hp) ⊕ Int32 × Hp} (hF : q_228_32 h x1 x2 s0 s1 = some r) (hK : ∀ s' : Int32 × Int32 × Hp, r = .inl s' → k_Go X 7 228 (15, [.ref (1076 + 1), .int (s'.1), .int (s'.2.1)], []) s'.2.2 o) (hX0 : ∀ e : Int32 × Hp, r = .inr e → ∀ (u2 : Value), k_Go X 7 228 (73, [.ref (1076 + 1), .int e.1, u2], []) e.2 o) : k_Go X 7 228 (32, [.ref (1076 + 1), .int x1, .int x2], [.int s0, .int s1, .ref (1076 + 1)]) h o := by
  unfold q_228_32 at hF
  refine kg_bin (z := (s1 ||| s0)) hk_228 rfl rfl rfl ?_
  refine wf_let hF (fun hz8 hhz8 hF => ?_)
  refine kg_put hk_228 rfl wk_1076_46 rfl rfl hhz8 rfl ?_
  refine kg_aload hk_228 rfl rfl rfl ?_
  refine kg_dup hk_228 rfl rfl rfl ?_
  refine kg_get (v := .int (hz8 1076 47)) hk_228 rfl wk_1076_47 rfl rfl ?_
  refine kg_aload hk_228 rfl rfl rfl ?_
  refine kg_get (v := .ref (1122 + 1)) hk_228 rfl wk_1076_59 rfl rfl ?_
  refine kg_iload hk_228 rfl rfl rfl ?_
  refine wf_gd hF (fun gz9 hF => ?_)
  refine kg_ald (y := (hz8 1122 x2.toNatClampNeg)) hk_228 rfl wc_1122 gz9 rfl rfl ?_
  refine kg_push (x := 2) hk_228 rfl (by decide) rfl ?_
  refine kv_mid (p := 48) (L := [.ref (1076 + 1), .int x1, .int x2]) (S := [.int (if (hz8 1122 x2.toNatClampNeg) = 2 then (1 <<< (x2 &&& 31)) else 0 : Int32), .int (hz8 1076 47), .ref (1076 + 1)]) ?_ (fun hK => ?_)
  · exact q_228_48_ok hF hK hX0
  · by_cases cz10 : (hz8 1122 x2.toNatClampNeg) = 2
    · have hK := kv_T cz10 hK
      refine kg_icF hk_228 rfl (jc_F1 cz10) rfl ?_
      refine kg_push (x := 1) hk_228 rfl (by decide) rfl ?_
      refine kg_iload hk_228 rfl rfl rfl ?_
      refine kg_bin (z := (1 <<< (x2 &&& 31))) hk_228 rfl rfl rfl ?_
      refine kg_goto hk_228 rfl ?_
      exact hK
    · have hK := kv_F cz10 hK
      refine kg_icT hk_228 rfl (jc_T1 cz10) ?_
      refine kg_push (x := 0) hk_228 rfl (by decide) rfl ?_
      exact hK
def l_228_15 (x1 : Int32) (x2 : Int32) (h : Hp) : Option ((Int32 × Int32 × Hp) ⊕ Int32 × Hp) :=
  if x2 < (h 1076 2) then
    (w_gd (w_ix x2 16) <|
    q_228_32 h x1 x2 (if (h 1122 x2.toNatClampNeg) = 0 then (1 <<< (x2 &&& 31)) else 0 : Int32) (h 1076 46))
  else
    (some (.inr (x1, h)))
theorem l_228_15_st {X : List Int32} {o : kO}  {h : Hp} {x1 : Int32} {x2 : Int32}  {r : (Int32 × Int32 × Hp) ⊕ Int32 × Hp} (hF : l_228_15 x1 x2 h = some r) (hK : ∀ s' : Int32 × Int32 × Hp, r = .inl s' → k_Go X 7 228 (15, [.ref (1076 + 1), .int (s'.1), .int (s'.2.1)], []) s'.2.2 o) (hX0 : ∀ e : Int32 × Hp, r = .inr e → ∀ (u2 : Value), k_Go X 7 228 (73, [.ref (1076 + 1), .int e.1, u2], []) e.2 o) : k_Go X 7 228 (15, [.ref (1076 + 1), .int x1, .int x2], []) h o := by
  refine kg_iload hk_228 rfl rfl rfl ?_
  refine kg_aload hk_228 rfl rfl rfl ?_
  refine kg_get (v := .int (h 1076 2)) hk_228 rfl wk_1076_2 rfl rfl ?_
  refine wf_if hF (fun cz5 hF => ?_) (fun cz5 hF => ?_)
  · refine kg_icF hk_228 rfl (jc_F3 cz5) rfl ?_
    refine kg_aload hk_228 rfl rfl rfl ?_
    refine kg_dup hk_228 rfl rfl rfl ?_
    refine kg_get (v := .int (h 1076 46)) hk_228 rfl wk_1076_46 rfl rfl ?_
    refine kg_aload hk_228 rfl rfl rfl ?_
    refine kg_get (v := .ref (1122 + 1)) hk_228 rfl wk_1076_59 rfl rfl ?_
    refine kg_iload hk_228 rfl rfl rfl ?_
    refine wf_gd hF (fun gz6 hF => ?_)
    refine kg_ald (y := (h 1122 x2.toNatClampNeg)) hk_228 rfl wc_1122 gz6 rfl rfl ?_
    refine kv_mid (p := 32) (L := [.ref (1076 + 1), .int x1, .int x2]) (S := [.int (if (h 1122 x2.toNatClampNeg) = 0 then (1 <<< (x2 &&& 31)) else 0 : Int32), .int (h 1076 46), .ref (1076 + 1)]) ?_ (fun hK => ?_)
    · exact q_228_32_ok hF hK hX0
    · by_cases cz7 : (h 1122 x2.toNatClampNeg) = 0
      · have hK := kv_T cz7 hK
        refine kg_ifF hk_228 rfl (jc_F1 cz7) rfl ?_
        refine kg_push (x := 1) hk_228 rfl (by decide) rfl ?_
        refine kg_iload hk_228 rfl rfl rfl ?_
        refine kg_bin (z := (1 <<< (x2 &&& 31))) hk_228 rfl rfl rfl ?_
        refine kg_goto hk_228 rfl ?_
        exact hK
      · have hK := kv_F cz7 hK
        refine kg_ifT hk_228 rfl (jc_T1 cz7) ?_
        refine kg_push (x := 0) hk_228 rfl (by decide) rfl ?_
        exact hK
  · refine kg_icT hk_228 rfl (jc_T3 cz5) ?_
    have hF := Option.some.inj hF
    exact hX0 _ hF.symm _
theorem l_228_15_ok {X : List Int32} {o : kO}    {n : Nat} {s : Int32 × Int32 × Hp} {e : Int32 × Hp} (hF : w_lp (fun (s : Int32 × Int32 × Hp) => l_228_15 s.1 s.2.1 s.2.2) n s = some e) (hX0 : ∀ (u2 : Value), k_Go X 7 228 (73, [.ref (1076 + 1), .int e.1, u2], []) e.2 o) : k_Go X 7 228 (15, [.ref (1076 + 1), .int s.1, .int s.2.1], []) s.2.2 o := by
  exact w_lp_ok (P := (fun (s : Int32 × Int32 × Hp) => k_Go X 7 228 (15, [.ref (1076 + 1), .int s.1, .int s.2.1], []) s.2.2 o)) (Q := (fun (e : Int32 × Hp) => (∀ (u2 : Value), k_Go X 7 228 (73, [.ref (1076 + 1), .int e.1, u2], []) e.2 o))) (fun s r hF hK hX => l_228_15_st hF hK (fun x hx => (hX _ hx))) n s e hF hX0
def p_228 (h : Hp) : Option (Int32 × Hp) :=
  w_let (w_up h 1076 79 0) fun hz1 =>
  (p_188 hz1).bind fun vz2 =>
  w_let (w_up vz2 1076 46 0) fun hz3 =>
  w_let (w_up hz3 1076 47 0) fun hz4 =>
  (w_lp (fun (s : Int32 × Int32 × Hp) => l_228_15 s.1 s.2.1 s.2.2) w_N (0, 0, hz4)).bind fun ez18 =>
  w_let (w_up ez18.2 1076 45 1) fun hz19 =>
  some (ez18.1, hz19)
theorem p_228_ok {X : List Int32}  {h : Hp}   {r : Int32 × Hp} (hF : p_228 h = some r) : k_Ev X 7 228 [.ref (1076 + 1)] h (.inl (some (.int r.1)), r.2) := by
  refine k_of hk_228 ?_
  show k_Go X 7 228 (0, [.ref (1076 + 1), (.retAddr 0), (.retAddr 0)], []) h _
  unfold p_228 at hF
  refine kg_aload hk_228 rfl rfl rfl ?_
  refine kg_push (x := 0) hk_228 rfl (by decide) rfl ?_
  refine wf_let hF (fun hz1 hhz1 hF => ?_)
  refine kg_put hk_228 rfl wk_1076_79 rfl rfl hhz1 rfl ?_
  refine kg_aload hk_228 rfl rfl rfl ?_
  refine wf_bind hF (fun vz2 hvz2 hF => ?_)
  refine kg_call (as := [.ref (1076 + 1)]) (rest := []) hk_228 rfl (Or.inr (Or.inr (Or.inr ⟨Or.inl rfl, _, _, rfl, wc_1076⟩))) rfl rfl rfl (Nat.not_lt.mpr (Nat.le_of_ble_eq_true rfl)) (p_188_ok hvz2) (by decide) rfl ?_
  refine kg_aload hk_228 rfl rfl rfl ?_
  refine kg_push (x := 0) hk_228 rfl (by decide) rfl ?_
  refine wf_let hF (fun hz3 hhz3 hF => ?_)
  refine kg_put hk_228 rfl wk_1076_46 rfl rfl hhz3 rfl ?_
  refine kg_aload hk_228 rfl rfl rfl ?_
  refine kg_push (x := 0) hk_228 rfl (by decide) rfl ?_
  refine wf_let hF (fun hz4 hhz4 hF => ?_)
  refine kg_put hk_228 rfl wk_1076_47 rfl rfl hhz4 rfl ?_
  refine kg_push (x := 0) hk_228 rfl (by decide) rfl ?_
  refine kg_istore (L2 := [.ref (1076 + 1), .int 0, (.retAddr 0)]) hk_228 rfl (Nat.le_of_ble_eq_true rfl) rfl rfl ?_
  refine kg_push (x := 0) hk_228 rfl (by decide) rfl ?_
  refine kg_istore (L2 := [.ref (1076 + 1), .int 0, .int 0]) hk_228 rfl (Nat.le_of_ble_eq_true rfl) rfl rfl ?_
  refine wf_bind hF (fun ez18 hez18 hF => ?_)
  refine l_228_15_ok hez18 ?_
  intro u2
  refine kg_aload hk_228 rfl rfl rfl ?_
  refine kg_push (x := 1) hk_228 rfl (by decide) rfl ?_
  refine wf_let hF (fun hz19 hhz19 hF => ?_)
  refine kg_put hk_228 rfl wk_1076_45 rfl (w_fitB rfl) hhz19 rfl ?_
  refine kg_iload hk_228 rfl rfl rfl ?_
  have hF := Option.some.inj hF
  subst hF
  exact kg_iret hk_228 rfl (Or.inl rfl) rfl
-- NotebookWeirModel.isInCheckpoint(I)Z
theorem hk_229 : jP[229]? = some (jc_229, 2, [], []) := by rfl
def p_229 (h : Hp) (x1 : Int32) : Option (Int32 × Hp) :=
  w_gd (w_ix x1 16) <|
  if (h 1106 x1.toNatClampNeg) = 0 then
    (some (0, h))
  else
    (w_gd (w_ix x1 16) <|
    (p_214 h x1 1107 (40 * x1) (h 1108 x1.toNatClampNeg)).bind fun vz4 =>
    if vz4 = 0 then
      (some (0, h))
    else
      ((p_218 h x1 1109 (234 * x1)).bind fun vz6 =>
      some ((if vz6.1 = 0 then 0 else 1 : Int32), vz6.2)))
theorem p_229_ok {X : List Int32}  {h : Hp} {x1 : Int32}  {r : Int32 × Hp} (hF : p_229 h x1 = some r) : k_Ev X 6 229 [.ref (1076 + 1), .int x1] h (.inl (some (.int r.1)), r.2) := by
  refine k_of hk_229 ?_
  show k_Go X 6 229 (0, [.ref (1076 + 1), .int x1], []) h _
  unfold p_229 at hF
  refine kg_aload hk_229 rfl rfl rfl ?_
  refine kg_get (v := .ref (1106 + 1)) hk_229 rfl wk_1076_39 rfl rfl ?_
  refine kg_iload hk_229 rfl rfl rfl ?_
  refine wf_gd hF (fun gz1 hF => ?_)
  refine kg_ald (y := (h 1106 x1.toNatClampNeg)) hk_229 rfl wc_1106 gz1 rfl rfl ?_
  refine wf_if hF (fun cz2 hF => ?_) (fun cz2 hF => ?_)
  · refine kg_ifT hk_229 rfl (jc_T0 cz2) ?_
    refine kg_push (x := 0) hk_229 rfl (by decide) rfl ?_
    have hF := Option.some.inj hF
    subst hF
    exact kg_iret hk_229 rfl (Or.inr rfl) rfl
  · refine kg_ifF hk_229 rfl (jc_F0 cz2) rfl ?_
    refine kg_aload hk_229 rfl rfl rfl ?_
    refine kg_iload hk_229 rfl rfl rfl ?_
    refine kg_aload hk_229 rfl rfl rfl ?_
    refine kg_get (v := .ref (1107 + 1)) hk_229 rfl wk_1076_40 rfl rfl ?_
    refine kg_push (x := 40) hk_229 rfl (by decide) rfl ?_
    refine kg_iload hk_229 rfl rfl rfl ?_
    refine kg_bin (z := (40 * x1)) hk_229 rfl rfl rfl ?_
    refine kg_aload hk_229 rfl rfl rfl ?_
    refine kg_get (v := .ref (1108 + 1)) hk_229 rfl wk_1076_41 rfl rfl ?_
    refine kg_iload hk_229 rfl rfl rfl ?_
    refine wf_gd hF (fun gz3 hF => ?_)
    refine kg_ald (y := (h 1108 x1.toNatClampNeg)) hk_229 rfl wc_1108 gz3 rfl rfl ?_
    refine wf_bind hF (fun vz4 hvz4 hF => ?_)
    refine kg_call (as := [.ref (1076 + 1), .int x1, .ref (1107 + 1), .int (40 * x1), .int (h 1108 x1.toNatClampNeg)]) (rest := []) hk_229 rfl (Or.inr (Or.inr (Or.inr ⟨Or.inl rfl, _, _, rfl, wc_1076⟩))) rfl rfl rfl (Nat.not_lt.mpr (Nat.le_of_ble_eq_true rfl)) (p_214_ok (w_lenE wc_1107) hvz4) (by decide) rfl ?_
    refine wf_if hF (fun cz5 hF => ?_) (fun cz5 hF => ?_)
    · refine kg_ifT hk_229 rfl (jc_T0 cz5) ?_
      refine kg_push (x := 0) hk_229 rfl (by decide) rfl ?_
      have hF := Option.some.inj hF
      subst hF
      exact kg_iret hk_229 rfl (Or.inr rfl) rfl
    · refine kg_ifF hk_229 rfl (jc_F0 cz5) rfl ?_
      refine kg_aload hk_229 rfl rfl rfl ?_
      refine kg_iload hk_229 rfl rfl rfl ?_
      refine kg_aload hk_229 rfl rfl rfl ?_
      refine kg_get (v := .ref (1109 + 1)) hk_229 rfl wk_1076_42 rfl rfl ?_
      refine kg_push (x := 234) hk_229 rfl (by decide) rfl ?_
      refine kg_iload hk_229 rfl rfl rfl ?_
      refine kg_bin (z := (234 * x1)) hk_229 rfl rfl rfl ?_
      refine wf_bind hF (fun vz6 hvz6 hF => ?_)
      refine kg_call (as := [.ref (1076 + 1), .int x1, .ref (1109 + 1), .int (234 * x1)]) (rest := []) hk_229 rfl (Or.inr (Or.inr (Or.inr ⟨Or.inl rfl, _, _, rfl, wc_1076⟩))) rfl rfl rfl (Nat.not_lt.mpr (Nat.le_of_ble_eq_true rfl)) (p_218_ok (w_lenE wc_1109) hvz6) (by decide) rfl ?_
      refine kv_mid (p := 30) (L := [.ref (1076 + 1), .int x1]) (S := [.int (if vz6.1 = 0 then 0 else 1 : Int32)]) ?_ (fun hK => ?_)
      · have hF := Option.some.inj hF
        subst hF
        exact kg_iret hk_229 rfl (Or.inr (w_boi rfl rfl)) rfl
      · by_cases cz7 : vz6.1 = 0
        · have hK := kv_T cz7 hK
          refine kg_ifT hk_229 rfl (jc_T0 cz7) ?_
          refine kg_push (x := 0) hk_229 rfl (by decide) rfl ?_
          exact hK
        · have hK := kv_F cz7 hK
          refine kg_ifF hk_229 rfl (jc_F0 cz7) rfl ?_
          refine kg_push (x := 1) hk_229 rfl (by decide) rfl ?_
          refine kg_goto hk_229 rfl ?_
          exact hK
-- NotebookWeirModel.restores(I)I
theorem hk_230 : jP[230]? = some (jc_230, 3, [], []) := by rfl
def q_230_11 (h : Hp) (x1 : Int32) : Option (Int32 × Hp) :=
  (p_223 h x1 1).bind fun vz2 =>
  some (1, vz2)
theorem q_230_11_ok {X : List Int32}   {h : Hp} {x1 : Int32}  {r : Int32 × Hp} (hF : q_230_11 h x1 = some r)  : ∀ (u2 : Value), k_Go X 11 230 (11, [.ref (1076 + 1), .int x1, u2], []) h (.inl (some (.int r.1)), r.2) := by
  intro u2
  unfold q_230_11 at hF
  refine kg_aload hk_230 rfl rfl rfl ?_
  refine kg_iload hk_230 rfl rfl rfl ?_
  refine kg_push (x := 1) hk_230 rfl (by decide) rfl ?_
  refine wf_bind hF (fun vz2 hvz2 hF => ?_)
  refine kg_call (as := [.ref (1076 + 1), .int x1, .int 1]) (rest := []) hk_230 rfl (Or.inr (Or.inr (Or.inr ⟨Or.inl rfl, _, _, rfl, wc_1076⟩))) rfl rfl rfl (Nat.not_lt.mpr (Nat.le_of_ble_eq_true rfl)) (p_223_ok hvz2) (by decide) rfl ?_
  refine kg_push (x := 1) hk_230 rfl (by decide) rfl ?_
  have hF := Option.some.inj hF
  subst hF
  exact kg_iret hk_230 rfl (Or.inl rfl) rfl
def l_230_19 (x1 : Int32) (x2 : Int32) (h : Hp) : Option ((Int32 × Hp) ⊕ Hp) :=
  if x2 < 234 then
    (w_gd (w_ix ((234 * x1) + x2) 3744) <|
    w_gd (w_ix ((234 * x1) + x2) 3744) <|
    w_let (w_up h 1093 (((234 * x1) + x2).toNatClampNeg) (h 1110 ((234 * x1) + x2).toNatClampNeg)) fun hz8 =>
    some (.inl ((x2 + 1), hz8)))
  else
    (some (.inr h))
theorem l_230_19_st {X : List Int32} {o : kO}  {h : Hp} {x1 : Int32} {x2 : Int32}  {r : (Int32 × Hp) ⊕ Hp} (hF : l_230_19 x1 x2 h = some r) (hK : ∀ s' : Int32 × Hp, r = .inl s' → k_Go X 11 230 (19, [.ref (1076 + 1), .int x1, .int (s'.1)], []) s'.2 o) (hX0 : ∀ e : Hp, r = .inr e → ∀ (u2 : Value), k_Go X 11 230 (40, [.ref (1076 + 1), .int x1, u2], []) e o) : k_Go X 11 230 (19, [.ref (1076 + 1), .int x1, .int x2], []) h o := by
  refine kg_iload hk_230 rfl rfl rfl ?_
  refine kg_push (x := 234) hk_230 rfl (by decide) rfl ?_
  refine wf_if hF (fun cz5 hF => ?_) (fun cz5 hF => ?_)
  · refine kg_icF hk_230 rfl (jc_F3 cz5) rfl ?_
    refine kg_aload hk_230 rfl rfl rfl ?_
    refine kg_get (v := .ref (1093 + 1)) hk_230 rfl wk_1076_17 rfl rfl ?_
    refine kg_push (x := 234) hk_230 rfl (by decide) rfl ?_
    refine kg_iload hk_230 rfl rfl rfl ?_
    refine kg_bin (z := (234 * x1)) hk_230 rfl rfl rfl ?_
    refine kg_iload hk_230 rfl rfl rfl ?_
    refine kg_bin (z := ((234 * x1) + x2)) hk_230 rfl rfl rfl ?_
    refine kg_aload hk_230 rfl rfl rfl ?_
    refine kg_get (v := .ref (1110 + 1)) hk_230 rfl wk_1076_43 rfl rfl ?_
    refine kg_push (x := 234) hk_230 rfl (by decide) rfl ?_
    refine kg_iload hk_230 rfl rfl rfl ?_
    refine kg_bin (z := (234 * x1)) hk_230 rfl rfl rfl ?_
    refine kg_iload hk_230 rfl rfl rfl ?_
    refine kg_bin (z := ((234 * x1) + x2)) hk_230 rfl rfl rfl ?_
    refine wf_gd hF (fun gz6 hF => ?_)
    refine kg_ald (y := (h 1110 ((234 * x1) + x2).toNatClampNeg)) hk_230 rfl wc_1110 gz6 rfl rfl ?_
    refine wf_gd hF (fun gz7 hF => ?_)
    refine wf_let hF (fun hz8 hhz8 hF => ?_)
    refine kg_ast hk_230 rfl wc_1093 gz7 hhz8 rfl ?_
    refine kg_iinc (y := (x2 + 1)) (L2 := [.ref (1076 + 1), .int x1, .int (x2 + 1)]) hk_230 rfl rfl rfl rfl rfl ?_
    refine kg_goto hk_230 rfl ?_
    have hF := Option.some.inj hF
    exact hK _ hF.symm
  · refine kg_icT hk_230 rfl (jc_T3 cz5) ?_
    have hF := Option.some.inj hF
    exact hX0 _ hF.symm _
theorem l_230_19_ok {X : List Int32} {o : kO}  {x1 : Int32}  {n : Nat} {s : Int32 × Hp} {e : Hp} (hF : w_lp (fun (s : Int32 × Hp) => l_230_19 x1 s.1 s.2) n s = some e) (hX0 : ∀ (u2 : Value), k_Go X 11 230 (40, [.ref (1076 + 1), .int x1, u2], []) e o) : k_Go X 11 230 (19, [.ref (1076 + 1), .int x1, .int s.1], []) s.2 o := by
  exact w_lp_ok (P := (fun (s : Int32 × Hp) => k_Go X 11 230 (19, [.ref (1076 + 1), .int x1, .int s.1], []) s.2 o)) (Q := (fun (e : Hp) => (∀ (u2 : Value), k_Go X 11 230 (40, [.ref (1076 + 1), .int x1, u2], []) e o))) (fun s r hF hK hX => l_230_19_st hF hK (fun x hx => (hX _ hx))) n s e hF hX0
def p_230 (h : Hp) (x1 : Int32) : Option (Int32 × Hp) :=
  if (((h 1076 46) >>> (x1 &&& 31)) &&& 1) = 0 then
    (q_230_11 h x1)
  else
    ((p_229 h x1).bind fun vz3 =>
    if vz3.1 = 0 then
      (q_230_11 vz3.2 x1)
    else
      ((w_lp (fun (s : Int32 × Hp) => l_230_19 x1 s.1 s.2) w_N (0, vz3.2)).bind fun ez9 =>
      (p_193 ez9 1111 (9 * x1) 1094 (9 * x1)).bind fun vz10 =>
      w_gd (w_ix x1 16) <|
      w_let (w_up vz10 1092 x1.toNatClampNeg 0) fun hz12 =>
      (p_217 hz12 x1 1).bind fun vz13 =>
      some (0, vz13)))
theorem p_230_ok {X : List Int32}  {h : Hp} {x1 : Int32}  {r : Int32 × Hp} (hF : p_230 h x1 = some r) : k_Ev X 11 230 [.ref (1076 + 1), .int x1] h (.inl (some (.int r.1)), r.2) := by
  refine k_of hk_230 ?_
  show k_Go X 11 230 (0, [.ref (1076 + 1), .int x1, (.retAddr 0)], []) h _
  unfold p_230 at hF
  refine kg_aload hk_230 rfl rfl rfl ?_
  refine kg_get (v := .int (h 1076 46)) hk_230 rfl wk_1076_46 rfl rfl ?_
  refine kg_iload hk_230 rfl rfl rfl ?_
  refine kg_bin (z := ((h 1076 46) >>> (x1 &&& 31))) hk_230 rfl rfl rfl ?_
  refine kg_push (x := 1) hk_230 rfl (by decide) rfl ?_
  refine kg_bin (z := (((h 1076 46) >>> (x1 &&& 31)) &&& 1)) hk_230 rfl rfl rfl ?_
  refine wf_if hF (fun cz1 hF => ?_) (fun cz1 hF => ?_)
  · refine kg_ifT hk_230 rfl (jc_T0 cz1) ?_
    exact q_230_11_ok hF _
  · refine kg_ifF hk_230 rfl (jc_F0 cz1) rfl ?_
    refine kg_aload hk_230 rfl rfl rfl ?_
    refine kg_iload hk_230 rfl rfl rfl ?_
    refine wf_bind hF (fun vz3 hvz3 hF => ?_)
    refine kg_call (as := [.ref (1076 + 1), .int x1]) (rest := []) hk_230 rfl (Or.inr (Or.inr (Or.inr ⟨Or.inl rfl, _, _, rfl, wc_1076⟩))) rfl rfl rfl (Nat.not_lt.mpr (Nat.le_of_ble_eq_true rfl)) (p_229_ok hvz3) (by decide) rfl ?_
    refine wf_if hF (fun cz4 hF => ?_) (fun cz4 hF => ?_)
    · refine kg_ifF hk_230 rfl (jc_F1 cz4) rfl ?_
      exact q_230_11_ok hF _
    · refine kg_ifT hk_230 rfl (jc_T1 cz4) ?_
      refine kg_push (x := 0) hk_230 rfl (by decide) rfl ?_
      refine kg_istore (L2 := [.ref (1076 + 1), .int x1, .int 0]) hk_230 rfl (Nat.le_of_ble_eq_true rfl) rfl rfl ?_
      refine wf_bind hF (fun ez9 hez9 hF => ?_)
      refine l_230_19_ok hez9 ?_
      intro u2
      refine kg_aload hk_230 rfl rfl rfl ?_
      refine kg_aload hk_230 rfl rfl rfl ?_
      refine kg_get (v := .ref (1111 + 1)) hk_230 rfl wk_1076_44 rfl rfl ?_
      refine kg_push (x := 9) hk_230 rfl (by decide) rfl ?_
      refine kg_iload hk_230 rfl rfl rfl ?_
      refine kg_bin (z := (9 * x1)) hk_230 rfl rfl rfl ?_
      refine kg_aload hk_230 rfl rfl rfl ?_
      refine kg_get (v := .ref (1094 + 1)) hk_230 rfl wk_1076_18 rfl rfl ?_
      refine kg_push (x := 9) hk_230 rfl (by decide) rfl ?_
      refine kg_iload hk_230 rfl rfl rfl ?_
      refine kg_bin (z := (9 * x1)) hk_230 rfl rfl rfl ?_
      refine wf_bind hF (fun vz10 hvz10 hF => ?_)
      refine kg_call (as := [.ref (1076 + 1), .ref (1111 + 1), .int (9 * x1), .ref (1094 + 1), .int (9 * x1)]) (rest := []) hk_230 rfl (Or.inr (Or.inr (Or.inr ⟨Or.inl rfl, _, _, rfl, wc_1076⟩))) rfl rfl rfl (Nat.not_lt.mpr (Nat.le_of_ble_eq_true rfl)) (p_193_ok (w_lenE wc_1111) (w_lenE wc_1094) hvz10) (by decide) rfl ?_
      refine kg_aload hk_230 rfl rfl rfl ?_
      refine kg_get (v := .ref (1092 + 1)) hk_230 rfl wk_1076_16 rfl rfl ?_
      refine kg_iload hk_230 rfl rfl rfl ?_
      refine kg_push (x := 0) hk_230 rfl (by decide) rfl ?_
      refine wf_gd hF (fun gz11 hF => ?_)
      refine wf_let hF (fun hz12 hhz12 hF => ?_)
      refine kg_ast hk_230 rfl wc_1092 gz11 hhz12 rfl ?_
      refine kg_aload hk_230 rfl rfl rfl ?_
      refine kg_iload hk_230 rfl rfl rfl ?_
      refine kg_push (x := 1) hk_230 rfl (by decide) rfl ?_
      refine wf_bind hF (fun vz13 hvz13 hF => ?_)
      refine kg_call (as := [.ref (1076 + 1), .int x1, .int 1]) (rest := []) hk_230 rfl (Or.inr (Or.inr (Or.inr ⟨Or.inl rfl, _, _, rfl, wc_1076⟩))) rfl rfl rfl (Nat.not_lt.mpr (Nat.le_of_ble_eq_true rfl)) (p_217_ok hvz13) (by decide) rfl ?_
      refine kg_push (x := 0) hk_230 rfl (by decide) rfl ?_
      have hF := Option.some.inj hF
      subst hF
      exact kg_iret hk_230 rfl (Or.inl rfl) rfl
-- NotebookWeirModel.restore()I
theorem hk_231 : jP[231]? = some (jc_231, 6, [], []) := by rfl
def l_231_30 (h : Hp) (x2 : Int32) (x4 : Int32) (x5 : Int32) : Option ((Int32 × Int32) ⊕ Int32) :=
  if x5 < 0 then
    (some (.inr x4))
  else
    (if ((x2 >>> (x5 &&& 31)) &&& 1) = 1 then
      (w_gd (w_ix x5 16) <|
      if (h 1122 x5.toNatClampNeg) < 3 then
        (w_gd (w_ix x5 16) <|
        (p_189 h (h 1120 x5.toNatClampNeg)).bind fun vz10 =>
        some (.inl ((if vz10 = 0 then x4 else x5 : Int32), (x5 + (-1)))))
      else
        (some (.inl (x4, (x5 + (-1))))))
    else
      (some (.inl (x4, (x5 + (-1))))))
theorem l_231_30_st {X : List Int32} {o : kO}  {h : Hp} {x1 : Int32} {x2 : Int32} {x4 : Int32} {x5 : Int32}  {r : (Int32 × Int32) ⊕ Int32} (hF : l_231_30 h x2 x4 x5 = some r) (hK : ∀ s' : Int32 × Int32, r = .inl s' → ∀ (u3 : Value), k_Go X 12 231 (30, [.ref (1076 + 1), .int x1, .int x2, u3, .int (s'.1), .int (s'.2)], []) h o) (hX0 : ∀ e : Int32, r = .inr e → ∀ (u3 : Value) (u5 : Value), k_Go X 12 231 (58, [.ref (1076 + 1), .int x1, .int x2, u3, .int e, u5], []) h o) : ∀ (u3 : Value), k_Go X 12 231 (30, [.ref (1076 + 1), .int x1, .int x2, u3, .int x4, .int x5], []) h o := by
  intro u3
  refine kg_iload hk_231 rfl rfl rfl ?_
  refine wf_if hF (fun cz5 hF => ?_) (fun cz5 hF => ?_)
  · refine kg_ifT hk_231 rfl (jc_T2 cz5) ?_
    have hF := Option.some.inj hF
    exact hX0 _ hF.symm _ _
  · refine kg_ifF hk_231 rfl (jc_F2 cz5) rfl ?_
    refine kg_iload hk_231 rfl rfl rfl ?_
    refine kg_iload hk_231 rfl rfl rfl ?_
    refine kg_bin (z := (x2 >>> (x5 &&& 31))) hk_231 rfl rfl rfl ?_
    refine kg_push (x := 1) hk_231 rfl (by decide) rfl ?_
    refine kg_bin (z := ((x2 >>> (x5 &&& 31)) &&& 1)) hk_231 rfl rfl rfl ?_
    refine kg_push (x := 1) hk_231 rfl (by decide) rfl ?_
    refine wf_if hF (fun cz6 hF => ?_) (fun cz6 hF => ?_)
    · refine kg_icF hk_231 rfl (jc_F1 cz6) rfl ?_
      refine kg_aload hk_231 rfl rfl rfl ?_
      refine kg_get (v := .ref (1122 + 1)) hk_231 rfl wk_1076_59 rfl rfl ?_
      refine kg_iload hk_231 rfl rfl rfl ?_
      refine wf_gd hF (fun gz7 hF => ?_)
      refine kg_ald (y := (h 1122 x5.toNatClampNeg)) hk_231 rfl wc_1122 gz7 rfl rfl ?_
      refine kg_push (x := 3) hk_231 rfl (by decide) rfl ?_
      refine wf_if hF (fun cz8 hF => ?_) (fun cz8 hF => ?_)
      · refine kg_icF hk_231 rfl (jc_F3 cz8) rfl ?_
        refine kg_aload hk_231 rfl rfl rfl ?_
        refine kg_aload hk_231 rfl rfl rfl ?_
        refine kg_get (v := .ref (1120 + 1)) hk_231 rfl wk_1076_57 rfl rfl ?_
        refine kg_iload hk_231 rfl rfl rfl ?_
        refine wf_gd hF (fun gz9 hF => ?_)
        refine kg_ald (y := (h 1120 x5.toNatClampNeg)) hk_231 rfl wc_1120 gz9 rfl rfl ?_
        refine wf_bind hF (fun vz10 hvz10 hF => ?_)
        refine kg_call (as := [.ref (1076 + 1), .int (h 1120 x5.toNatClampNeg)]) (rest := []) hk_231 rfl (Or.inr (Or.inr (Or.inr ⟨Or.inl rfl, _, _, rfl, wc_1076⟩))) rfl rfl rfl (Nat.not_lt.mpr (Nat.le_of_ble_eq_true rfl)) (p_189_ok hvz10) (by decide) rfl ?_
        refine kv_mid (p := 55) (L := [.ref (1076 + 1), .int x1, .int x2, u3, .int x4, .int x5]) (S := [.int (if vz10 = 0 then x4 else x5 : Int32)]) ?_ (fun hK => ?_)
        · refine kg_istore (L2 := [.ref (1076 + 1), .int x1, .int x2, u3, .int (if vz10 = 0 then x4 else x5 : Int32), .int x5]) hk_231 rfl (Nat.le_of_ble_eq_true rfl) rfl rfl ?_
          refine kg_iinc (y := (x5 + (-1))) (L2 := [.ref (1076 + 1), .int x1, .int x2, u3, .int (if vz10 = 0 then x4 else x5 : Int32), .int (x5 + (-1))]) hk_231 rfl rfl rfl rfl rfl ?_
          refine kg_goto hk_231 rfl ?_
          have hF := Option.some.inj hF
          exact hK _ hF.symm _
        · by_cases cz11 : vz10 = 0
          · have hK := kv_T cz11 hK
            refine kg_ifT hk_231 rfl (jc_T0 cz11) ?_
            refine kg_iload hk_231 rfl rfl rfl ?_
            exact hK
          · have hK := kv_F cz11 hK
            refine kg_ifF hk_231 rfl (jc_F0 cz11) rfl ?_
            refine kg_iload hk_231 rfl rfl rfl ?_
            refine kg_goto hk_231 rfl ?_
            exact hK
      · refine kg_icT hk_231 rfl (jc_T3 cz8) ?_
        refine kg_iload hk_231 rfl rfl rfl ?_
        refine kg_istore (L2 := [.ref (1076 + 1), .int x1, .int x2, u3, .int x4, .int x5]) hk_231 rfl (Nat.le_of_ble_eq_true rfl) rfl rfl ?_
        refine kg_iinc (y := (x5 + (-1))) (L2 := [.ref (1076 + 1), .int x1, .int x2, u3, .int x4, .int (x5 + (-1))]) hk_231 rfl rfl rfl rfl rfl ?_
        refine kg_goto hk_231 rfl ?_
        have hF := Option.some.inj hF
        exact hK _ hF.symm _
    · refine kg_icT hk_231 rfl (jc_T1 cz6) ?_
      refine kg_iload hk_231 rfl rfl rfl ?_
      refine kg_istore (L2 := [.ref (1076 + 1), .int x1, .int x2, u3, .int x4, .int x5]) hk_231 rfl (Nat.le_of_ble_eq_true rfl) rfl rfl ?_
      refine kg_iinc (y := (x5 + (-1))) (L2 := [.ref (1076 + 1), .int x1, .int x2, u3, .int x4, .int (x5 + (-1))]) hk_231 rfl rfl rfl rfl rfl ?_
      refine kg_goto hk_231 rfl ?_
      have hF := Option.some.inj hF
      exact hK _ hF.symm _
theorem l_231_30_ok {X : List Int32} {o : kO}  {h : Hp} {x1 : Int32} {x2 : Int32}  {n : Nat} {s : Int32 × Int32} {e : Int32} (hF : w_lp (fun (s : Int32 × Int32) => l_231_30 h x2 s.1 s.2) n s = some e) (hX0 : ∀ (u3 : Value) (u5 : Value), k_Go X 12 231 (58, [.ref (1076 + 1), .int x1, .int x2, u3, .int e, u5], []) h o) : ∀ (u3 : Value), k_Go X 12 231 (30, [.ref (1076 + 1), .int x1, .int x2, u3, .int s.1, .int s.2], []) h o := by
  exact w_lp_ok (P := (fun (s : Int32 × Int32) => ∀ (u3 : Value), k_Go X 12 231 (30, [.ref (1076 + 1), .int x1, .int x2, u3, .int s.1, .int s.2], []) h o)) (Q := (fun (e : Int32) => (∀ (u3 : Value) (u5 : Value), k_Go X 12 231 (58, [.ref (1076 + 1), .int x1, .int x2, u3, .int e, u5], []) h o))) (fun s r hF hK hX => l_231_30_st hF hK (fun x hx => (hX _ hx))) n s e hF hX0
def q_231_64 (h : Hp) (x1 : Int32) (x2 : Int32) (x4 : Int32) (s0 : Int32) : Option ((Int32 × Int32 × Int32 × Hp) ⊕ Int32 × Hp) :=
  if s0 = 0 then
    (some (.inl (x1, x2, s0, h)))
  else
    ((p_230 h x4).bind fun vz15 =>
    some (.inl ((x1 + vz15.1), (x2 &&& ((1 <<< (x4 &&& 31)) ^^^ (-1))), s0, vz15.2)))
theorem q_231_64_ok {X : List Int32} {o : kO}  {h : Hp} {s0 : Int32} {x1 : Int32} {x2 : Int32} {x4 : Int32}  {r : (Int32 × Int32 × Int32 × Hp) ⊕ Int32 × Hp} (hF : q_231_64 h x1 x2 x4 s0 = some r) (hK : ∀ s' : Int32 × Int32 × Int32 × Hp, r = .inl s' → ∀ (u4 : Value) (u5 : Value), k_Go X 12 231 (19, [.ref (1076 + 1), .int (s'.1), .int (s'.2.1), .int (s'.2.2.1), u4, u5], []) s'.2.2.2 o) (hX0 : ∀ e : Int32 × Hp, r = .inr e → ∀ (u2 : Value) (u3 : Value) (u4 : Value) (u5 : Value), k_Go X 12 231 (82, [.ref (1076 + 1), .int e.1, u2, u3, u4, u5], []) e.2 o) : ∀ (u3 : Value) (u5 : Value), k_Go X 12 231 (64, [.ref (1076 + 1), .int x1, .int x2, u3, .int x4, u5], [.int s0]) h o := by
  intro u3 u5
  unfold q_231_64 at hF
  refine kg_istore (L2 := [.ref (1076 + 1), .int x1, .int x2, .int s0, .int x4, u5]) hk_231 rfl (Nat.le_of_ble_eq_true rfl) rfl rfl ?_
  refine kg_iload hk_231 rfl rfl rfl ?_
  refine wf_if hF (fun cz14 hF => ?_) (fun cz14 hF => ?_)
  · refine kg_ifT hk_231 rfl (jc_T0 cz14) ?_
    refine kg_goto hk_231 rfl ?_
    have hF := Option.some.inj hF
    exact hK _ hF.symm _ _
  · refine kg_ifF hk_231 rfl (jc_F0 cz14) rfl ?_
    refine kg_iload hk_231 rfl rfl rfl ?_
    refine kg_push (x := 1) hk_231 rfl (by decide) rfl ?_
    refine kg_iload hk_231 rfl rfl rfl ?_
    refine kg_bin (z := (1 <<< (x4 &&& 31))) hk_231 rfl rfl rfl ?_
    refine kg_push (x := (-1)) hk_231 rfl (by decide) rfl ?_
    refine kg_bin (z := ((1 <<< (x4 &&& 31)) ^^^ (-1))) hk_231 rfl rfl rfl ?_
    refine kg_bin (z := (x2 &&& ((1 <<< (x4 &&& 31)) ^^^ (-1)))) hk_231 rfl rfl rfl ?_
    refine kg_istore (L2 := [.ref (1076 + 1), .int x1, .int (x2 &&& ((1 <<< (x4 &&& 31)) ^^^ (-1))), .int s0, .int x4, u5]) hk_231 rfl (Nat.le_of_ble_eq_true rfl) rfl rfl ?_
    refine kg_iload hk_231 rfl rfl rfl ?_
    refine kg_aload hk_231 rfl rfl rfl ?_
    refine kg_iload hk_231 rfl rfl rfl ?_
    refine wf_bind hF (fun vz15 hvz15 hF => ?_)
    refine kg_call (as := [.ref (1076 + 1), .int x4]) (rest := [.int x1]) hk_231 rfl (Or.inr (Or.inr (Or.inr ⟨Or.inl rfl, _, _, rfl, wc_1076⟩))) rfl rfl rfl (Nat.not_lt.mpr (Nat.le_of_ble_eq_true rfl)) (p_230_ok hvz15) (by decide) rfl ?_
    refine kg_bin (z := (x1 + vz15.1)) hk_231 rfl rfl rfl ?_
    refine kg_istore (L2 := [.ref (1076 + 1), .int (x1 + vz15.1), .int (x2 &&& ((1 <<< (x4 &&& 31)) ^^^ (-1))), .int s0, .int x4, u5]) hk_231 rfl (Nat.le_of_ble_eq_true rfl) rfl rfl ?_
    refine kg_goto hk_231 rfl ?_
    have hF := Option.some.inj hF
    exact hK _ hF.symm _ _
def l_231_19 (x1 : Int32) (x2 : Int32) (x3 : Int32) (h : Hp) : Option ((Int32 × Int32 × Int32 × Hp) ⊕ Int32 × Hp) :=
  if x3 = 0 then
    (some (.inr (x1, h)))
  else
    ((p_188 h).bind fun vz4 =>
    (w_lp (fun (s : Int32 × Int32) => l_231_30 vz4 x2 s.1 s.2) w_N ((-1), ((vz4 1076 2) - 1))).bind fun ez12 =>
    q_231_64 vz4 x1 x2 ez12 (if ez12 = (-1) then 0 else 1 : Int32))
theorem l_231_19_st {X : List Int32} {o : kO}  {h : Hp} {x1 : Int32} {x2 : Int32} {x3 : Int32}  {r : (Int32 × Int32 × Int32 × Hp) ⊕ Int32 × Hp} (hF : l_231_19 x1 x2 x3 h = some r) (hK : ∀ s' : Int32 × Int32 × Int32 × Hp, r = .inl s' → ∀ (u4 : Value) (u5 : Value), k_Go X 12 231 (19, [.ref (1076 + 1), .int (s'.1), .int (s'.2.1), .int (s'.2.2.1), u4, u5], []) s'.2.2.2 o) (hX0 : ∀ e : Int32 × Hp, r = .inr e → ∀ (u2 : Value) (u3 : Value) (u4 : Value) (u5 : Value), k_Go X 12 231 (82, [.ref (1076 + 1), .int e.1, u2, u3, u4, u5], []) e.2 o) : ∀ (u4 : Value) (u5 : Value), k_Go X 12 231 (19, [.ref (1076 + 1), .int x1, .int x2, .int x3, u4, u5], []) h o := by
  intro u4 u5
  refine kg_iload hk_231 rfl rfl rfl ?_
  refine wf_if hF (fun cz3 hF => ?_) (fun cz3 hF => ?_)
  · refine kg_ifT hk_231 rfl (jc_T0 cz3) ?_
    have hF := Option.some.inj hF
    exact hX0 _ hF.symm _ _ _ _
  · refine kg_ifF hk_231 rfl (jc_F0 cz3) rfl ?_
    refine kg_aload hk_231 rfl rfl rfl ?_
    refine wf_bind hF (fun vz4 hvz4 hF => ?_)
    refine kg_call (as := [.ref (1076 + 1)]) (rest := []) hk_231 rfl (Or.inr (Or.inr (Or.inr ⟨Or.inl rfl, _, _, rfl, wc_1076⟩))) rfl rfl rfl (Nat.not_lt.mpr (Nat.le_of_ble_eq_true rfl)) (p_188_ok hvz4) (by decide) rfl ?_
    refine kg_push (x := (-1)) hk_231 rfl (by decide) rfl ?_
    refine kg_istore (L2 := [.ref (1076 + 1), .int x1, .int x2, .int x3, .int (-1), u5]) hk_231 rfl (Nat.le_of_ble_eq_true rfl) rfl rfl ?_
    refine kg_aload hk_231 rfl rfl rfl ?_
    refine kg_get (v := .int (vz4 1076 2)) hk_231 rfl wk_1076_2 rfl rfl ?_
    refine kg_push (x := 1) hk_231 rfl (by decide) rfl ?_
    refine kg_bin (z := ((vz4 1076 2) - 1)) hk_231 rfl rfl rfl ?_
    refine kg_istore (L2 := [.ref (1076 + 1), .int x1, .int x2, .int x3, .int (-1), .int ((vz4 1076 2) - 1)]) hk_231 rfl (Nat.le_of_ble_eq_true rfl) rfl rfl ?_
    refine wf_bind hF (fun ez12 hez12 hF => ?_)
    refine l_231_30_ok hez12 ?_ _
    intro u3 u5
    refine kg_iload hk_231 rfl rfl rfl ?_
    refine kg_push (x := (-1)) hk_231 rfl (by decide) rfl ?_
    refine kv_mid (p := 64) (L := [.ref (1076 + 1), .int x1, .int x2, u3, .int ez12, u5]) (S := [.int (if ez12 = (-1) then 0 else 1 : Int32)]) ?_ (fun hK => ?_)
    · exact q_231_64_ok hF hK hX0 _ _
    · by_cases cz13 : ez12 = (-1)
      · have hK := kv_T cz13 hK
        refine kg_icT hk_231 rfl (jc_T0 cz13) ?_
        refine kg_push (x := 0) hk_231 rfl (by decide) rfl ?_
        exact hK
      · have hK := kv_F cz13 hK
        refine kg_icF hk_231 rfl (jc_F0 cz13) rfl ?_
        refine kg_push (x := 1) hk_231 rfl (by decide) rfl ?_
        refine kg_goto hk_231 rfl ?_
        exact hK
theorem l_231_19_ok {X : List Int32} {o : kO}    {n : Nat} {s : Int32 × Int32 × Int32 × Hp} {e : Int32 × Hp} (hF : w_lp (fun (s : Int32 × Int32 × Int32 × Hp) => l_231_19 s.1 s.2.1 s.2.2.1 s.2.2.2) n s = some e) (hX0 : ∀ (u2 : Value) (u3 : Value) (u4 : Value) (u5 : Value), k_Go X 12 231 (82, [.ref (1076 + 1), .int e.1, u2, u3, u4, u5], []) e.2 o) : ∀ (u4 : Value) (u5 : Value), k_Go X 12 231 (19, [.ref (1076 + 1), .int s.1, .int s.2.1, .int s.2.2.1, u4, u5], []) s.2.2.2 o := by
  exact w_lp_ok (P := (fun (s : Int32 × Int32 × Int32 × Hp) => ∀ (u4 : Value) (u5 : Value), k_Go X 12 231 (19, [.ref (1076 + 1), .int s.1, .int s.2.1, .int s.2.2.1, u4, u5], []) s.2.2.2 o)) (Q := (fun (e : Int32 × Hp) => (∀ (u2 : Value) (u3 : Value) (u4 : Value) (u5 : Value), k_Go X 12 231 (82, [.ref (1076 + 1), .int e.1, u2, u3, u4, u5], []) e.2 o))) (fun s r hF hK hX => l_231_19_st hF hK (fun x hx => (hX _ hx))) n s e hF hX0
def p_231 (h : Hp) : Option (Int32 × Hp) :=
  (p_146 h (h 1076 45) 1 1).bind fun vz1 =>
  if vz1.1 = 0 then
    (some (0, vz1.2))
  else
    ((w_lp (fun (s : Int32 × Int32 × Int32 × Hp) => l_231_19 s.1 s.2.1 s.2.2.1 s.2.2.2) w_N (0, ((vz1.2 1076 46) ||| (vz1.2 1076 47)), 1, vz1.2)).bind fun ez16 =>
    w_let (w_up ez16.2 1076 45 0) fun hz17 =>
    some (ez16.1, hz17))
theorem p_231_ok {X : List Int32}  {h : Hp}   {r : Int32 × Hp} (hF : p_231 h = some r) : k_Ev X 12 231 [.ref (1076 + 1)] h (.inl (some (.int r.1)), r.2) := by
  refine k_of hk_231 ?_
  show k_Go X 12 231 (0, [.ref (1076 + 1), (.retAddr 0), (.retAddr 0), (.retAddr 0), (.retAddr 0), (.retAddr 0)], []) h _
  unfold p_231 at hF
  refine kg_aload hk_231 rfl rfl rfl ?_
  refine kg_aload hk_231 rfl rfl rfl ?_
  refine kg_get (v := .int (h 1076 45)) hk_231 rfl wk_1076_45 rfl rfl ?_
  refine kg_push (x := 1) hk_231 rfl (by decide) rfl ?_
  refine kg_push (x := 1) hk_231 rfl (by decide) rfl ?_
  refine wf_bind hF (fun vz1 hvz1 hF => ?_)
  refine kg_call (as := [.ref (1076 + 1), .int (h 1076 45), .int 1, .int 1]) (rest := []) hk_231 rfl (Or.inr (Or.inr (Or.inr ⟨Or.inl rfl, _, _, rfl, wc_1076⟩))) rfl rfl rfl (Nat.not_lt.mpr (Nat.le_of_ble_eq_true rfl)) (p_146_ok hvz1) (by decide) rfl ?_
  refine wf_if hF (fun cz2 hF => ?_) (fun cz2 hF => ?_)
  · refine kg_ifF hk_231 rfl (jc_F1 cz2) rfl ?_
    refine kg_push (x := 0) hk_231 rfl (by decide) rfl ?_
    have hF := Option.some.inj hF
    subst hF
    exact kg_iret hk_231 rfl (Or.inl rfl) rfl
  · refine kg_ifT hk_231 rfl (jc_T1 cz2) ?_
    refine kg_push (x := 0) hk_231 rfl (by decide) rfl ?_
    refine kg_istore (L2 := [.ref (1076 + 1), .int 0, (.retAddr 0), (.retAddr 0), (.retAddr 0), (.retAddr 0)]) hk_231 rfl (Nat.le_of_ble_eq_true rfl) rfl rfl ?_
    refine kg_aload hk_231 rfl rfl rfl ?_
    refine kg_get (v := .int (vz1.2 1076 46)) hk_231 rfl wk_1076_46 rfl rfl ?_
    refine kg_aload hk_231 rfl rfl rfl ?_
    refine kg_get (v := .int (vz1.2 1076 47)) hk_231 rfl wk_1076_47 rfl rfl ?_
    refine kg_bin (z := ((vz1.2 1076 46) ||| (vz1.2 1076 47))) hk_231 rfl rfl rfl ?_
    refine kg_istore (L2 := [.ref (1076 + 1), .int 0, .int ((vz1.2 1076 46) ||| (vz1.2 1076 47)), (.retAddr 0), (.retAddr 0), (.retAddr 0)]) hk_231 rfl (Nat.le_of_ble_eq_true rfl) rfl rfl ?_
    refine kg_push (x := 1) hk_231 rfl (by decide) rfl ?_
    refine kg_istore (L2 := [.ref (1076 + 1), .int 0, .int ((vz1.2 1076 46) ||| (vz1.2 1076 47)), .int 1, (.retAddr 0), (.retAddr 0)]) hk_231 rfl (Nat.le_of_ble_eq_true rfl) rfl rfl ?_
    refine wf_bind hF (fun ez16 hez16 hF => ?_)
    refine l_231_19_ok hez16 ?_ _ _
    intro u2 u3 u4 u5
    refine kg_aload hk_231 rfl rfl rfl ?_
    refine kg_push (x := 0) hk_231 rfl (by decide) rfl ?_
    refine wf_let hF (fun hz17 hhz17 hF => ?_)
    refine kg_put hk_231 rfl wk_1076_45 rfl (w_fitB rfl) hhz17 rfl ?_
    refine kg_iload hk_231 rfl rfl rfl ?_
    have hF := Option.some.inj hF
    subst hF
    exact kg_iret hk_231 rfl (Or.inl rfl) rfl
-- NotebookWeirModel.state(I)I
theorem hk_232 : jP[232]? = some (jc_232, 2, [], []) := by rfl
def p_232 (h : Hp) (x1 : Int32) : Option (Int32 × Hp) :=
  (p_146 h (v_167 h x1) 1 1).bind fun vz1 =>
  if vz1.1 = 0 then
    (some (0, vz1.2))
  else
    ((p_188 vz1.2).bind fun vz3 =>
    w_gd (w_ix x1 16) <|
    some ((vz3 1122 x1.toNatClampNeg), vz3))
theorem p_232_ok {X : List Int32}  {h : Hp} {x1 : Int32}  {r : Int32 × Hp} (hF : p_232 h x1 = some r) : k_Ev X 7 232 [.ref (1076 + 1), .int x1] h (.inl (some (.int r.1)), r.2) := by
  refine k_of hk_232 ?_
  show k_Go X 7 232 (0, [.ref (1076 + 1), .int x1], []) h _
  unfold p_232 at hF
  refine kg_aload hk_232 rfl rfl rfl ?_
  refine kg_aload hk_232 rfl rfl rfl ?_
  refine kg_iload hk_232 rfl rfl rfl ?_
  refine kg_call (as := [.ref (1076 + 1), .int x1]) (rest := [.ref (1076 + 1)]) hk_232 rfl (Or.inr (Or.inr (Or.inr ⟨Or.inl rfl, _, _, rfl, wc_1076⟩))) rfl rfl rfl (Nat.not_lt.mpr (Nat.le_of_ble_eq_true rfl)) (v_167_ok) (by decide) rfl ?_
  refine kg_push (x := 1) hk_232 rfl (by decide) rfl ?_
  refine kg_push (x := 1) hk_232 rfl (by decide) rfl ?_
  refine wf_bind hF (fun vz1 hvz1 hF => ?_)
  refine kg_call (as := [.ref (1076 + 1), .int (v_167 h x1), .int 1, .int 1]) (rest := []) hk_232 rfl (Or.inr (Or.inr (Or.inr ⟨Or.inl rfl, _, _, rfl, wc_1076⟩))) rfl rfl rfl (Nat.not_lt.mpr (Nat.le_of_ble_eq_true rfl)) (p_146_ok hvz1) (by decide) rfl ?_
  refine wf_if hF (fun cz2 hF => ?_) (fun cz2 hF => ?_)
  · refine kg_ifF hk_232 rfl (jc_F1 cz2) rfl ?_
    refine kg_push (x := 0) hk_232 rfl (by decide) rfl ?_
    have hF := Option.some.inj hF
    subst hF
    exact kg_iret hk_232 rfl (Or.inl rfl) rfl
  · refine kg_ifT hk_232 rfl (jc_T1 cz2) ?_
    refine kg_aload hk_232 rfl rfl rfl ?_
    refine wf_bind hF (fun vz3 hvz3 hF => ?_)
    refine kg_call (as := [.ref (1076 + 1)]) (rest := []) hk_232 rfl (Or.inr (Or.inr (Or.inr ⟨Or.inl rfl, _, _, rfl, wc_1076⟩))) rfl rfl rfl (Nat.not_lt.mpr (Nat.le_of_ble_eq_true rfl)) (p_188_ok hvz3) (by decide) rfl ?_
    refine kg_aload hk_232 rfl rfl rfl ?_
    refine kg_get (v := .ref (1122 + 1)) hk_232 rfl wk_1076_59 rfl rfl ?_
    refine kg_iload hk_232 rfl rfl rfl ?_
    refine wf_gd hF (fun gz4 hF => ?_)
    refine kg_ald (y := (vz3 1122 x1.toNatClampNeg)) hk_232 rfl wc_1122 gz4 rfl rfl ?_
    have hF := Option.some.inj hF
    subst hF
    exact kg_iret hk_232 rfl (Or.inl rfl) rfl
-- NotebookWeirModel.needs(I)I
theorem hk_233 : jP[233]? = some (jc_233, 2, [], []) := by rfl
def p_233 (h : Hp) (x1 : Int32) : Option (Int32 × Hp) :=
  (p_146 h (v_167 h x1) 1 1).bind fun vz1 =>
  if vz1.1 = 0 then
    (some (0, vz1.2))
  else
    ((p_183 vz1.2 x1).bind fun vz3 =>
    some (vz3, vz1.2))
theorem p_233_ok {X : List Int32}  {h : Hp} {x1 : Int32}  {r : Int32 × Hp} (hF : p_233 h x1 = some r) : k_Ev X 5 233 [.ref (1076 + 1), .int x1] h (.inl (some (.int r.1)), r.2) := by
  refine k_of hk_233 ?_
  show k_Go X 5 233 (0, [.ref (1076 + 1), .int x1], []) h _
  unfold p_233 at hF
  refine kg_aload hk_233 rfl rfl rfl ?_
  refine kg_aload hk_233 rfl rfl rfl ?_
  refine kg_iload hk_233 rfl rfl rfl ?_
  refine kg_call (as := [.ref (1076 + 1), .int x1]) (rest := [.ref (1076 + 1)]) hk_233 rfl (Or.inr (Or.inr (Or.inr ⟨Or.inl rfl, _, _, rfl, wc_1076⟩))) rfl rfl rfl (Nat.not_lt.mpr (Nat.le_of_ble_eq_true rfl)) (v_167_ok) (by decide) rfl ?_
  refine kg_push (x := 1) hk_233 rfl (by decide) rfl ?_
  refine kg_push (x := 1) hk_233 rfl (by decide) rfl ?_
  refine wf_bind hF (fun vz1 hvz1 hF => ?_)
  refine kg_call (as := [.ref (1076 + 1), .int (v_167 h x1), .int 1, .int 1]) (rest := []) hk_233 rfl (Or.inr (Or.inr (Or.inr ⟨Or.inl rfl, _, _, rfl, wc_1076⟩))) rfl rfl rfl (Nat.not_lt.mpr (Nat.le_of_ble_eq_true rfl)) (p_146_ok hvz1) (by decide) rfl ?_
  refine wf_if hF (fun cz2 hF => ?_) (fun cz2 hF => ?_)
  · refine kg_ifT hk_233 rfl (jc_T0 cz2) ?_
    refine kg_push (x := 0) hk_233 rfl (by decide) rfl ?_
    have hF := Option.some.inj hF
    subst hF
    exact kg_iret hk_233 rfl (Or.inl rfl) rfl
  · refine kg_ifF hk_233 rfl (jc_F0 cz2) rfl ?_
    refine kg_aload hk_233 rfl rfl rfl ?_
    refine kg_iload hk_233 rfl rfl rfl ?_
    refine wf_bind hF (fun vz3 hvz3 hF => ?_)
    refine kg_call (as := [.ref (1076 + 1), .int x1]) (rest := []) hk_233 rfl (Or.inr (Or.inr (Or.inr ⟨Or.inl rfl, _, _, rfl, wc_1076⟩))) rfl rfl rfl (Nat.not_lt.mpr (Nat.le_of_ble_eq_true rfl)) (p_183_ok hvz3) (by decide) rfl ?_
    refine kg_goto hk_233 rfl ?_
    have hF := Option.some.inj hF
    subst hF
    exact kg_iret hk_233 rfl (Or.inl rfl) rfl
-- NotebookWeirModel.ring(I)I
theorem hk_234 : jP[234]? = some (jc_234, 2, [], []) := by rfl
def p_234 (h : Hp) (x1 : Int32) : Option (Int32 × Hp) :=
  (p_146 h (v_167 h x1) 1 1).bind fun vz1 =>
  if vz1.1 = 0 then
    (some (0, vz1.2))
  else
    ((p_185 vz1.2).bind fun vz3 =>
    (p_186 vz3 x1).bind fun vz4 =>
    some (vz4, vz3))
theorem p_234_ok {X : List Int32}  {h : Hp} {x1 : Int32}  {r : Int32 × Hp} (hF : p_234 h x1 = some r) : k_Ev X 6 234 [.ref (1076 + 1), .int x1] h (.inl (some (.int r.1)), r.2) := by
  refine k_of hk_234 ?_
  show k_Go X 6 234 (0, [.ref (1076 + 1), .int x1], []) h _
  unfold p_234 at hF
  refine kg_aload hk_234 rfl rfl rfl ?_
  refine kg_aload hk_234 rfl rfl rfl ?_
  refine kg_iload hk_234 rfl rfl rfl ?_
  refine kg_call (as := [.ref (1076 + 1), .int x1]) (rest := [.ref (1076 + 1)]) hk_234 rfl (Or.inr (Or.inr (Or.inr ⟨Or.inl rfl, _, _, rfl, wc_1076⟩))) rfl rfl rfl (Nat.not_lt.mpr (Nat.le_of_ble_eq_true rfl)) (v_167_ok) (by decide) rfl ?_
  refine kg_push (x := 1) hk_234 rfl (by decide) rfl ?_
  refine kg_push (x := 1) hk_234 rfl (by decide) rfl ?_
  refine wf_bind hF (fun vz1 hvz1 hF => ?_)
  refine kg_call (as := [.ref (1076 + 1), .int (v_167 h x1), .int 1, .int 1]) (rest := []) hk_234 rfl (Or.inr (Or.inr (Or.inr ⟨Or.inl rfl, _, _, rfl, wc_1076⟩))) rfl rfl rfl (Nat.not_lt.mpr (Nat.le_of_ble_eq_true rfl)) (p_146_ok hvz1) (by decide) rfl ?_
  refine wf_if hF (fun cz2 hF => ?_) (fun cz2 hF => ?_)
  · refine kg_ifF hk_234 rfl (jc_F1 cz2) rfl ?_
    refine kg_push (x := 0) hk_234 rfl (by decide) rfl ?_
    have hF := Option.some.inj hF
    subst hF
    exact kg_iret hk_234 rfl (Or.inl rfl) rfl
  · refine kg_ifT hk_234 rfl (jc_T1 cz2) ?_
    refine kg_aload hk_234 rfl rfl rfl ?_
    refine wf_bind hF (fun vz3 hvz3 hF => ?_)
    refine kg_call (as := [.ref (1076 + 1)]) (rest := []) hk_234 rfl (Or.inr (Or.inr (Or.inr ⟨Or.inl rfl, _, _, rfl, wc_1076⟩))) rfl rfl rfl (Nat.not_lt.mpr (Nat.le_of_ble_eq_true rfl)) (p_185_ok hvz3) (by decide) rfl ?_
    refine kg_aload hk_234 rfl rfl rfl ?_
    refine kg_iload hk_234 rfl rfl rfl ?_
    refine wf_bind hF (fun vz4 hvz4 hF => ?_)
    refine kg_call (as := [.ref (1076 + 1), .int x1]) (rest := []) hk_234 rfl (Or.inr (Or.inr (Or.inr ⟨Or.inl rfl, _, _, rfl, wc_1076⟩))) rfl rfl rfl (Nat.not_lt.mpr (Nat.le_of_ble_eq_true rfl)) (p_186_ok hvz4) (by decide) rfl ?_
    have hF := Option.some.inj hF
    subst hF
    exact kg_iret hk_234 rfl (Or.inl rfl) rfl
-- NotebookWeirModel.asks(I)V
theorem hk_235 : jP[235]? = some (jc_235, 2, [], []) := by rfl
def p_235 (h : Hp) (x1 : Int32) : Option (Hp) :=
  (p_188 h).bind fun vz1 =>
  if (vz1 1076 22) = 1 then
    (w_gd (w_ix x1 16) <|
    if (vz1 1122 x1.toNatClampNeg) = 1 then
      ((p_225 vz1 x1).bind fun vz5 =>
      (p_188 vz5.2).bind fun vz6 =>
      some vz6)
    else
      (some vz1))
  else
    (some vz1)
theorem p_235_ok {X : List Int32}  {h : Hp} {x1 : Int32}  {r : Hp} (hF : p_235 h x1 = some r) : k_Ev X 14 235 [.ref (1076 + 1), .int x1] h (.inl none, r) := by
  refine k_of hk_235 ?_
  show k_Go X 14 235 (0, [.ref (1076 + 1), .int x1], []) h _
  unfold p_235 at hF
  refine kg_aload hk_235 rfl rfl rfl ?_
  refine wf_bind hF (fun vz1 hvz1 hF => ?_)
  refine kg_call (as := [.ref (1076 + 1)]) (rest := []) hk_235 rfl (Or.inr (Or.inr (Or.inr ⟨Or.inl rfl, _, _, rfl, wc_1076⟩))) rfl rfl rfl (Nat.not_lt.mpr (Nat.le_of_ble_eq_true rfl)) (p_188_ok hvz1) (by decide) rfl ?_
  refine kg_aload hk_235 rfl rfl rfl ?_
  refine kg_get (v := .int (vz1 1076 22)) hk_235 rfl wk_1076_22 rfl rfl ?_
  refine kg_push (x := 1) hk_235 rfl (by decide) rfl ?_
  refine wf_if hF (fun cz2 hF => ?_) (fun cz2 hF => ?_)
  · refine kg_icF hk_235 rfl (jc_F1 cz2) rfl ?_
    refine kg_aload hk_235 rfl rfl rfl ?_
    refine kg_get (v := .ref (1122 + 1)) hk_235 rfl wk_1076_59 rfl rfl ?_
    refine kg_iload hk_235 rfl rfl rfl ?_
    refine wf_gd hF (fun gz3 hF => ?_)
    refine kg_ald (y := (vz1 1122 x1.toNatClampNeg)) hk_235 rfl wc_1122 gz3 rfl rfl ?_
    refine kg_push (x := 1) hk_235 rfl (by decide) rfl ?_
    refine wf_if hF (fun cz4 hF => ?_) (fun cz4 hF => ?_)
    · refine kg_icF hk_235 rfl (jc_F1 cz4) rfl ?_
      refine kg_aload hk_235 rfl rfl rfl ?_
      refine kg_iload hk_235 rfl rfl rfl ?_
      refine wf_bind hF (fun vz5 hvz5 hF => ?_)
      refine kg_call (as := [.ref (1076 + 1), .int x1]) (rest := []) hk_235 rfl (Or.inr (Or.inr (Or.inr ⟨Or.inl rfl, _, _, rfl, wc_1076⟩))) rfl rfl rfl (Nat.not_lt.mpr (Nat.le_of_ble_eq_true rfl)) (p_225_ok hvz5) (by decide) rfl ?_
      refine kg_pop hk_235 rfl rfl rfl ?_
      refine kg_aload hk_235 rfl rfl rfl ?_
      refine wf_bind hF (fun vz6 hvz6 hF => ?_)
      refine kg_call (as := [.ref (1076 + 1)]) (rest := []) hk_235 rfl (Or.inr (Or.inr (Or.inr ⟨Or.inl rfl, _, _, rfl, wc_1076⟩))) rfl rfl rfl (Nat.not_lt.mpr (Nat.le_of_ble_eq_true rfl)) (p_188_ok hvz6) (by decide) rfl ?_
      have hF := Option.some.inj hF
      subst hF
      exact kg_ret hk_235 rfl rfl
    · refine kg_icT hk_235 rfl (jc_T1 cz4) ?_
      have hF := Option.some.inj hF
      subst hF
      exact kg_ret hk_235 rfl rfl
  · refine kg_icT hk_235 rfl (jc_T1 cz2) ?_
    have hF := Option.some.inj hF
    subst hF
    exact kg_ret hk_235 rfl rfl
-- NotebookWeirModel.hasItem([III)Z
theorem hk_236 : jP[236]? = some (jc_236, 3, [], []) := by rfl
def v_236 (h : Hp) (q0 : Nat) (x1 : Int32) (x2 : Int32) : Int32 := (if x2 = (-1) then (if (h q0 x1.toNatClampNeg) = (-2) then 0 else 1 : Int32) else (if x2 < 0 then 0 else (if x2 < (h q0 x1.toNatClampNeg) then 1 else 0 : Int32) : Int32) : Int32)
def g_236 (q0 : Nat) (x1 : Int32) (x2 : Int32) : Bool := (if x2 = (-1) then w_ix x1 (w_len q0) else (if x2 < 0 then true else w_ix x1 (w_len q0)))
theorem v_236_bo (h : Hp) (q0 : Nat) (x1 : Int32) (x2 : Int32) : w_bo (v_236 h q0 x1 x2) = true := by
  unfold v_236
  exact (w_boi (w_boi rfl rfl) (w_boi rfl (w_boi rfl rfl)))
theorem v_236_ok {X : List Int32} {h : Hp} {q0 : Nat} {x1 : Int32} {x2 : Int32} (t0 : w_tab[q0]? = some (50, w_len q0, [])) (hg : g_236 q0 x1 x2 = true) : k_Ev X 0 236 [.ref (q0 + 1), .int x1, .int x2] h (.inl (some (.int (v_236 h q0 x1 x2))), h) := by
  refine k_of hk_236 ?_
  show k_Go X 0 236 (0, [.ref (q0 + 1), .int x1, .int x2], []) h _
  generalize hv : v_236 h q0 x1 x2 = z
  unfold v_236 at hv
  unfold g_236 at hg
  have gz7 := hg
  refine kg_iload hk_236 rfl rfl rfl ?_
  refine kg_push (x := (-1)) hk_236 rfl (by decide) rfl ?_
  refine kv_mid (p := 22) (L := [.ref (q0 + 1), .int x1, .int x2]) (S := [.int (if x2 = (-1) then (if (h q0 x1.toNatClampNeg) = (-2) then 0 else 1 : Int32) else (if x2 < 0 then 0 else (if x2 < (h q0 x1.toNatClampNeg) then 1 else 0 : Int32) : Int32) : Int32)]) ?_ (fun hK => ?_)
  · exact kg_iret hk_236 rfl (Or.inr (w_boi (w_boi rfl rfl) (w_boi rfl (w_boi rfl rfl)))) (by rw [hv])
  · have hg := gz7
    by_cases cz1 : x2 = (-1)
    · have hg := wv_T cz1 hg
      have hK := kv_T cz1 hK
      have gz2 := hg
      refine kg_icF hk_236 rfl (jc_F1 cz1) rfl ?_
      refine kg_aload hk_236 rfl rfl rfl ?_
      refine kg_iload hk_236 rfl rfl rfl ?_
      refine kg_ald (y := (h q0 x1.toNatClampNeg)) hk_236 rfl t0 gz2 rfl rfl ?_
      refine kg_push (x := (-2)) hk_236 rfl (by decide) rfl ?_
      by_cases cz3 : (h q0 x1.toNatClampNeg) = (-2)
      · have hK := kv_T cz3 hK
        refine kg_icT hk_236 rfl (jc_T0 cz3) ?_
        refine kg_push (x := 0) hk_236 rfl (by decide) rfl ?_
        refine kg_goto hk_236 rfl ?_
        exact hK
      · have hK := kv_F cz3 hK
        refine kg_icF hk_236 rfl (jc_F0 cz3) rfl ?_
        refine kg_push (x := 1) hk_236 rfl (by decide) rfl ?_
        refine kg_goto hk_236 rfl ?_
        exact hK
    · have hg := wv_F cz1 hg
      have hK := kv_F cz1 hK
      refine kg_icT hk_236 rfl (jc_T1 cz1) ?_
      refine kg_iload hk_236 rfl rfl rfl ?_
      by_cases cz4 : x2 < 0
      · have hK := kv_T cz4 hK
        refine kg_ifT hk_236 rfl (jc_T2 cz4) ?_
        refine kg_push (x := 0) hk_236 rfl (by decide) rfl ?_
        exact hK
      · have hg := wv_F cz4 hg
        have hK := kv_F cz4 hK
        have gz5 := hg
        refine kg_ifF hk_236 rfl (jc_F2 cz4) rfl ?_
        refine kg_iload hk_236 rfl rfl rfl ?_
        refine kg_aload hk_236 rfl rfl rfl ?_
        refine kg_iload hk_236 rfl rfl rfl ?_
        refine kg_ald (y := (h q0 x1.toNatClampNeg)) hk_236 rfl t0 gz5 rfl rfl ?_
        by_cases cz6 : x2 < (h q0 x1.toNatClampNeg)
        · have hK := kv_T cz6 hK
          refine kg_icF hk_236 rfl (jc_F3 cz6) rfl ?_
          refine kg_push (x := 1) hk_236 rfl (by decide) rfl ?_
          refine kg_goto hk_236 rfl ?_
          exact hK
        · have hK := kv_F cz6 hK
          refine kg_icT hk_236 rfl (jc_T3 cz6) ?_
          refine kg_push (x := 0) hk_236 rfl (by decide) rfl ?_
          exact hK
-- NotebookWeirModel.itemOf([III)I
theorem hk_237 : jP[237]? = some (jc_237, 3, [], []) := by rfl
def v_237 (h : Hp) (q0 : Nat) (x1 : Int32) (x2 : Int32) : Int32 := (if x2 < 0 then (if (h q0 x1.toNatClampNeg) = (-1) then (h q0 (x1 + 1).toNatClampNeg) else (h q0 x1.toNatClampNeg) : Int32) else (h q0 ((x1 + 1) + x2).toNatClampNeg) : Int32)
def g_237 (h : Hp) (q0 : Nat) (x1 : Int32) (x2 : Int32) : Bool := (if x2 < 0 then (w_ix x1 (w_len q0)) && ((if (h q0 x1.toNatClampNeg) = (-1) then w_ix (x1 + 1) (w_len q0) else w_ix x1 (w_len q0))) else w_ix ((x1 + 1) + x2) (w_len q0))
theorem v_237_ok {X : List Int32} {h : Hp} {q0 : Nat} {x1 : Int32} {x2 : Int32} (t0 : w_tab[q0]? = some (50, w_len q0, [])) (hg : g_237 h q0 x1 x2 = true) : k_Ev X 0 237 [.ref (q0 + 1), .int x1, .int x2] h (.inl (some (.int (v_237 h q0 x1 x2))), h) := by
  refine k_of hk_237 ?_
  show k_Go X 0 237 (0, [.ref (q0 + 1), .int x1, .int x2], []) h _
  generalize hv : v_237 h q0 x1 x2 = z
  unfold v_237 at hv
  unfold g_237 at hg
  have gz7 := hg
  refine kg_iload hk_237 rfl rfl rfl ?_
  refine kv_mid (p := 24) (L := [.ref (q0 + 1), .int x1, .int x2]) (S := [.int (if x2 < 0 then (if (h q0 x1.toNatClampNeg) = (-1) then (h q0 (x1 + 1).toNatClampNeg) else (h q0 x1.toNatClampNeg) : Int32) else (h q0 ((x1 + 1) + x2).toNatClampNeg) : Int32)]) ?_ (fun hK => ?_)
  · exact kg_iret hk_237 rfl (Or.inl rfl) (by rw [hv])
  · have hg := gz7
    by_cases cz1 : x2 < 0
    · have hg := wv_T cz1 hg
      have hK := kv_T cz1 hK
      have gz2 := wb_1 hg
      have hg := wb_2 hg
      refine kg_ifT hk_237 rfl (jc_T2 cz1) ?_
      refine kg_aload hk_237 rfl rfl rfl ?_
      refine kg_iload hk_237 rfl rfl rfl ?_
      refine kg_ald (y := (h q0 x1.toNatClampNeg)) hk_237 rfl t0 gz2 rfl rfl ?_
      refine kg_push (x := (-1)) hk_237 rfl (by decide) rfl ?_
      by_cases cz3 : (h q0 x1.toNatClampNeg) = (-1)
      · have hg := wv_T cz3 hg
        have hK := kv_T cz3 hK
        have gz4 := hg
        refine kg_icF hk_237 rfl (jc_F1 cz3) rfl ?_
        refine kg_aload hk_237 rfl rfl rfl ?_
        refine kg_iload hk_237 rfl rfl rfl ?_
        refine kg_push (x := 1) hk_237 rfl (by decide) rfl ?_
        refine kg_bin (z := (x1 + 1)) hk_237 rfl rfl rfl ?_
        refine kg_ald (y := (h q0 (x1 + 1).toNatClampNeg)) hk_237 rfl t0 gz4 rfl rfl ?_
        refine kg_goto hk_237 rfl ?_
        exact hK
      · have hg := wv_F cz3 hg
        have hK := kv_F cz3 hK
        have gz5 := hg
        refine kg_icT hk_237 rfl (jc_T1 cz3) ?_
        refine kg_aload hk_237 rfl rfl rfl ?_
        refine kg_iload hk_237 rfl rfl rfl ?_
        refine kg_ald (y := (h q0 x1.toNatClampNeg)) hk_237 rfl t0 gz5 rfl rfl ?_
        exact hK
    · have hg := wv_F cz1 hg
      have hK := kv_F cz1 hK
      have gz6 := hg
      refine kg_ifF hk_237 rfl (jc_F2 cz1) rfl ?_
      refine kg_aload hk_237 rfl rfl rfl ?_
      refine kg_iload hk_237 rfl rfl rfl ?_
      refine kg_push (x := 1) hk_237 rfl (by decide) rfl ?_
      refine kg_bin (z := (x1 + 1)) hk_237 rfl rfl rfl ?_
      refine kg_iload hk_237 rfl rfl rfl ?_
      refine kg_bin (z := ((x1 + 1) + x2)) hk_237 rfl rfl rfl ?_
      refine kg_ald (y := (h q0 ((x1 + 1) + x2).toNatClampNeg)) hk_237 rfl t0 gz6 rfl rfl ?_
      refine kg_goto hk_237 rfl ?_
      exact hK
-- NotebookWeirModel.result(II)I
theorem hk_238 : jP[238]? = some (jc_238, 5, [], []) := by rfl
def q_238_27 (h : Hp) (x1 : Int32) (x2 : Int32) (x3 : Int32) (s0 : Int32) : Option (Int32 × Hp) :=
  (p_146 h x3 s0 1).bind fun vz8 =>
  w_gd ((if vz8.1 = 0 then true else g_237 vz8.2 1094 (9 * x1) x2)) <|
  some ((if vz8.1 = 0 then 0 else (v_237 vz8.2 1094 (9 * x1) x2) : Int32), vz8.2)
theorem q_238_27_ok {X : List Int32}   {h : Hp} {s0 : Int32} {x1 : Int32} {x2 : Int32} {x3 : Int32}  {r : Int32 × Hp} (hF : q_238_27 h x1 x2 x3 s0 = some r)  : ∀ (u4 : Value), k_Go X 15 238 (27, [.ref (1076 + 1), .int x1, .int x2, .int x3, u4], [.int s0]) h (.inl (some (.int r.1)), r.2) := by
  intro u4
  unfold q_238_27 at hF
  refine kg_istore (L2 := [.ref (1076 + 1), .int x1, .int x2, .int x3, .int s0]) hk_238 rfl (Nat.le_of_ble_eq_true rfl) rfl rfl ?_
  refine kg_aload hk_238 rfl rfl rfl ?_
  refine kg_iload hk_238 rfl rfl rfl ?_
  refine kg_iload hk_238 rfl rfl rfl ?_
  refine kg_push (x := 1) hk_238 rfl (by decide) rfl ?_
  refine wf_bind hF (fun vz8 hvz8 hF => ?_)
  refine kg_call (as := [.ref (1076 + 1), .int x3, .int s0, .int 1]) (rest := []) hk_238 rfl (Or.inr (Or.inr (Or.inr ⟨Or.inl rfl, _, _, rfl, wc_1076⟩))) rfl rfl rfl (Nat.not_lt.mpr (Nat.le_of_ble_eq_true rfl)) (p_146_ok hvz8) (by decide) rfl ?_
  refine wf_gd hF (fun gz11 hF => ?_)
  refine kv_mid (p := 43) (L := [.ref (1076 + 1), .int x1, .int x2, .int x3, .int s0]) (S := [.int (if vz8.1 = 0 then 0 else (v_237 vz8.2 1094 (9 * x1) x2) : Int32)]) ?_ (fun hK => ?_)
  · have hF := Option.some.inj hF
    subst hF
    exact kg_iret hk_238 rfl (Or.inl rfl) rfl
  · have hg := gz11
    by_cases cz9 : vz8.1 = 0
    · have hK := kv_T cz9 hK
      refine kg_ifT hk_238 rfl (jc_T0 cz9) ?_
      refine kg_push (x := 0) hk_238 rfl (by decide) rfl ?_
      exact hK
    · have hg := wv_F cz9 hg
      have hK := kv_F cz9 hK
      have gz10 := hg
      refine kg_ifF hk_238 rfl (jc_F0 cz9) rfl ?_
      refine kg_aload hk_238 rfl rfl rfl ?_
      refine kg_get (v := .ref (1094 + 1)) hk_238 rfl wk_1076_18 rfl rfl ?_
      refine kg_push (x := 9) hk_238 rfl (by decide) rfl ?_
      refine kg_iload hk_238 rfl rfl rfl ?_
      refine kg_bin (z := (9 * x1)) hk_238 rfl rfl rfl ?_
      refine kg_iload hk_238 rfl rfl rfl ?_
      refine kg_call (as := [.ref (1094 + 1), .int (9 * x1), .int x2]) (rest := []) hk_238 rfl (Or.inl rfl) rfl rfl rfl (Nat.not_lt.mpr (Nat.le_of_ble_eq_true rfl)) (v_237_ok (w_lenE wc_1094) gz10) (by decide) rfl ?_
      refine kg_goto hk_238 rfl ?_
      exact hK
def q_238_9 (h : Hp) (x1 : Int32) (x2 : Int32) (x3 : Int32) : Option (Int32 × Hp) :=
  w_gd ((if x3 = 0 then true else (w_ix x1 16) && ((if (h 1122 x1.toNatClampNeg) = 0 then g_236 1094 (9 * x1) x2 else true)))) <|
  q_238_27 h x1 x2 x3 (if x3 = 0 then 0 else (if (h 1122 x1.toNatClampNeg) = 0 then (if (v_236 h 1094 (9 * x1) x2) = 0 then 0 else 1 : Int32) else 0 : Int32) : Int32)
theorem q_238_9_ok {X : List Int32}   {h : Hp} {x1 : Int32} {x2 : Int32} {x3 : Int32}  {r : Int32 × Hp} (hF : q_238_9 h x1 x2 x3 = some r)  : ∀ (u4 : Value), k_Go X 15 238 (9, [.ref (1076 + 1), .int x1, .int x2, .int x3, u4], []) h (.inl (some (.int r.1)), r.2) := by
  intro u4
  unfold q_238_9 at hF
  refine kg_iload hk_238 rfl rfl rfl ?_
  refine wf_gd hF (fun gz7 hF => ?_)
  refine kv_mid (p := 27) (L := [.ref (1076 + 1), .int x1, .int x2, .int x3, u4]) (S := [.int (if x3 = 0 then 0 else (if (h 1122 x1.toNatClampNeg) = 0 then (if (v_236 h 1094 (9 * x1) x2) = 0 then 0 else 1 : Int32) else 0 : Int32) : Int32)]) ?_ (fun hK => ?_)
  · exact q_238_27_ok hF _
  · have hg := gz7
    by_cases cz2 : x3 = 0
    · have hK := kv_T cz2 hK
      refine kg_ifT hk_238 rfl (jc_T0 cz2) ?_
      refine kg_push (x := 0) hk_238 rfl (by decide) rfl ?_
      exact hK
    · have hg := wv_F cz2 hg
      have hK := kv_F cz2 hK
      have gz3 := wb_1 hg
      have hg := wb_2 hg
      refine kg_ifF hk_238 rfl (jc_F0 cz2) rfl ?_
      refine kg_aload hk_238 rfl rfl rfl ?_
      refine kg_get (v := .ref (1122 + 1)) hk_238 rfl wk_1076_59 rfl rfl ?_
      refine kg_iload hk_238 rfl rfl rfl ?_
      refine kg_ald (y := (h 1122 x1.toNatClampNeg)) hk_238 rfl wc_1122 gz3 rfl rfl ?_
      by_cases cz4 : (h 1122 x1.toNatClampNeg) = 0
      · have hg := wv_T cz4 hg
        have hK := kv_T cz4 hK
        have gz5 := hg
        refine kg_ifF hk_238 rfl (jc_F1 cz4) rfl ?_
        refine kg_aload hk_238 rfl rfl rfl ?_
        refine kg_get (v := .ref (1094 + 1)) hk_238 rfl wk_1076_18 rfl rfl ?_
        refine kg_push (x := 9) hk_238 rfl (by decide) rfl ?_
        refine kg_iload hk_238 rfl rfl rfl ?_
        refine kg_bin (z := (9 * x1)) hk_238 rfl rfl rfl ?_
        refine kg_iload hk_238 rfl rfl rfl ?_
        refine kg_call (as := [.ref (1094 + 1), .int (9 * x1), .int x2]) (rest := []) hk_238 rfl (Or.inl rfl) rfl rfl rfl (Nat.not_lt.mpr (Nat.le_of_ble_eq_true rfl)) (v_236_ok (w_lenE wc_1094) gz5) (by decide) rfl ?_
        by_cases cz6 : (v_236 h 1094 (9 * x1) x2) = 0
        · have hK := kv_T cz6 hK
          refine kg_ifT hk_238 rfl (jc_T0 cz6) ?_
          refine kg_push (x := 0) hk_238 rfl (by decide) rfl ?_
          exact hK
        · have hK := kv_F cz6 hK
          refine kg_ifF hk_238 rfl (jc_F0 cz6) rfl ?_
          refine kg_push (x := 1) hk_238 rfl (by decide) rfl ?_
          refine kg_goto hk_238 rfl ?_
          exact hK
      · have hK := kv_F cz4 hK
        refine kg_ifT hk_238 rfl (jc_T1 cz4) ?_
        refine kg_push (x := 0) hk_238 rfl (by decide) rfl ?_
        exact hK
def p_238 (h : Hp) (x1 : Int32) (x2 : Int32) : Option (Int32 × Hp) :=
  if (v_167 h x1) = 0 then
    (q_238_9 h x1 x2 (v_167 h x1))
  else
    ((p_235 h x1).bind fun vz12 =>
    q_238_9 vz12 x1 x2 (v_167 h x1))
theorem p_238_ok {X : List Int32}  {h : Hp} {x1 : Int32} {x2 : Int32}  {r : Int32 × Hp} (hF : p_238 h x1 x2 = some r) : k_Ev X 15 238 [.ref (1076 + 1), .int x1, .int x2] h (.inl (some (.int r.1)), r.2) := by
  refine k_of hk_238 ?_
  show k_Go X 15 238 (0, [.ref (1076 + 1), .int x1, .int x2, (.retAddr 0), (.retAddr 0)], []) h _
  unfold p_238 at hF
  refine kg_aload hk_238 rfl rfl rfl ?_
  refine kg_iload hk_238 rfl rfl rfl ?_
  refine kg_call (as := [.ref (1076 + 1), .int x1]) (rest := []) hk_238 rfl (Or.inr (Or.inr (Or.inr ⟨Or.inl rfl, _, _, rfl, wc_1076⟩))) rfl rfl rfl (Nat.not_lt.mpr (Nat.le_of_ble_eq_true rfl)) (v_167_ok) (by decide) rfl ?_
  refine kg_istore (L2 := [.ref (1076 + 1), .int x1, .int x2, .int (v_167 h x1), (.retAddr 0)]) hk_238 rfl (Nat.le_of_ble_eq_true rfl) rfl rfl ?_
  refine kg_iload hk_238 rfl rfl rfl ?_
  refine wf_if hF (fun cz1 hF => ?_) (fun cz1 hF => ?_)
  · refine kg_ifT hk_238 rfl (jc_T0 cz1) ?_
    exact q_238_9_ok hF _
  · refine kg_ifF hk_238 rfl (jc_F0 cz1) rfl ?_
    refine kg_aload hk_238 rfl rfl rfl ?_
    refine kg_iload hk_238 rfl rfl rfl ?_
    refine wf_bind hF (fun vz12 hvz12 hF => ?_)
    refine kg_call (as := [.ref (1076 + 1), .int x1]) (rest := []) hk_238 rfl (Or.inr (Or.inr (Or.inr ⟨Or.inl rfl, _, _, rfl, wc_1076⟩))) rfl rfl rfl (Nat.not_lt.mpr (Nat.le_of_ble_eq_true rfl)) (p_235_ok hvz12) (by decide) rfl ?_
    exact q_238_9_ok hF _
