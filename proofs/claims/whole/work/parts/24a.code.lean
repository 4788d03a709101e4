/-! ===== the methods as functions over the flat heap, and that the interpreter does what they say (printed by wip/whole/dec.py) ===== -/
-- NotebookWeir$Text.has(C)Z
theorem hk_59 : jP[59]? = some (jc_59, 3, [], []) := by rfl
def l_59_2 (h : Hp) (q0 : Nat) (x1 : Int32) (x2 : Int32) : Option ((Int32) ⊕ Int32) :=
  if x2 < (h q0 1) then
    (w_gd (w_ix x2 40) <|
    if (h (q0 + 1) x2.toNatClampNeg) = x1 then
      (some (.inr 1))
    else
      (some (.inl (x2 + 1))))
  else
    (some (.inr 0))
theorem l_59_2_st {X : List Int32} {o : kO}  {h : Hp} {q0 : Nat} {x1 : Int32} {x2 : Int32} (t0 : w_ob q0 7) {r : (Int32) ⊕ Int32} (hF : l_59_2 h q0 x1 x2 = some r) (hK : ∀ s' : Int32, r = .inl s' → k_Go X 0 59 (2, [.ref (q0 + 1), .int x1, .int (s')], []) h o) (hX0 : ∀ e : Int32, r = .inr e → (.inl (some (.int e)), h) = o) : k_Go X 0 59 (2, [.ref (q0 + 1), .int x1, .int x2], []) h o := by
  refine kg_iload hk_59 rfl rfl rfl ?_
  refine kg_aload hk_59 rfl rfl rfl ?_
  refine kg_get (v := .int (h q0 1)) hk_59 rfl (wf_7_1 t0) rfl rfl ?_
  refine wf_if hF (fun cz1 hF => ?_) (fun cz1 hF => ?_)
  · refine kg_icF hk_59 rfl (jc_F3 cz1) rfl ?_
    refine kg_aload hk_59 rfl rfl rfl ?_
    refine kg_get (v := .ref ((q0 + 1) + 1)) hk_59 rfl (wf_7_0 t0) rfl rfl ?_
    refine kg_iload hk_59 rfl rfl rfl ?_
    refine wf_gd hF (fun gz2 hF => ?_)
    refine kg_ald (y := (h (q0 + 1) x2.toNatClampNeg)) hk_59 rfl (wo_7_0 t0) gz2 rfl rfl ?_
    refine kg_iload hk_59 rfl rfl rfl ?_
    refine wf_if hF (fun cz3 hF => ?_) (fun cz3 hF => ?_)
    · refine kg_icF hk_59 rfl (jc_F1 cz3) rfl ?_
      refine kg_push (x := 1) hk_59 rfl (by decide) rfl ?_
      have hF := Option.some.inj hF
      exact kg_iret hk_59 rfl (Or.inr rfl) (hX0 _ hF.symm)
    · refine kg_icT hk_59 rfl (jc_T1 cz3) ?_
      refine kg_iinc (y := (x2 + 1)) (L2 := [.ref (q0 + 1), .int x1, .int (x2 + 1)]) hk_59 rfl rfl rfl rfl rfl ?_
      refine kg_goto hk_59 rfl ?_
      have hF := Option.some.inj hF
      exact hK _ hF.symm
  · refine kg_icT hk_59 rfl (jc_T3 cz1) ?_
    refine kg_push (x := 0) hk_59 rfl (by decide) rfl ?_
    have hF := Option.some.inj hF
    exact kg_iret hk_59 rfl (Or.inr rfl) (hX0 _ hF.symm)
theorem l_59_2_ok {X : List Int32} {o : kO}  {h : Hp} {q0 : Nat} {x1 : Int32} (t0 : w_ob q0 7) {n : Nat} {s : Int32} {e : Int32} (hF : w_lp (fun (s : Int32) => l_59_2 h q0 x1 s) n s = some e) (hX0 : (.inl (some (.int e)), h) = o) : k_Go X 0 59 (2, [.ref (q0 + 1), .int x1, .int s], []) h o := by
  exact w_lp_ok (P := (fun (s : Int32) => k_Go X 0 59 (2, [.ref (q0 + 1), .int x1, .int s], []) h o)) (Q := (fun (e : Int32) => ((.inl (some (.int e)), h) = o))) (fun s r hF hK hX => l_59_2_st t0 hF hK (fun x hx => (hX _ hx))) n s e hF hX0
def p_59 (h : Hp) (q0 : Nat) (x1 : Int32) : Option (Int32) :=
  w_lp (fun (s : Int32) => l_59_2 h q0 x1 s) w_N 0
theorem p_59_ok {X : List Int32}  {h : Hp} {q0 : Nat} {x1 : Int32} (t0 : w_ob q0 7) {r : Int32} (hF : p_59 h q0 x1 = some r) : k_Ev X 0 59 [.ref (q0 + 1), .int x1] h (.inl (some (.int r)), h) := by
  refine k_of hk_59 ?_
  show k_Go X 0 59 (0, [.ref (q0 + 1), .int x1, (.retAddr 0)], []) h _
  unfold p_59 at hF
  refine kg_push (x := 0) hk_59 rfl (by decide) rfl ?_
  refine kg_istore (L2 := [.ref (q0 + 1), .int x1, .int 0]) hk_59 rfl (Nat.le_of_ble_eq_true rfl) rfl rfl ?_
  exact l_59_2_ok t0 hF rfl
-- NotebookWeir$Cell.isRepeatable()Z
theorem hk_1 : jP[1]? = some (jc_1, 1, [], []) := by rfl
def p_1 (h : Hp) (q0 : Nat) : Option (Int32) :=
  (p_59 h (q0 + 1) 63).bind fun vz1 =>
  if vz1 = 0 then
    ((p_59 h (q0 + 1) 64).bind fun vz3 =>
    if vz3 = 0 then
      ((p_59 h (q0 + 1) 33).bind fun vz5 =>
      some (if vz5 = 0 then 1 else 0 : Int32))
    else
      (some 0))
  else
    (some 0)
theorem p_1_ok {X : List Int32}  {h : Hp} {q0 : Nat} (t0 : w_ob q0 0) {r : Int32} (hF : p_1 h q0 = some r) : k_Ev X 1 1 [.ref (q0 + 1)] h (.inl (some (.int r)), h) := by
  refine k_of hk_1 ?_
  show k_Go X 1 1 (0, [.ref (q0 + 1)], []) h _
  unfold p_1 at hF
  refine kg_aload hk_1 rfl rfl rfl ?_
  refine kg_get (v := .ref ((q0 + 1) + 1)) hk_1 rfl (wf_0_0 t0) rfl rfl ?_
  refine kg_push (x := 63) hk_1 rfl (by decide) rfl ?_
  refine wf_bind hF (fun vz1 hvz1 hF => ?_)
  refine kg_call (as := [.ref ((q0 + 1) + 1), .int 63]) (rest := []) hk_1 rfl (Or.inr (Or.inr (Or.inr ⟨Or.inl rfl, _, _, rfl, (wo_0_0 t0)⟩))) rfl rfl rfl (Nat.not_lt.mpr (Nat.le_of_ble_eq_true rfl)) (p_59_ok (wo_0_0 t0) hvz1) (by decide) rfl ?_
  refine wf_if hF (fun cz2 hF => ?_) (fun cz2 hF => ?_)
  · refine kg_ifF hk_1 rfl (jc_F1 cz2) rfl ?_
    refine kg_aload hk_1 rfl rfl rfl ?_
    refine kg_get (v := .ref ((q0 + 1) + 1)) hk_1 rfl (wf_0_0 t0) rfl rfl ?_
    refine kg_push (x := 64) hk_1 rfl (by decide) rfl ?_
    refine wf_bind hF (fun vz3 hvz3 hF => ?_)
    refine kg_call (as := [.ref ((q0 + 1) + 1), .int 64]) (rest := []) hk_1 rfl (Or.inr (Or.inr (Or.inr ⟨Or.inl rfl, _, _, rfl, (wo_0_0 t0)⟩))) rfl rfl rfl (Nat.not_lt.mpr (Nat.le_of_ble_eq_true rfl)) (p_59_ok (wo_0_0 t0) hvz3) (by decide) rfl ?_
    refine wf_if hF (fun cz4 hF => ?_) (fun cz4 hF => ?_)
    · refine kg_ifF hk_1 rfl (jc_F1 cz4) rfl ?_
      refine kg_aload hk_1 rfl rfl rfl ?_
      refine kg_get (v := .ref ((q0 + 1) + 1)) hk_1 rfl (wf_0_0 t0) rfl rfl ?_
      refine kg_push (x := 33) hk_1 rfl (by decide) rfl ?_
      refine wf_bind hF (fun vz5 hvz5 hF => ?_)
      refine kg_call (as := [.ref ((q0 + 1) + 1), .int 33]) (rest := []) hk_1 rfl (Or.inr (Or.inr (Or.inr ⟨Or.inl rfl, _, _, rfl, (wo_0_0 t0)⟩))) rfl rfl rfl (Nat.not_lt.mpr (Nat.le_of_ble_eq_true rfl)) (p_59_ok (wo_0_0 t0) hvz5) (by decide) rfl ?_
      refine kv_mid (p := 18) (L := [.ref (q0 + 1)]) (S := [.int (if vz5 = 0 then 1 else 0 : Int32)]) ?_ (fun hK => ?_)
      · have hF := Option.some.inj hF
        subst hF
        exact kg_iret hk_1 rfl (Or.inr (w_boi rfl rfl)) rfl
      · by_cases cz6 : vz5 = 0
        · have hK := kv_T cz6 hK
          refine kg_ifF hk_1 rfl (jc_F1 cz6) rfl ?_
          refine kg_push (x := 1) hk_1 rfl (by decide) rfl ?_
          refine kg_goto hk_1 rfl ?_
          exact hK
        · have hK := kv_F cz6 hK
          refine kg_ifT hk_1 rfl (jc_T1 cz6) ?_
          refine kg_push (x := 0) hk_1 rfl (by decide) rfl ?_
          exact hK
    · refine kg_ifT hk_1 rfl (jc_T1 cz4) ?_
      refine kg_push (x := 0) hk_1 rfl (by decide) rfl ?_
      have hF := Option.some.inj hF
      subst hF
      exact kg_iret hk_1 rfl (Or.inr rfl) rfl
  · refine kg_ifT hk_1 rfl (jc_T1 cz2) ?_
    refine kg_push (x := 0) hk_1 rfl (by decide) rfl ?_
    have hF := Option.some.inj hF
    subst hF
    exact kg_iret hk_1 rfl (Or.inr rfl) rfl
-- NotebookWeir$Text.isSame(LNotebookWeir$Text;)Z
theorem hk_60 : jP[60]? = some (jc_60, 3, [], []) := by rfl
def l_60_9 (h : Hp) (q0 : Nat) (q1 : Nat) (x2 : Int32) : Option ((Int32) ⊕ Int32) :=
  if x2 < (h q0 1) then
    (w_gd (w_ix x2 40) <|
    w_gd (w_ix x2 40) <|
    if (h (q0 + 1) x2.toNatClampNeg) = (h (q1 + 1) x2.toNatClampNeg) then
      (some (.inl (x2 + 1)))
    else
      (some (.inr 0)))
  else
    (some (.inr 1))
theorem l_60_9_st {X : List Int32} {o : kO}  {h : Hp} {q0 : Nat} {q1 : Nat} {x2 : Int32} (t0 : w_ob q0 7) (t1 : w_ob q1 7) {r : (Int32) ⊕ Int32} (hF : l_60_9 h q0 q1 x2 = some r) (hK : ∀ s' : Int32, r = .inl s' → k_Go X 0 60 (9, [.ref (q0 + 1), .ref (q1 + 1), .int (s')], []) h o) (hX0 : ∀ e : Int32, r = .inr e → (.inl (some (.int e)), h) = o) : k_Go X 0 60 (9, [.ref (q0 + 1), .ref (q1 + 1), .int x2], []) h o := by
  refine kg_iload hk_60 rfl rfl rfl ?_
  refine kg_aload hk_60 rfl rfl rfl ?_
  refine kg_get (v := .int (h q0 1)) hk_60 rfl (wf_7_1 t0) rfl rfl ?_
  refine wf_if hF (fun cz2 hF => ?_) (fun cz2 hF => ?_)
  · refine kg_icF hk_60 rfl (jc_F3 cz2) rfl ?_
    refine kg_aload hk_60 rfl rfl rfl ?_
    refine kg_get (v := .ref ((q0 + 1) + 1)) hk_60 rfl (wf_7_0 t0) rfl rfl ?_
    refine kg_iload hk_60 rfl rfl rfl ?_
    refine wf_gd hF (fun gz3 hF => ?_)
    refine kg_ald (y := (h (q0 + 1) x2.toNatClampNeg)) hk_60 rfl (wo_7_0 t0) gz3 rfl rfl ?_
    refine kg_aload hk_60 rfl rfl rfl ?_
    refine kg_get (v := .ref ((q1 + 1) + 1)) hk_60 rfl (wf_7_0 t1) rfl rfl ?_
    refine kg_iload hk_60 rfl rfl rfl ?_
    refine wf_gd hF (fun gz4 hF => ?_)
    refine kg_ald (y := (h (q1 + 1) x2.toNatClampNeg)) hk_60 rfl (wo_7_0 t1) gz4 rfl rfl ?_
    refine wf_if hF (fun cz5 hF => ?_) (fun cz5 hF => ?_)
    · refine kg_icT hk_60 rfl (jc_T0 cz5) ?_
      refine kg_iinc (y := (x2 + 1)) (L2 := [.ref (q0 + 1), .ref (q1 + 1), .int (x2 + 1)]) hk_60 rfl rfl rfl rfl rfl ?_
      refine kg_goto hk_60 rfl ?_
      have hF := Option.some.inj hF
      exact hK _ hF.symm
    · refine kg_icF hk_60 rfl (jc_F0 cz5) rfl ?_
      refine kg_push (x := 0) hk_60 rfl (by decide) rfl ?_
      have hF := Option.some.inj hF
      exact kg_iret hk_60 rfl (Or.inr rfl) (hX0 _ hF.symm)
  · refine kg_icT hk_60 rfl (jc_T3 cz2) ?_
    refine kg_push (x := 1) hk_60 rfl (by decide) rfl ?_
    have hF := Option.some.inj hF
    exact kg_iret hk_60 rfl (Or.inr rfl) (hX0 _ hF.symm)
theorem l_60_9_ok {X : List Int32} {o : kO}  {h : Hp} {q0 : Nat} {q1 : Nat} (t0 : w_ob q0 7) (t1 : w_ob q1 7) {n : Nat} {s : Int32} {e : Int32} (hF : w_lp (fun (s : Int32) => l_60_9 h q0 q1 s) n s = some e) (hX0 : (.inl (some (.int e)), h) = o) : k_Go X 0 60 (9, [.ref (q0 + 1), .ref (q1 + 1), .int s], []) h o := by
  exact w_lp_ok (P := (fun (s : Int32) => k_Go X 0 60 (9, [.ref (q0 + 1), .ref (q1 + 1), .int s], []) h o)) (Q := (fun (e : Int32) => ((.inl (some (.int e)), h) = o))) (fun s r hF hK hX => l_60_9_st t0 t1 hF hK (fun x hx => (hX _ hx))) n s e hF hX0
def p_60 (h : Hp) (q0 : Nat) (q1 : Nat) : Option (Int32) :=
  if (h q0 1) = (h q1 1) then
    (w_lp (fun (s : Int32) => l_60_9 h q0 q1 s) w_N 0)
  else
    (some 0)
theorem p_60_ok {X : List Int32}  {h : Hp} {q0 : Nat} {q1 : Nat} (t0 : w_ob q0 7) (t1 : w_ob q1 7) {r : Int32} (hF : p_60 h q0 q1 = some r) : k_Ev X 0 60 [.ref (q0 + 1), .ref (q1 + 1)] h (.inl (some (.int r)), h) := by
  refine k_of hk_60 ?_
  show k_Go X 0 60 (0, [.ref (q0 + 1), .ref (q1 + 1), (.retAddr 0)], []) h _
  unfold p_60 at hF
  refine kg_aload hk_60 rfl rfl rfl ?_
  refine kg_get (v := .int (h q0 1)) hk_60 rfl (wf_7_1 t0) rfl rfl ?_
  refine kg_aload hk_60 rfl rfl rfl ?_
  refine kg_get (v := .int (h q1 1)) hk_60 rfl (wf_7_1 t1) rfl rfl ?_
  refine wf_if hF (fun cz1 hF => ?_) (fun cz1 hF => ?_)
  · refine kg_icT hk_60 rfl (jc_T0 cz1) ?_
    refine kg_push (x := 0) hk_60 rfl (by decide) rfl ?_
    refine kg_istore (L2 := [.ref (q0 + 1), .ref (q1 + 1), .int 0]) hk_60 rfl (Nat.le_of_ble_eq_true rfl) rfl rfl ?_
    exact l_60_9_ok t0 t1 hF rfl
  · refine kg_icF hk_60 rfl (jc_F0 cz1) rfl ?_
    refine kg_push (x := 0) hk_60 rfl (by decide) rfl ?_
    have hF := Option.some.inj hF
    subst hF
    exact kg_iret hk_60 rfl (Or.inr rfl) rfl
-- NotebookWeir$Values.isNumber(I)Z
theorem hk_64 : jP[64]? = some (jc_64, 2, [], []) := by rfl
def v_64 (h : Hp) (q0 : Nat) (x1 : Int32) : Int32 := (if x1 < 0 then 0 else (if x1 < 27 then (if (h (q0 + 1) x1.toNatClampNeg) = 1 then 1 else 0 : Int32) else 0 : Int32) : Int32)
def g_64 (q0 : Nat) (x1 : Int32) : Bool := (if x1 < 0 then true else (if x1 < 27 then w_ix x1 27 else true))
theorem v_64_bo (h : Hp) (q0 : Nat) (x1 : Int32) : w_bo (v_64 h q0 x1) = true := by
  unfold v_64
  exact (w_boi rfl (w_boi (w_boi rfl rfl) rfl))
theorem v_64_ok {X : List Int32} {h : Hp} {q0 : Nat} {x1 : Int32} (t0 : w_ob q0 8) (hg : g_64 q0 x1 = true) : k_Ev X 0 64 [.ref (q0 + 1), .int x1] h (.inl (some (.int (v_64 h q0 x1))), h) := by
  refine k_of hk_64 ?_
  show k_Go X 0 64 (0, [.ref (q0 + 1), .int x1], []) h _
  generalize hv : v_64 h q0 x1 = z
  unfold v_64 at hv
  unfold g_64 at hg
  have gz5 := hg
  refine kg_iload hk_64 rfl rfl rfl ?_
  refine kv_mid (p := 14) (L := [.ref (q0 + 1), .int x1]) (S := [.int (if x1 < 0 then 0 else (if x1 < 27 then (if (h (q0 + 1) x1.toNatClampNeg) = 1 then 1 else 0 : Int32) else 0 : Int32) : Int32)]) ?_ (fun hK => ?_)
  · exact kg_iret hk_64 rfl (Or.inr (w_boi rfl (w_boi (w_boi rfl rfl) rfl))) (by rw [hv])
  · have hg := gz5
    by_cases cz1 : x1 < 0
    · have hK := kv_T cz1 hK
      refine kg_ifT hk_64 rfl (jc_T2 cz1) ?_
      refine kg_push (x := 0) hk_64 rfl (by decide) rfl ?_
      exact hK
    · have hg := wv_F cz1 hg
      have hK := kv_F cz1 hK
      refine kg_ifF hk_64 rfl (jc_F2 cz1) rfl ?_
      refine kg_iload hk_64 rfl rfl rfl ?_
      refine kg_push (x := 27) hk_64 rfl (by decide) rfl ?_
      by_cases cz2 : x1 < 27
      · have hg := wv_T cz2 hg
        have hK := kv_T cz2 hK
        have gz3 := hg
        refine kg_icF hk_64 rfl (jc_F3 cz2) rfl ?_
        refine kg_aload hk_64 rfl rfl rfl ?_
        refine kg_get (v := .ref ((q0 + 1) + 1)) hk_64 rfl (wf_8_0 t0) rfl rfl ?_
        refine kg_iload hk_64 rfl rfl rfl ?_
        refine kg_ald (y := (h (q0 + 1) x1.toNatClampNeg)) hk_64 rfl (wo_8_0 t0) gz3 rfl rfl ?_
        refine kg_push (x := 1) hk_64 rfl (by decide) rfl ?_
        by_cases cz4 : (h (q0 + 1) x1.toNatClampNeg) = 1
        · have hK := kv_T cz4 hK
          refine kg_icF hk_64 rfl (jc_F1 cz4) rfl ?_
          refine kg_push (x := 1) hk_64 rfl (by decide) rfl ?_
          refine kg_goto hk_64 rfl ?_
          exact hK
        · have hK := kv_F cz4 hK
          refine kg_icT hk_64 rfl (jc_T1 cz4) ?_
          refine kg_push (x := 0) hk_64 rfl (by decide) rfl ?_
          exact hK
      · have hK := kv_F cz2 hK
        refine kg_icT hk_64 rfl (jc_T3 cz2) ?_
        refine kg_push (x := 0) hk_64 rfl (by decide) rfl ?_
        exact hK
-- NotebookWeir$Values.itemCount(I)I
theorem hk_65 : jP[65]? = some (jc_65, 2, [], []) := by rfl
def v_65 (h : Hp) (q0 : Nat) (x1 : Int32) : Int32 := (if x1 < 0 then 0 else (if x1 < 27 then (if (h (q0 + 1) x1.toNatClampNeg) ≤ 2 then 0 else ((h (q0 + 1) x1.toNatClampNeg) - 2) : Int32) else 0 : Int32) : Int32)
def g_65 (h : Hp) (q0 : Nat) (x1 : Int32) : Bool := (if x1 < 0 then true else (if x1 < 27 then (w_ix x1 27) && ((if (h (q0 + 1) x1.toNatClampNeg) ≤ 2 then true else w_ix x1 27)) else true))
theorem v_65_ok {X : List Int32} {h : Hp} {q0 : Nat} {x1 : Int32} (t0 : w_ob q0 8) (hg : g_65 h q0 x1 = true) : k_Ev X 0 65 [.ref (q0 + 1), .int x1] h (.inl (some (.int (v_65 h q0 x1))), h) := by
  refine k_of hk_65 ?_
  show k_Go X 0 65 (0, [.ref (q0 + 1), .int x1], []) h _
  generalize hv : v_65 h q0 x1 = z
  unfold v_65 at hv
  unfold g_65 at hg
  have gz6 := hg
  refine kg_iload hk_65 rfl rfl rfl ?_
  refine kv_mid (p := 19) (L := [.ref (q0 + 1), .int x1]) (S := [.int (if x1 < 0 then 0 else (if x1 < 27 then (if (h (q0 + 1) x1.toNatClampNeg) ≤ 2 then 0 else ((h (q0 + 1) x1.toNatClampNeg) - 2) : Int32) else 0 : Int32) : Int32)]) ?_ (fun hK => ?_)
  · exact kg_iret hk_65 rfl (Or.inl rfl) (by rw [hv])
  · have hg := gz6
    by_cases cz1 : x1 < 0
    · have hK := kv_T cz1 hK
      refine kg_ifT hk_65 rfl (jc_T2 cz1) ?_
      refine kg_push (x := 0) hk_65 rfl (by decide) rfl ?_
      exact hK
    · have hg := wv_F cz1 hg
      have hK := kv_F cz1 hK
      refine kg_ifF hk_65 rfl (jc_F2 cz1) rfl ?_
      refine kg_iload hk_65 rfl rfl rfl ?_
      refine kg_push (x := 27) hk_65 rfl (by decide) rfl ?_
      by_cases cz2 : x1 < 27
      · have hg := wv_T cz2 hg
        have hK := kv_T cz2 hK
        have gz3 := wb_1 hg
        have hg := wb_2 hg
        refine kg_icF hk_65 rfl (jc_F3 cz2) rfl ?_
        refine kg_aload hk_65 rfl rfl rfl ?_
        refine kg_get (v := .ref ((q0 + 1) + 1)) hk_65 rfl (wf_8_0 t0) rfl rfl ?_
        refine kg_iload hk_65 rfl rfl rfl ?_
        refine kg_ald (y := (h (q0 + 1) x1.toNatClampNeg)) hk_65 rfl (wo_8_0 t0) gz3 rfl rfl ?_
        refine kg_push (x := 2) hk_65 rfl (by decide) rfl ?_
        by_cases cz4 : (h (q0 + 1) x1.toNatClampNeg) ≤ 2
        · have hK := kv_T cz4 hK
          refine kg_icT hk_65 rfl (jc_T5 cz4) ?_
          refine kg_push (x := 0) hk_65 rfl (by decide) rfl ?_
          exact hK
        · have hg := wv_F cz4 hg
          have hK := kv_F cz4 hK
          have gz5 := hg
          refine kg_icF hk_65 rfl (jc_F5 cz4) rfl ?_
          refine kg_aload hk_65 rfl rfl rfl ?_
          refine kg_get (v := .ref ((q0 + 1) + 1)) hk_65 rfl (wf_8_0 t0) rfl rfl ?_
          refine kg_iload hk_65 rfl rfl rfl ?_
          refine kg_ald (y := (h (q0 + 1) x1.toNatClampNeg)) hk_65 rfl (wo_8_0 t0) gz5 rfl rfl ?_
          refine kg_push (x := 2) hk_65 rfl (by decide) rfl ?_
          refine kg_bin (z := ((h (q0 + 1) x1.toNatClampNeg) - 2)) hk_65 rfl rfl rfl ?_
          refine kg_goto hk_65 rfl ?_
          exact hK
      · have hK := kv_F cz2 hK
        refine kg_icT hk_65 rfl (jc_T3 cz2) ?_
        refine kg_push (x := 0) hk_65 rfl (by decide) rfl ?_
        exact hK
-- NotebookWeir$Values.itemOf(II)I
theorem hk_66 : jP[66]? = some (jc_66, 4, [], []) := by rfl
def v_66 (h : Hp) (q0 : Nat) (x1 : Int32) (x2 : Int32) : Int32 := (if (if x1 < 0 then 0 else (if x1 < 27 then (if x2 < 0 then 0 else (if x2 < 8 then 1 else 0 : Int32) : Int32) else 0 : Int32) : Int32) = 0 then 0 else (h (q0 + 2) ((x1 * 8) + x2).toNatClampNeg) : Int32)
def g_66 (q0 : Nat) (x1 : Int32) (x2 : Int32) : Bool := (if (if x1 < 0 then 0 else (if x1 < 27 then (if x2 < 0 then 0 else (if x2 < 8 then 1 else 0 : Int32) : Int32) else 0 : Int32) : Int32) = 0 then true else w_ix ((x1 * 8) + x2) 216)
theorem v_66_ok {X : List Int32} {h : Hp} {q0 : Nat} {x1 : Int32} {x2 : Int32} (t0 : w_ob q0 8) (hg : g_66 q0 x1 x2 = true) : k_Ev X 0 66 [.ref (q0 + 1), .int x1, .int x2] h (.inl (some (.int (v_66 h q0 x1 x2))), h) := by
  refine k_of hk_66 ?_
  show k_Go X 0 66 (0, [.ref (q0 + 1), .int x1, .int x2, (.retAddr 0)], []) h _
  generalize hv : v_66 h q0 x1 x2 = z
  unfold v_66 at hv
  unfold g_66 at hg
  have gz7 := hg
  refine kg_iload hk_66 rfl rfl rfl ?_
  refine kv_mid (p := 13) (L := [.ref (q0 + 1), .int x1, .int x2, (.retAddr 0)]) (S := [.int (if x1 < 0 then 0 else (if x1 < 27 then (if x2 < 0 then 0 else (if x2 < 8 then 1 else 0 : Int32) : Int32) else 0 : Int32) : Int32)]) ?_ (fun hK => ?_)
  · refine kg_istore (L2 := [.ref (q0 + 1), .int x1, .int x2, .int (if x1 < 0 then 0 else (if x1 < 27 then (if x2 < 0 then 0 else (if x2 < 8 then 1 else 0 : Int32) : Int32) else 0 : Int32) : Int32)]) hk_66 rfl (Nat.le_of_ble_eq_true rfl) rfl rfl ?_
    refine kg_iload hk_66 rfl rfl rfl ?_
    refine kv_mid (p := 26) (L := [.ref (q0 + 1), .int x1, .int x2, .int (if x1 < 0 then 0 else (if x1 < 27 then (if x2 < 0 then 0 else (if x2 < 8 then 1 else 0 : Int32) : Int32) else 0 : Int32) : Int32)]) (S := [.int (if (if x1 < 0 then 0 else (if x1 < 27 then (if x2 < 0 then 0 else (if x2 < 8 then 1 else 0 : Int32) : Int32) else 0 : Int32) : Int32) = 0 then 0 else (h (q0 + 2) ((x1 * 8) + x2).toNatClampNeg) : Int32)]) ?_ (fun hK => ?_)
    · exact kg_iret hk_66 rfl (Or.inl rfl) (by rw [hv])
    · have hg := gz7
      by_cases cz5 : (if x1 < 0 then 0 else (if x1 < 27 then (if x2 < 0 then 0 else (if x2 < 8 then 1 else 0 : Int32) : Int32) else 0 : Int32) : Int32) = 0
      · have hK := kv_T cz5 hK
        refine kg_ifT hk_66 rfl (jc_T0 cz5) ?_
        refine kg_push (x := 0) hk_66 rfl (by decide) rfl ?_
        exact hK
      · have hg := wv_F cz5 hg
        have hK := kv_F cz5 hK
        have gz6 := hg
        refine kg_ifF hk_66 rfl (jc_F0 cz5) rfl ?_
        refine kg_aload hk_66 rfl rfl rfl ?_
        refine kg_get (v := .ref ((q0 + 2) + 1)) hk_66 rfl (wf_8_1 t0) rfl rfl ?_
        refine kg_iload hk_66 rfl rfl rfl ?_
        refine kg_push (x := 8) hk_66 rfl (by decide) rfl ?_
        refine kg_bin (z := (x1 * 8)) hk_66 rfl rfl rfl ?_
        refine kg_iload hk_66 rfl rfl rfl ?_
        refine kg_bin (z := ((x1 * 8) + x2)) hk_66 rfl rfl rfl ?_
        refine kg_ald (y := (h (q0 + 2) ((x1 * 8) + x2).toNatClampNeg)) hk_66 rfl (wo_8_1 t0) gz6 rfl rfl ?_
        refine kg_goto hk_66 rfl ?_
        exact hK
  · by_cases cz1 : x1 < 0
    · have hK := kv_T cz1 hK
      refine kg_ifT hk_66 rfl (jc_T2 cz1) ?_
      refine kg_push (x := 0) hk_66 rfl (by decide) rfl ?_
      exact hK
    · have hK := kv_F cz1 hK
      refine kg_ifF hk_66 rfl (jc_F2 cz1) rfl ?_
      refine kg_iload hk_66 rfl rfl rfl ?_
      refine kg_push (x := 27) hk_66 rfl (by decide) rfl ?_
      by_cases cz2 : x1 < 27
      · have hK := kv_T cz2 hK
        refine kg_icF hk_66 rfl (jc_F3 cz2) rfl ?_
        refine kg_iload hk_66 rfl rfl rfl ?_
        by_cases cz3 : x2 < 0
        · have hK := kv_T cz3 hK
          refine kg_ifT hk_66 rfl (jc_T2 cz3) ?_
          refine kg_push (x := 0) hk_66 rfl (by decide) rfl ?_
          exact hK
        · have hK := kv_F cz3 hK
          refine kg_ifF hk_66 rfl (jc_F2 cz3) rfl ?_
          refine kg_iload hk_66 rfl rfl rfl ?_
          refine kg_push (x := 8) hk_66 rfl (by decide) rfl ?_
          by_cases cz4 : x2 < 8
          · have hK := kv_T cz4 hK
            refine kg_icF hk_66 rfl (jc_F3 cz4) rfl ?_
            refine kg_push (x := 1) hk_66 rfl (by decide) rfl ?_
            refine kg_goto hk_66 rfl ?_
            exact hK
          · have hK := kv_F cz4 hK
            refine kg_icT hk_66 rfl (jc_T3 cz4) ?_
            refine kg_push (x := 0) hk_66 rfl (by decide) rfl ?_
            exact hK
      · have hK := kv_F cz2 hK
        refine kg_icT hk_66 rfl (jc_T3 cz2) ?_
        refine kg_push (x := 0) hk_66 rfl (by decide) rfl ?_
        exact hK
-- NotebookWeir$Values.areSame(LNotebookWeir$Values;)Z
theorem hk_73 : jP[73]? = some (jc_73, 5, [], []) := by rfl
def l_73_28 (h : Hp) (q0 : Nat) (q1 : Nat) (x2 : Int32) (x3 : Int32) (x4 : Int32) : Option ((Int32) ⊕ (Unit ⊕ Int32)) :=
  if x4 < x3 then
    (w_gd (g_66 q0 x2 x4) <|
    w_gd (g_66 q1 x2 x4) <|
    if (v_66 h q0 x2 x4) = (v_66 h q1 x2 x4) then
      (some (.inl (x4 + 1)))
    else
      (some (.inr (.inr 0))))
  else
    (some (.inr (.inl ())))
theorem l_73_28_st {X : List Int32} {o : kO}  {h : Hp} {q0 : Nat} {q1 : Nat} {x2 : Int32} {x3 : Int32} {x4 : Int32} (t0 : w_ob q0 8) (t1 : w_ob q1 8) {r : (Int32) ⊕ (Unit ⊕ Int32)} (hF : l_73_28 h q0 q1 x2 x3 x4 = some r) (hK : ∀ s' : Int32, r = .inl s' → k_Go X 1 73 (28, [.ref (q0 + 1), .ref (q1 + 1), .int x2, .int x3, .int (s')], []) h o) (hX0 : ∀ x : Unit, r = .inr (.inl x) → ∀ (u3 : Value) (u4 : Value), k_Go X 1 73 (44, [.ref (q0 + 1), .ref (q1 + 1), .int x2, u3, u4], []) h o) (hX1 : ∀ x : Int32, r = .inr (.inr x) → (.inl (some (.int x)), h) = o) : k_Go X 1 73 (28, [.ref (q0 + 1), .ref (q1 + 1), .int x2, .int x3, .int x4], []) h o := by
  refine kg_iload hk_73 rfl rfl rfl ?_
  refine kg_iload hk_73 rfl rfl rfl ?_
  refine wf_if hF (fun cz9 hF => ?_) (fun cz9 hF => ?_)
  · refine kg_icF hk_73 rfl (jc_F3 cz9) rfl ?_
    refine kg_aload hk_73 rfl rfl rfl ?_
    refine kg_iload hk_73 rfl rfl rfl ?_
    refine kg_iload hk_73 rfl rfl rfl ?_
    refine wf_gd hF (fun gz10 hF => ?_)
    refine kg_call (as := [.ref (q0 + 1), .int x2, .int x4]) (rest := []) hk_73 rfl (Or.inr (Or.inr (Or.inr ⟨Or.inl rfl, _, _, rfl, t0⟩))) rfl rfl rfl (Nat.not_lt.mpr (Nat.le_of_ble_eq_true rfl)) (v_66_ok t0 gz10) (by decide) rfl ?_
    refine kg_aload hk_73 rfl rfl rfl ?_
    refine kg_iload hk_73 rfl rfl rfl ?_
    refine kg_iload hk_73 rfl rfl rfl ?_
    refine wf_gd hF (fun gz11 hF => ?_)
    refine kg_call (as := [.ref (q1 + 1), .int x2, .int x4]) (rest := [.int (v_66 h q0 x2 x4)]) hk_73 rfl (Or.inr (Or.inr (Or.inr ⟨Or.inl rfl, _, _, rfl, t1⟩))) rfl rfl rfl (Nat.not_lt.mpr (Nat.le_of_ble_eq_true rfl)) (v_66_ok t1 gz11) (by decide) rfl ?_
    refine wf_if hF (fun cz12 hF => ?_) (fun cz12 hF => ?_)
    · refine kg_icT hk_73 rfl (jc_T0 cz12) ?_
      refine kg_iinc (y := (x4 + 1)) (L2 := [.ref (q0 + 1), .ref (q1 + 1), .int x2, .int x3, .int (x4 + 1)]) hk_73 rfl rfl rfl rfl rfl ?_
      refine kg_goto hk_73 rfl ?_
      have hF := Option.some.inj hF
      exact hK _ hF.symm
    · refine kg_icF hk_73 rfl (jc_F0 cz12) rfl ?_
      refine kg_push (x := 0) hk_73 rfl (by decide) rfl ?_
      have hF := Option.some.inj hF
      exact kg_iret hk_73 rfl (Or.inr rfl) (hX1 _ hF.symm)
  · refine kg_icT hk_73 rfl (jc_T3 cz9) ?_
    have hF := Option.some.inj hF
    exact hX0 _ hF.symm _ _
theorem l_73_28_ok {X : List Int32} {o : kO}  {h : Hp} {q0 : Nat} {q1 : Nat} {x2 : Int32} {x3 : Int32} (t0 : w_ob q0 8) (t1 : w_ob q1 8) {n : Nat} {s : Int32} {e : (Unit ⊕ Int32)} (hF : w_lp (fun (s : Int32) => l_73_28 h q0 q1 x2 x3 s) n s = some e) (hX0 : ∀ x : Unit, e = (.inl x) → ∀ (u3 : Value) (u4 : Value), k_Go X 1 73 (44, [.ref (q0 + 1), .ref (q1 + 1), .int x2, u3, u4], []) h o) (hX1 : ∀ x : Int32, e = (.inr x) → (.inl (some (.int x)), h) = o) : k_Go X 1 73 (28, [.ref (q0 + 1), .ref (q1 + 1), .int x2, .int x3, .int s], []) h o := by
  exact w_lp_ok (P := (fun (s : Int32) => k_Go X 1 73 (28, [.ref (q0 + 1), .ref (q1 + 1), .int x2, .int x3, .int s], []) h o)) (Q := (fun (e : (Unit ⊕ Int32)) => (∀ x : Unit, e = (.inl x) → ∀ (u3 : Value) (u4 : Value), k_Go X 1 73 (44, [.ref (q0 + 1), .ref (q1 + 1), .int x2, u3, u4], []) h o) ∧ (∀ x : Int32, e = (.inr x) → (.inl (some (.int x)), h) = o))) (fun s r hF hK hX => l_73_28_st t0 t1 hF hK (fun x hx => (hX _ hx).1 x rfl) (fun x hx => (hX _ hx).2 x rfl)) n s e hF ⟨hX0, hX1⟩
def q_73_25 (h : Hp) (q0 : Nat) (q1 : Nat) (x2 : Int32) (s0 : Int32) : Option ((Int32) ⊕ Int32) :=
  (w_lp (fun (s : Int32) => l_73_28 h q0 q1 x2 s0 s) w_N 0).bind <| (Sum.elim (fun yz14 =>
    (some (.inl (x2 + 1)))) (fun yz15 =>
    (some (.inr yz15))))
theorem q_73_25_ok {X : List Int32} {o : kO}  {h : Hp} {q0 : Nat} {q1 : Nat} {s0 : Int32} {x2 : Int32} (t0 : w_ob q0 8) (t1 : w_ob q1 8) {r : (Int32) ⊕ Int32} (hF : q_73_25 h q0 q1 x2 s0 = some r) (hK : ∀ s' : Int32, r = .inl s' → ∀ (u3 : Value) (u4 : Value), k_Go X 1 73 (2, [.ref (q0 + 1), .ref (q1 + 1), .int (s'), u3, u4], []) h o) (hX0 : ∀ e : Int32, r = .inr e → (.inl (some (.int e)), h) = o) : ∀ (u3 : Value) (u4 : Value), k_Go X 1 73 (25, [.ref (q0 + 1), .ref (q1 + 1), .int x2, u3, u4], [.int s0]) h o := by
  intro u3 u4
  unfold q_73_25 at hF
  refine kg_istore (L2 := [.ref (q0 + 1), .ref (q1 + 1), .int x2, .int s0, u4]) hk_73 rfl (Nat.le_of_ble_eq_true rfl) rfl rfl ?_
  refine kg_push (x := 0) hk_73 rfl (by decide) rfl ?_
  refine kg_istore (L2 := [.ref (q0 + 1), .ref (q1 + 1), .int x2, .int s0, .int 0]) hk_73 rfl (Nat.le_of_ble_eq_true rfl) rfl rfl ?_
  refine wf_bind hF (fun ez13 hez13 hF => ?_)
  refine l_73_28_ok t0 t1 hez13 ?_ ?_
  · intro yz14 hx
    subst hx
    refine wf_inl hF (fun hF => ?_)
    intro u3 u4
    refine kg_iinc (y := (x2 + 1)) (L2 := [.ref (q0 + 1), .ref (q1 + 1), .int (x2 + 1), u3, u4]) hk_73 rfl rfl rfl rfl rfl ?_
    refine kg_goto hk_73 rfl ?_
    have hF := Option.some.inj hF
    exact hK _ hF.symm _ _
  · intro yz15 hx
    subst hx
    refine wf_inr hF (fun hF => ?_)
    have hF := Option.some.inj hF
    exact hX0 _ hF.symm
def l_73_2 (h : Hp) (q0 : Nat) (q1 : Nat) (x2 : Int32) : Option ((Int32) ⊕ Int32) :=
  if x2 < 27 then
    (w_gd (w_ix x2 27) <|
    w_gd (w_ix x2 27) <|
    if (h (q0 + 1) x2.toNatClampNeg) = (h (q1 + 1) x2.toNatClampNeg) then
      (w_gd (g_64 q0 x2) <|
      w_gd ((if (v_64 h q0 x2) = 0 then g_65 h q0 x2 else true)) <|
      q_73_25 h q0 q1 x2 (if (v_64 h q0 x2) = 0 then (v_65 h q0 x2) else 1 : Int32))
    else
      (some (.inr 0)))
  else
    (some (.inr 1))
theorem l_73_2_st {X : List Int32} {o : kO}  {h : Hp} {q0 : Nat} {q1 : Nat} {x2 : Int32} (t0 : w_ob q0 8) (t1 : w_ob q1 8) {r : (Int32) ⊕ Int32} (hF : l_73_2 h q0 q1 x2 = some r) (hK : ∀ s' : Int32, r = .inl s' → ∀ (u3 : Value) (u4 : Value), k_Go X 1 73 (2, [.ref (q0 + 1), .ref (q1 + 1), .int (s'), u3, u4], []) h o) (hX0 : ∀ e : Int32, r = .inr e → (.inl (some (.int e)), h) = o) : ∀ (u3 : Value) (u4 : Value), k_Go X 1 73 (2, [.ref (q0 + 1), .ref (q1 + 1), .int x2, u3, u4], []) h o := by
  intro u3 u4
  refine kg_iload hk_73 rfl rfl rfl ?_
  refine kg_push (x := 27) hk_73 rfl (by decide) rfl ?_
  refine wf_if hF (fun cz1 hF => ?_) (fun cz1 hF => ?_)
  · refine kg_icF hk_73 rfl (jc_F3 cz1) rfl ?_
    refine kg_aload hk_73 rfl rfl rfl ?_
    refine kg_get (v := .ref ((q0 + 1) + 1)) hk_73 rfl (wf_8_0 t0) rfl rfl ?_
    refine kg_iload hk_73 rfl rfl rfl ?_
    refine wf_gd hF (fun gz2 hF => ?_)
    refine kg_ald (y := (h (q0 + 1) x2.toNatClampNeg)) hk_73 rfl (wo_8_0 t0) gz2 rfl rfl ?_
    refine kg_aload hk_73 rfl rfl rfl ?_
    refine kg_get (v := .ref ((q1 + 1) + 1)) hk_73 rfl (wf_8_0 t1) rfl rfl ?_
    refine kg_iload hk_73 rfl rfl rfl ?_
    refine wf_gd hF (fun gz3 hF => ?_)
    refine kg_ald (y := (h (q1 + 1) x2.toNatClampNeg)) hk_73 rfl (wo_8_0 t1) gz3 rfl rfl ?_
    refine wf_if hF (fun cz4 hF => ?_) (fun cz4 hF => ?_)
    · refine kg_icT hk_73 rfl (jc_T0 cz4) ?_
      refine kg_aload hk_73 rfl rfl rfl ?_
      refine kg_iload hk_73 rfl rfl rfl ?_
      refine wf_gd hF (fun gz5 hF => ?_)
      refine kg_call (as := [.ref (q0 + 1), .int x2]) (rest := []) hk_73 rfl (Or.inr (Or.inr (Or.inr ⟨Or.inl rfl, _, _, rfl, t0⟩))) rfl rfl rfl (Nat.not_lt.mpr (Nat.le_of_ble_eq_true rfl)) (v_64_ok t0 gz5) (by decide) rfl ?_
      refine wf_gd hF (fun gz8 hF => ?_)
      refine kv_mid (p := 25) (L := [.ref (q0 + 1), .ref (q1 + 1), .int x2, u3, u4]) (S := [.int (if (v_64 h q0 x2) = 0 then (v_65 h q0 x2) else 1 : Int32)]) ?_ (fun hK => ?_)
      · exact q_73_25_ok t0 t1 hF hK hX0 _ _
      · have hg := gz8
        by_cases cz6 : (v_64 h q0 x2) = 0
        · have hg := wv_T cz6 hg
          have hK := kv_T cz6 hK
          have gz7 := hg
          refine kg_ifT hk_73 rfl (jc_T0 cz6) ?_
          refine kg_aload hk_73 rfl rfl rfl ?_
          refine kg_iload hk_73 rfl rfl rfl ?_
          refine kg_call (as := [.ref (q0 + 1), .int x2]) (rest := []) hk_73 rfl (Or.inr (Or.inr (Or.inr ⟨Or.inl rfl, _, _, rfl, t0⟩))) rfl rfl rfl (Nat.not_lt.mpr (Nat.le_of_ble_eq_true rfl)) (v_65_ok t0 gz7) (by decide) rfl ?_
          exact hK
        · have hK := kv_F cz6 hK
          refine kg_ifF hk_73 rfl (jc_F0 cz6) rfl ?_
          refine kg_push (x := 1) hk_73 rfl (by decide) rfl ?_
          refine kg_goto hk_73 rfl ?_
          exact hK
    · refine kg_icF hk_73 rfl (jc_F0 cz4) rfl ?_
      refine kg_push (x := 0) hk_73 rfl (by decide) rfl ?_
      have hF := Option.some.inj hF
      exact kg_iret hk_73 rfl (Or.inr rfl) (hX0 _ hF.symm)
  · refine kg_icT hk_73 rfl (jc_T3 cz1) ?_
    refine kg_push (x := 1) hk_73 rfl (by decide) rfl ?_
    have hF := Option.some.inj hF
    exact kg_iret hk_73 rfl (Or.inr rfl) (hX0 _ hF.symm)
theorem l_73_2_ok {X : List Int32} {o : kO}  {h : Hp} {q0 : Nat} {q1 : Nat} (t0 : w_ob q0 8) (t1 : w_ob q1 8) {n : Nat} {s : Int32} {e : Int32} (hF : w_lp (fun (s : Int32) => l_73_2 h q0 q1 s) n s = some e) (hX0 : (.inl (some (.int e)), h) = o) : ∀ (u3 : Value) (u4 : Value), k_Go X 1 73 (2, [.ref (q0 + 1), .ref (q1 + 1), .int s, u3, u4], []) h o := by
  exact w_lp_ok (P := (fun (s : Int32) => ∀ (u3 : Value) (u4 : Value), k_Go X 1 73 (2, [.ref (q0 + 1), .ref (q1 + 1), .int s, u3, u4], []) h o)) (Q := (fun (e : Int32) => ((.inl (some (.int e)), h) = o))) (fun s r hF hK hX => l_73_2_st t0 t1 hF hK (fun x hx => (hX _ hx))) n s e hF hX0
def p_73 (h : Hp) (q0 : Nat) (q1 : Nat) : Option (Int32) :=
  w_lp (fun (s : Int32) => l_73_2 h q0 q1 s) w_N 0
theorem p_73_ok {X : List Int32}  {h : Hp} {q0 : Nat} {q1 : Nat} (t0 : w_ob q0 8) (t1 : w_ob q1 8) {r : Int32} (hF : p_73 h q0 q1 = some r) : k_Ev X 1 73 [.ref (q0 + 1), .ref (q1 + 1)] h (.inl (some (.int r)), h) := by
  refine k_of hk_73 ?_
  show k_Go X 1 73 (0, [.ref (q0 + 1), .ref (q1 + 1), (.retAddr 0), (.retAddr 0), (.retAddr 0)], []) h _
  unfold p_73 at hF
  refine kg_push (x := 0) hk_73 rfl (by decide) rfl ?_
  refine kg_istore (L2 := [.ref (q0 + 1), .ref (q1 + 1), .int 0, (.retAddr 0), (.retAddr 0)]) hk_73 rfl (Nat.le_of_ble_eq_true rfl) rfl rfl ?_
  exact l_73_2_ok t0 t1 hF rfl _ _
-- NotebookWeir$Kept.isOf(LNotebookWeir$Text;LNotebookWeir$Values;)Z
theorem hk_14 : jP[14]? = some (jc_14, 3, [], []) := by rfl
def p_14 (h : Hp) (q0 : Nat) (q1 : Nat) (q2 : Nat) : Option (Int32) :=
  (p_60 h (q0 + 1) q1).bind fun vz1 =>
  if vz1 = 0 then
    (some 0)
  else
    ((p_73 h (q0 + 3) q2).bind fun vz3 =>
    some (if vz3 = 0 then 0 else 1 : Int32))
theorem p_14_ok {X : List Int32}  {h : Hp} {q0 : Nat} {q1 : Nat} {q2 : Nat} (t0 : w_ob q0 3) (t1 : w_ob q1 7) (t2 : w_ob q2 8) {r : Int32} (hF : p_14 h q0 q1 q2 = some r) : k_Ev X 2 14 [.ref (q0 + 1), .ref (q1 + 1), .ref (q2 + 1)] h (.inl (some (.int r)), h) := by
  refine k_of hk_14 ?_
  show k_Go X 2 14 (0, [.ref (q0 + 1), .ref (q1 + 1), .ref (q2 + 1)], []) h _
  unfold p_14 at hF
  refine kg_aload hk_14 rfl rfl rfl ?_
  refine kg_get (v := .ref ((q0 + 1) + 1)) hk_14 rfl (wf_3_0 t0) rfl rfl ?_
  refine kg_aload hk_14 rfl rfl rfl ?_
  refine wf_bind hF (fun vz1 hvz1 hF => ?_)
  refine kg_call (as := [.ref ((q0 + 1) + 1), .ref (q1 + 1)]) (rest := []) hk_14 rfl (Or.inr (Or.inr (Or.inr ⟨Or.inl rfl, _, _, rfl, (wo_3_0 t0)⟩))) rfl rfl rfl (Nat.not_lt.mpr (Nat.le_of_ble_eq_true rfl)) (p_60_ok (wo_3_0 t0) t1 hvz1) (by decide) rfl ?_
  refine wf_if hF (fun cz2 hF => ?_) (fun cz2 hF => ?_)
  · refine kg_ifT hk_14 rfl (jc_T0 cz2) ?_
    refine kg_push (x := 0) hk_14 rfl (by decide) rfl ?_
    have hF := Option.some.inj hF
    subst hF
    exact kg_iret hk_14 rfl (Or.inr rfl) rfl
  · refine kg_ifF hk_14 rfl (jc_F0 cz2) rfl ?_
    refine kg_aload hk_14 rfl rfl rfl ?_
    refine kg_get (v := .ref ((q0 + 3) + 1)) hk_14 rfl (wf_3_1 t0) rfl rfl ?_
    refine kg_aload hk_14 rfl rfl rfl ?_
    refine wf_bind hF (fun vz3 hvz3 hF => ?_)
    refine kg_call (as := [.ref ((q0 + 3) + 1), .ref (q2 + 1)]) (rest := []) hk_14 rfl (Or.inr (Or.inr (Or.inr ⟨Or.inl rfl, _, _, rfl, (wo_3_1 t0)⟩))) rfl rfl rfl (Nat.not_lt.mpr (Nat.le_of_ble_eq_true rfl)) (p_73_ok (wo_3_1 t0) t2 hvz3) (by decide) rfl ?_
    refine kv_mid (p := 13) (L := [.ref (q0 + 1), .ref (q1 + 1), .ref (q2 + 1)]) (S := [.int (if vz3 = 0 then 0 else 1 : Int32)]) ?_ (fun hK => ?_)
    · have hF := Option.some.inj hF
      subst hF
      exact kg_iret hk_14 rfl (Or.inr (w_boi rfl rfl)) rfl
    · by_cases cz4 : vz3 = 0
      · have hK := kv_T cz4 hK
        refine kg_ifT hk_14 rfl (jc_T0 cz4) ?_
        refine kg_push (x := 0) hk_14 rfl (by decide) rfl ?_
        exact hK
      · have hK := kv_F cz4 hK
        refine kg_ifF hk_14 rfl (jc_F0 cz4) rfl ?_
        refine kg_push (x := 1) hk_14 rfl (by decide) rfl ?_
        refine kg_goto hk_14 rfl ?_
        exact hK
-- NotebookWeir$Cell.recall(LNotebookWeir$Values;)LNotebookWeir$Kept;
theorem hk_2 : jP[2]? = some (jc_2, 3, [], []) := by rfl
def l_2_2 (h : Hp) (q0 : Nat) (q1 : Nat) (x2 : Int32) : Option ((Int32) ⊕ (Int32 ⊕ Unit)) :=
  if x2 < (h q0 8) then
    ((p_1 h q0).bind fun vz2 =>
    if vz2 = 0 then
      (some (.inr (.inr ())))
    else
      (w_gd (w_ix x2 4) <|
      (p_14 h (9 * x2.toNatClampNeg + q0 + 28) (q0 + 1) q1).bind fun vz6 =>
      if vz6 = 0 then
        (some (.inl (x2 + 1)))
      else
        (some (.inr (.inl x2)))))
  else
    (some (.inr (.inr ())))
theorem l_2_2_st {X : List Int32} {o : kO}  {h : Hp} {q0 : Nat} {q1 : Nat} {x2 : Int32} (t0 : w_ob q0 0) (t1 : w_ob q1 8) {r : (Int32) ⊕ (Int32 ⊕ Unit)} (hF : l_2_2 h q0 q1 x2 = some r) (hK : ∀ s' : Int32, r = .inl s' → k_Go X 3 2 (2, [.ref (q0 + 1), .ref (q1 + 1), .int (s')], []) h o) (hX0 : ∀ x : Int32, r = .inr (.inl x) → ∀ (u1 : Value), k_Go X 3 2 (18, [.ref (q0 + 1), u1, .int x], []) h o) (hX1 : ∀ x : Unit, r = .inr (.inr x) → ∀ (u0 : Value) (u1 : Value) (u2 : Value), k_Go X 3 2 (25, [u0, u1, u2], []) h o) : k_Go X 3 2 (2, [.ref (q0 + 1), .ref (q1 + 1), .int x2], []) h o := by
  refine kg_iload hk_2 rfl rfl rfl ?_
  refine kg_aload hk_2 rfl rfl rfl ?_
  refine kg_get (v := .int (h q0 8)) hk_2 rfl (wf_0_8 t0) rfl rfl ?_
  refine wf_if hF (fun cz1 hF => ?_) (fun cz1 hF => ?_)
  · refine kg_icF hk_2 rfl (jc_F3 cz1) rfl ?_
    refine kg_aload hk_2 rfl rfl rfl ?_
    refine wf_bind hF (fun vz2 hvz2 hF => ?_)
    refine kg_call (as := [.ref (q0 + 1)]) (rest := []) hk_2 rfl (Or.inr (Or.inr (Or.inr ⟨Or.inl rfl, _, _, rfl, t0⟩))) rfl rfl rfl (Nat.not_lt.mpr (Nat.le_of_ble_eq_true rfl)) (p_1_ok t0 hvz2) (by decide) rfl ?_
    refine wf_if hF (fun cz3 hF => ?_) (fun cz3 hF => ?_)
    · refine kg_ifT hk_2 rfl (jc_T0 cz3) ?_
      have hF := Option.some.inj hF
      exact hX1 _ hF.symm _ _ _
    · refine kg_ifF hk_2 rfl (jc_F0 cz3) rfl ?_
      refine kg_aload hk_2 rfl rfl rfl ?_
      refine kg_get (v := .ref ((q0 + 26) + 1)) hk_2 rfl (wf_0_6 t0) rfl rfl ?_
      refine kg_iload hk_2 rfl rfl rfl ?_
      refine wf_gd hF (fun gz4 hF => ?_)
      have hez5 := w_E we_62 (wo_0_6 t0) gz4
      rw [show wef_62 (q0 + 26) x2.toNatClampNeg = (9 * x2.toNatClampNeg + q0 + 28) by unfold wef_62; omega] at hez5
      refine kg_aald (y := (9 * x2.toNatClampNeg + q0 + 28)) hk_2 rfl gz4 hez5.1 rfl ?_
      refine kg_aload hk_2 rfl rfl rfl ?_
      refine kg_get (v := .ref ((q0 + 1) + 1)) hk_2 rfl (wf_0_0 t0) rfl rfl ?_
      refine kg_aload hk_2 rfl rfl rfl ?_
      refine wf_bind hF (fun vz6 hvz6 hF => ?_)
      refine kg_call (as := [.ref ((9 * x2.toNatClampNeg + q0 + 28) + 1), .ref ((q0 + 1) + 1), .ref (q1 + 1)]) (rest := []) hk_2 rfl (Or.inr (Or.inr (Or.inr ⟨Or.inl rfl, _, _, rfl, hez5.2⟩))) rfl rfl rfl (Nat.not_lt.mpr (Nat.le_of_ble_eq_true rfl)) (p_14_ok hez5.2 (wo_0_0 t0) t1 hvz6) (by decide) rfl ?_
      refine wf_if hF (fun cz7 hF => ?_) (fun cz7 hF => ?_)
      · refine kg_ifT hk_2 rfl (jc_T0 cz7) ?_
        refine kg_iinc (y := (x2 + 1)) (L2 := [.ref (q0 + 1), .ref (q1 + 1), .int (x2 + 1)]) hk_2 rfl rfl rfl rfl rfl ?_
        refine kg_goto hk_2 rfl ?_
        have hF := Option.some.inj hF
        exact hK _ hF.symm
      · refine kg_ifF hk_2 rfl (jc_F0 cz7) rfl ?_
        have hF := Option.some.inj hF
        exact hX0 _ hF.symm _
  · refine kg_icT hk_2 rfl (jc_T3 cz1) ?_
    have hF := Option.some.inj hF
    exact hX1 _ hF.symm _ _ _
theorem l_2_2_ok {X : List Int32} {o : kO}  {h : Hp} {q0 : Nat} {q1 : Nat} (t0 : w_ob q0 0) (t1 : w_ob q1 8) {n : Nat} {s : Int32} {e : (Int32 ⊕ Unit)} (hF : w_lp (fun (s : Int32) => l_2_2 h q0 q1 s) n s = some e) (hX0 : ∀ x : Int32, e = (.inl x) → ∀ (u1 : Value), k_Go X 3 2 (18, [.ref (q0 + 1), u1, .int x], []) h o) (hX1 : ∀ x : Unit, e = (.inr x) → ∀ (u0 : Value) (u1 : Value) (u2 : Value), k_Go X 3 2 (25, [u0, u1, u2], []) h o) : k_Go X 3 2 (2, [.ref (q0 + 1), .ref (q1 + 1), .int s], []) h o := by
  exact w_lp_ok (P := (fun (s : Int32) => k_Go X 3 2 (2, [.ref (q0 + 1), .ref (q1 + 1), .int s], []) h o)) (Q := (fun (e : (Int32 ⊕ Unit)) => (∀ x : Int32, e = (.inl x) → ∀ (u1 : Value), k_Go X 3 2 (18, [.ref (q0 + 1), u1, .int x], []) h o) ∧ (∀ x : Unit, e = (.inr x) → ∀ (u0 : Value) (u1 : Value) (u2 : Value), k_Go X 3 2 (25, [u0, u1, u2], []) h o))) (fun s r hF hK hX => l_2_2_st t0 t1 hF hK (fun x hx => (hX _ hx).1 x rfl) (fun x hx => (hX _ hx).2 x rfl)) n s e hF ⟨hX0, hX1⟩
def p_2 (h : Hp) (q0 : Nat) (q1 : Nat) : Option (Nat) :=
  (w_lp (fun (s : Int32) => l_2_2 h q0 q1 s) w_N 0).bind <| (Sum.elim (fun yz9 =>
    (w_gd (w_ix yz9 4) <|
    some ((9 * yz9.toNatClampNeg + q0 + 28) + 1))) (fun yz10 =>
    (some 0)))
theorem p_2_ok {X : List Int32}  {h : Hp} {q0 : Nat} {q1 : Nat} (t0 : w_ob q0 0) (t1 : w_ob q1 8) {r : Nat} (hF : p_2 h q0 q1 = some r) : k_Ev X 3 2 [.ref (q0 + 1), .ref (q1 + 1)] h (.inl (some (w_rf r)), h) := by
  refine k_of hk_2 ?_
  show k_Go X 3 2 (0, [.ref (q0 + 1), .ref (q1 + 1), (.retAddr 0)], []) h _
  unfold p_2 at hF
  refine kg_push (x := 0) hk_2 rfl (by decide) rfl ?_
  refine kg_istore (L2 := [.ref (q0 + 1), .ref (q1 + 1), .int 0]) hk_2 rfl (Nat.le_of_ble_eq_true rfl) rfl rfl ?_
  refine wf_bind hF (fun ez8 hez8 hF => ?_)
  refine l_2_2_ok t0 t1 hez8 ?_ ?_
  · intro yz9 hx
    subst hx
    refine wf_inl hF (fun hF => ?_)
    intro u1
    refine kg_aload hk_2 rfl rfl rfl ?_
    refine kg_get (v := .ref ((q0 + 26) + 1)) hk_2 rfl (wf_0_6 t0) rfl rfl ?_
    refine kg_iload hk_2 rfl rfl rfl ?_
    refine wf_gd hF (fun gz11 hF => ?_)
    have hez12 := w_E we_62 (wo_0_6 t0) gz11
    rw [show wef_62 (q0 + 26) yz9.toNatClampNeg = (9 * yz9.toNatClampNeg + q0 + 28) by unfold wef_62; omega] at hez12
    refine kg_aald (y := (9 * yz9.toNatClampNeg + q0 + 28)) hk_2 rfl gz11 hez12.1 rfl ?_
    refine kg_cvR ?_
    have hF := Option.some.inj hF
    subst hF
    exact kg_aret hk_2 rfl rfl
  · intro yz10 hx
    subst hx
    refine wf_inr hF (fun hF => ?_)
    intro u0 u1 u2
    refine kg_null hk_2 rfl rfl ?_
    have hF := Option.some.inj hF
    subst hF
    exact kg_aret hk_2 rfl rfl
-- NotebookWeir$Text.take(LNotebookWeir$Text;)V
theorem hk_61 : jP[61]? = some (jc_61, 3, [], []) := by rfl
def l_61_2 (q0 : Nat) (q1 : Nat) (x2 : Int32) (h : Hp) : Option ((Int32 × Hp) ⊕ Hp) :=
  if x2 < (h q1 1) then
    (w_gd (w_ix x2 40) <|
    w_gd (w_ix x2 40) <|
    w_let (w_up h (q0 + 1) x2.toNatClampNeg (j_nar 51 (h (q1 + 1) x2.toNatClampNeg))) fun hz4 =>
    some (.inl ((x2 + 1), hz4)))
  else
    (some (.inr h))
theorem l_61_2_st {X : List Int32} {o : kO}  {h : Hp} {q0 : Nat} {q1 : Nat} {x2 : Int32} (t0 : w_ob q0 7) (t1 : w_ob q1 7) {r : (Int32 × Hp) ⊕ Hp} (hF : l_61_2 q0 q1 x2 h = some r) (hK : ∀ s' : Int32 × Hp, r = .inl s' → k_Go X 0 61 (2, [.ref (q0 + 1), .ref (q1 + 1), .int (s'.1)], []) s'.2 o) (hX0 : ∀ e : Hp, r = .inr e → ∀ (u2 : Value), k_Go X 0 61 (16, [.ref (q0 + 1), .ref (q1 + 1), u2], []) e o) : k_Go X 0 61 (2, [.ref (q0 + 1), .ref (q1 + 1), .int x2], []) h o := by
  refine kg_iload hk_61 rfl rfl rfl ?_
  refine kg_aload hk_61 rfl rfl rfl ?_
  refine kg_get (v := .int (h q1 1)) hk_61 rfl (wf_7_1 t1) rfl rfl ?_
  refine wf_if hF (fun cz1 hF => ?_) (fun cz1 hF => ?_)
  · refine kg_icF hk_61 rfl (jc_F3 cz1) rfl ?_
    refine kg_aload hk_61 rfl rfl rfl ?_
    refine kg_get (v := .ref ((q0 + 1) + 1)) hk_61 rfl (wf_7_0 t0) rfl rfl ?_
    refine kg_iload hk_61 rfl rfl rfl ?_
    refine kg_aload hk_61 rfl rfl rfl ?_
    refine kg_get (v := .ref ((q1 + 1) + 1)) hk_61 rfl (wf_7_0 t1) rfl rfl ?_
    refine kg_iload hk_61 rfl rfl rfl ?_
    refine wf_gd hF (fun gz2 hF => ?_)
    refine kg_ald (y := (h (q1 + 1) x2.toNatClampNeg)) hk_61 rfl (wo_7_0 t1) gz2 rfl rfl ?_
    refine wf_gd hF (fun gz3 hF => ?_)
    refine wf_let hF (fun hz4 hhz4 hF => ?_)
    refine kg_ast hk_61 rfl (wo_7_0 t0) gz3 hhz4 rfl ?_
    refine kg_iinc (y := (x2 + 1)) (L2 := [.ref (q0 + 1), .ref (q1 + 1), .int (x2 + 1)]) hk_61 rfl rfl rfl rfl rfl ?_
    refine kg_goto hk_61 rfl ?_
    have hF := Option.some.inj hF
    exact hK _ hF.symm
  · refine kg_icT hk_61 rfl (jc_T3 cz1) ?_
    have hF := Option.some.inj hF
    exact hX0 _ hF.symm _
theorem l_61_2_ok {X : List Int32} {o : kO}  {q0 : Nat} {q1 : Nat} (t0 : w_ob q0 7) (t1 : w_ob q1 7) {n : Nat} {s : Int32 × Hp} {e : Hp} (hF : w_lp (fun (s : Int32 × Hp) => l_61_2 q0 q1 s.1 s.2) n s = some e) (hX0 : ∀ (u2 : Value), k_Go X 0 61 (16, [.ref (q0 + 1), .ref (q1 + 1), u2], []) e o) : k_Go X 0 61 (2, [.ref (q0 + 1), .ref (q1 + 1), .int s.1], []) s.2 o := by
  exact w_lp_ok (P := (fun (s : Int32 × Hp) => k_Go X 0 61 (2, [.ref (q0 + 1), .ref (q1 + 1), .int s.1], []) s.2 o)) (Q := (fun (e : Hp) => (∀ (u2 : Value), k_Go X 0 61 (16, [.ref (q0 + 1), .ref (q1 + 1), u2], []) e o))) (fun s r hF hK hX => l_61_2_st t0 t1 hF hK (fun x hx => (hX _ hx))) n s e hF hX0
def p_61 (h : Hp) (q0 : Nat) (q1 : Nat) : Option (Hp) :=
  (w_lp (fun (s : Int32 × Hp) => l_61_2 q0 q1 s.1 s.2) w_N (0, h)).bind fun ez5 =>
  w_let (w_up ez5 q0 1 (ez5 q1 1)) fun hz6 =>
  some hz6
theorem p_61_ok {X : List Int32}  {h : Hp} {q0 : Nat} {q1 : Nat} (t0 : w_ob q0 7) (t1 : w_ob q1 7) {r : Hp} (hF : p_61 h q0 q1 = some r) : k_Ev X 0 61 [.ref (q0 + 1), .ref (q1 + 1)] h (.inl none, r) := by
  refine k_of hk_61 ?_
  show k_Go X 0 61 (0, [.ref (q0 + 1), .ref (q1 + 1), (.retAddr 0)], []) h _
  unfold p_61 at hF
  refine kg_push (x := 0) hk_61 rfl (by decide) rfl ?_
  refine kg_istore (L2 := [.ref (q0 + 1), .ref (q1 + 1), .int 0]) hk_61 rfl (Nat.le_of_ble_eq_true rfl) rfl rfl ?_
  refine wf_bind hF (fun ez5 hez5 hF => ?_)
  refine l_61_2_ok t0 t1 hez5 ?_
  intro u2
  refine kg_aload hk_61 rfl rfl rfl ?_
  refine kg_aload hk_61 rfl rfl rfl ?_
  refine kg_get (v := .int (ez5 q1 1)) hk_61 rfl (wf_7_1 t1) rfl rfl ?_
  refine wf_let hF (fun hz6 hhz6 hF => ?_)
  refine kg_put hk_61 rfl (wf_7_1 t0) rfl rfl hhz6 rfl ?_
  have hF := Option.some.inj hF
  subst hF
  exact kg_ret hk_61 rfl rfl
-- NotebookWeir$Values.takeAll(LNotebookWeir$Values;)V
theorem hk_72 : jP[72]? = some (jc_72, 2, [], []) := by rfl
def p_72 (h : Hp) (q0 : Nat) (q1 : Nat) : Option (Hp) :=
  w_let (w_cp h (q1 + 1) (q0 + 1) 0 0 27) fun hz1 =>
  w_let (w_cp hz1 (q1 + 2) (q0 + 2) 0 0 216) fun hz2 =>
  some hz2
theorem p_72_ok {X : List Int32}  {h : Hp} {q0 : Nat} {q1 : Nat} (t0 : w_ob q0 8) (t1 : w_ob q1 8) {r : Hp} (hF : p_72 h q0 q1 = some r) : k_Ev X 0 72 [.ref (q0 + 1), .ref (q1 + 1)] h (.inl none, r) := by
  refine k_of hk_72 ?_
  show k_Go X 0 72 (0, [.ref (q0 + 1), .ref (q1 + 1)], []) h _
  unfold p_72 at hF
  refine kg_aload hk_72 rfl rfl rfl ?_
  refine kg_get (v := .ref ((q1 + 1) + 1)) hk_72 rfl (wf_8_0 t1) rfl rfl ?_
  refine kg_push (x := 0) hk_72 rfl (by decide) rfl ?_
  refine kg_aload hk_72 rfl rfl rfl ?_
  refine kg_get (v := .ref ((q0 + 1) + 1)) hk_72 rfl (wf_8_0 t0) rfl rfl ?_
  refine kg_push (x := 0) hk_72 rfl (by decide) rfl ?_
  refine kg_push (x := 27) hk_72 rfl (by decide) rfl ?_
  refine wf_let hF (fun hz1 hhz1 hF => ?_)
  refine kg_acopy hk_72 rfl (wo_8_0 t1) (wo_8_0 t0) ⟨by decide, by decide, by decide, by decide, by decide⟩ (Nat.le_of_ble_eq_true rfl) hhz1 rfl ?_
  refine kg_aload hk_72 rfl rfl rfl ?_
  refine kg_get (v := .ref ((q1 + 2) + 1)) hk_72 rfl (wf_8_1 t1) rfl rfl ?_
  refine kg_push (x := 0) hk_72 rfl (by decide) rfl ?_
  refine kg_aload hk_72 rfl rfl rfl ?_
  refine kg_get (v := .ref ((q0 + 2) + 1)) hk_72 rfl (wf_8_1 t0) rfl rfl ?_
  refine kg_push (x := 0) hk_72 rfl (by decide) rfl ?_
  refine kg_push (x := 216) hk_72 rfl (by decide) rfl ?_
  refine wf_let hF (fun hz2 hhz2 hF => ?_)
  refine kg_acopy hk_72 rfl (wo_8_1 t1) (wo_8_1 t0) ⟨by decide, by decide, by decide, by decide, by decide⟩ (Nat.le_of_ble_eq_true rfl) hhz2 rfl ?_
  have hF := Option.some.inj hF
  subst hF
  exact kg_ret hk_72 rfl rfl
-- NotebookWeir$Kept.take(LNotebookWeir$Text;LNotebookWeir$Values;LNotebookWeir$Values;)V
theorem hk_13 : jP[13]? = some (jc_13, 4, [], []) := by rfl
def p_13 (h : Hp) (q0 : Nat) (q1 : Nat) (q2 : Nat) (q3 : Nat) : Option (Hp) :=
  (p_61 h (q0 + 1) q1).bind fun vz1 =>
  (p_72 vz1 (q0 + 3) q2).bind fun vz2 =>
  (p_72 vz2 (q0 + 6) q3).bind fun vz3 =>
  some vz3
theorem p_13_ok {X : List Int32}  {h : Hp} {q0 : Nat} {q1 : Nat} {q2 : Nat} {q3 : Nat} (t0 : w_ob q0 3) (t1 : w_ob q1 7) (t2 : w_ob q2 8) (t3 : w_ob q3 8) {r : Hp} (hF : p_13 h q0 q1 q2 q3 = some r) : k_Ev X 1 13 [.ref (q0 + 1), .ref (q1 + 1), .ref (q2 + 1), .ref (q3 + 1)] h (.inl none, r) := by
  refine k_of hk_13 ?_
  show k_Go X 1 13 (0, [.ref (q0 + 1), .ref (q1 + 1), .ref (q2 + 1), .ref (q3 + 1)], []) h _
  unfold p_13 at hF
  refine kg_aload hk_13 rfl rfl rfl ?_
  refine kg_get (v := .ref ((q0 + 1) + 1)) hk_13 rfl (wf_3_0 t0) rfl rfl ?_
  refine kg_aload hk_13 rfl rfl rfl ?_
  refine wf_bind hF (fun vz1 hvz1 hF => ?_)
  refine kg_call (as := [.ref ((q0 + 1) + 1), .ref (q1 + 1)]) (rest := []) hk_13 rfl (Or.inr (Or.inr (Or.inr ⟨Or.inl rfl, _, _, rfl, (wo_3_0 t0)⟩))) rfl rfl rfl (Nat.not_lt.mpr (Nat.le_of_ble_eq_true rfl)) (p_61_ok (wo_3_0 t0) t1 hvz1) (by decide) rfl ?_
  refine kg_aload hk_13 rfl rfl rfl ?_
  refine kg_get (v := .ref ((q0 + 3) + 1)) hk_13 rfl (wf_3_1 t0) rfl rfl ?_
  refine kg_aload hk_13 rfl rfl rfl ?_
  refine wf_bind hF (fun vz2 hvz2 hF => ?_)
  refine kg_call (as := [.ref ((q0 + 3) + 1), .ref (q2 + 1)]) (rest := []) hk_13 rfl (Or.inr (Or.inr (Or.inr ⟨Or.inl rfl, _, _, rfl, (wo_3_1 t0)⟩))) rfl rfl rfl (Nat.not_lt.mpr (Nat.le_of_ble_eq_true rfl)) (p_72_ok (wo_3_1 t0) t2 hvz2) (by decide) rfl ?_
  refine kg_aload hk_13 rfl rfl rfl ?_
  refine kg_get (v := .ref ((q0 + 6) + 1)) hk_13 rfl (wf_3_2 t0) rfl rfl ?_
  refine kg_aload hk_13 rfl rfl rfl ?_
  refine wf_bind hF (fun vz3 hvz3 hF => ?_)
  refine kg_call (as := [.ref ((q0 + 6) + 1), .ref (q3 + 1)]) (rest := []) hk_13 rfl (Or.inr (Or.inr (Or.inr ⟨Or.inl rfl, _, _, rfl, (wo_3_2 t0)⟩))) rfl rfl rfl (Nat.not_lt.mpr (Nat.le_of_ble_eq_true rfl)) (p_72_ok (wo_3_2 t0) t3 hvz3) (by decide) rfl ?_
  have hF := Option.some.inj hF
  subst hF
  exact kg_ret hk_13 rfl rfl
-- NotebookWeir$Cell.remember(LNotebookWeir$Values;)V
theorem hk_3 : jP[3]? = some (jc_3, 2, [], []) := by rfl
def p_3 (h : Hp) (q0 : Nat) (q1 : Nat) : Option (Hp) :=
  (p_1 h q0).bind fun vz1 =>
  if vz1 = 0 then
    (some h)
  else
    (w_gd (w_ix (h q0 9) 4) <|
    (p_13 h (9 * (h q0 9).toNatClampNeg + q0 + 28) (q0 + 1) q1 (q0 + 7)).bind fun vz5 =>
    w_let (w_up vz5 q0 9 (((vz5 q0 9) + 1) - ((vz5 q0 9) + 1) / 4 * 4)) fun hz6 =>
    w_let (w_up hz6 q0 8 (if 4 < ((hz6 q0 8) + 1) then 4 else ((hz6 q0 8) + 1) : Int32)) fun hz7 =>
    some hz7)
theorem p_3_ok {X : List Int32}  {h : Hp} {q0 : Nat} {q1 : Nat} (t0 : w_ob q0 0) (t1 : w_ob q1 8) {r : Hp} (hF : p_3 h q0 q1 = some r) : k_Ev X 2 3 [.ref (q0 + 1), .ref (q1 + 1)] h (.inl none, r) := by
  refine k_of hk_3 ?_
  show k_Go X 2 3 (0, [.ref (q0 + 1), .ref (q1 + 1)], []) h _
  unfold p_3 at hF
  refine kg_aload hk_3 rfl rfl rfl ?_
  refine wf_bind hF (fun vz1 hvz1 hF => ?_)
  refine kg_call (as := [.ref (q0 + 1)]) (rest := []) hk_3 rfl (Or.inr (Or.inr (Or.inr ⟨Or.inl rfl, _, _, rfl, t0⟩))) rfl rfl rfl (Nat.not_lt.mpr (Nat.le_of_ble_eq_true rfl)) (p_1_ok t0 hvz1) (by decide) rfl ?_
  refine wf_if hF (fun cz2 hF => ?_) (fun cz2 hF => ?_)
  · refine kg_ifT hk_3 rfl (jc_T0 cz2) ?_
    have hF := Option.some.inj hF
    subst hF
    exact kg_ret hk_3 rfl rfl
  · refine kg_ifF hk_3 rfl (jc_F0 cz2) rfl ?_
    refine kg_aload hk_3 rfl rfl rfl ?_
    refine kg_get (v := .ref ((q0 + 26) + 1)) hk_3 rfl (wf_0_6 t0) rfl rfl ?_
    refine kg_aload hk_3 rfl rfl rfl ?_
    refine kg_get (v := .int (h q0 9)) hk_3 rfl (wf_0_9 t0) rfl rfl ?_
    refine wf_gd hF (fun gz3 hF => ?_)
    have hez4 := w_E we_62 (wo_0_6 t0) gz3
    rw [show wef_62 (q0 + 26) (h q0 9).toNatClampNeg = (9 * (h q0 9).toNatClampNeg + q0 + 28) by unfold wef_62; omega] at hez4
    refine kg_aald (y := (9 * (h q0 9).toNatClampNeg + q0 + 28)) hk_3 rfl gz3 hez4.1 rfl ?_
    refine kg_aload hk_3 rfl rfl rfl ?_
    refine kg_get (v := .ref ((q0 + 1) + 1)) hk_3 rfl (wf_0_0 t0) rfl rfl ?_
    refine kg_aload hk_3 rfl rfl rfl ?_
    refine kg_aload hk_3 rfl rfl rfl ?_
    refine kg_get (v := .ref ((q0 + 7) + 1)) hk_3 rfl (wf_0_2 t0) rfl rfl ?_
    refine wf_bind hF (fun vz5 hvz5 hF => ?_)
    refine kg_call (as := [.ref ((9 * (h q0 9).toNatClampNeg + q0 + 28) + 1), .ref ((q0 + 1) + 1), .ref (q1 + 1), .ref ((q0 + 7) + 1)]) (rest := []) hk_3 rfl (Or.inr (Or.inr (Or.inr ⟨Or.inl rfl, _, _, rfl, hez4.2⟩))) rfl rfl rfl (Nat.not_lt.mpr (Nat.le_of_ble_eq_true rfl)) (p_13_ok hez4.2 (wo_0_0 t0) t1 (wo_0_2 t0) hvz5) (by decide) rfl ?_
    refine kg_aload hk_3 rfl rfl rfl ?_
    refine kg_aload hk_3 rfl rfl rfl ?_
    refine kg_get (v := .int (vz5 q0 9)) hk_3 rfl (wf_0_9 t0) rfl rfl ?_
    refine kg_push (x := 1) hk_3 rfl (by decide) rfl ?_
    refine kg_bin (z := ((vz5 q0 9) + 1)) hk_3 rfl rfl rfl ?_
    refine kg_push (x := 4) hk_3 rfl (by decide) rfl ?_
    refine kg_bin (z := (((vz5 q0 9) + 1) - ((vz5 q0 9) + 1) / 4 * 4)) hk_3 rfl (j_rem (by decide)) rfl ?_
    refine wf_let hF (fun hz6 hhz6 hF => ?_)
    refine kg_put hk_3 rfl (wf_0_9 t0) rfl rfl hhz6 rfl ?_
    refine kg_aload hk_3 rfl rfl rfl ?_
    refine kg_aload hk_3 rfl rfl rfl ?_
    refine kg_get (v := .int (hz6 q0 8)) hk_3 rfl (wf_0_8 t0) rfl rfl ?_
    refine kg_push (x := 1) hk_3 rfl (by decide) rfl ?_
    refine kg_bin (z := ((hz6 q0 8) + 1)) hk_3 rfl rfl rfl ?_
    refine kg_push (x := 4) hk_3 rfl (by decide) rfl ?_
    refine kg_min hk_3 rfl (Nat.not_lt.mpr (Nat.le_of_ble_eq_true rfl)) rfl ?_
    refine wf_let hF (fun hz7 hhz7 hF => ?_)
    refine kg_put hk_3 rfl (wf_0_8 t0) rfl rfl hhz7 rfl ?_
    have hF := Option.some.inj hF
    subst hF
    exact kg_ret hk_3 rfl rfl
-- NotebookWeir$Widgets.exists(I)Z
theorem hk_88 : jP[88]? = some (jc_88, 2, [], []) := by rfl
def v_88 (h : Hp) (x1 : Int32) : Int32 := (if x1 < 0 then 0 else (if x1 < (h 4 7) then 1 else 0 : Int32) : Int32)
theorem v_88_bo (h : Hp) (x1 : Int32) : w_bo (v_88 h x1) = true := by
  unfold v_88
  exact (w_boi rfl (w_boi rfl rfl))
theorem v_88_ok {X : List Int32} {h : Hp} {x1 : Int32}  : k_Ev X 0 88 [.ref (4 + 1), .int x1] h (.inl (some (.int (v_88 h x1))), h) := by
  refine k_of hk_88 ?_
  show k_Go X 0 88 (0, [.ref (4 + 1), .int x1], []) h _
  generalize hv : v_88 h x1 = z
  unfold v_88 at hv
  refine kg_iload hk_88 rfl rfl rfl ?_
  refine kv_mid (p := 9) (L := [.ref (4 + 1), .int x1]) (S := [.int (if x1 < 0 then 0 else (if x1 < (h 4 7) then 1 else 0 : Int32) : Int32)]) ?_ (fun hK => ?_)
  · exact kg_iret hk_88 rfl (Or.inr (w_boi rfl (w_boi rfl rfl))) (by rw [hv])
  · by_cases cz1 : x1 < 0
    · have hK := kv_T cz1 hK
      refine kg_ifT hk_88 rfl (jc_T2 cz1) ?_
      refine kg_push (x := 0) hk_88 rfl (by decide) rfl ?_
      exact hK
    · have hK := kv_F cz1 hK
      refine kg_ifF hk_88 rfl (jc_F2 cz1) rfl ?_
      refine kg_iload hk_88 rfl rfl rfl ?_
      refine kg_aload hk_88 rfl rfl rfl ?_
      refine kg_get (v := .int (h 4 7)) hk_88 rfl wk_4_7 rfl rfl ?_
      by_cases cz2 : x1 < (h 4 7)
      · have hK := kv_T cz2 hK
        refine kg_icF hk_88 rfl (jc_F3 cz2) rfl ?_
        refine kg_push (x := 1) hk_88 rfl (by decide) rfl ?_
        refine kg_goto hk_88 rfl ?_
        exact hK
      · have hK := kv_F cz2 hK
        refine kg_icT hk_88 rfl (jc_T3 cz2) ?_
        refine kg_push (x := 0) hk_88 rfl (by decide) rfl ?_
        exact hK
-- NotebookWeir$Widgets.shownBy(I)I
theorem hk_93 : jP[93]? = some (jc_93, 2, [], []) := by rfl
def v_93 (h : Hp) (x1 : Int32) : Int32 := (if (v_88 h x1) = 0 then 0 else (h 8 x1.toNatClampNeg) : Int32)
def g_93 (h : Hp) (x1 : Int32) : Bool := (if (v_88 h x1) = 0 then true else w_ix x1 4)
theorem v_93_ok {X : List Int32} {h : Hp} {x1 : Int32}  (hg : g_93 h x1 = true) : k_Ev X 1 93 [.ref (4 + 1), .int x1] h (.inl (some (.int (v_93 h x1))), h) := by
  refine k_of hk_93 ?_
  show k_Go X 1 93 (0, [.ref (4 + 1), .int x1], []) h _
  generalize hv : v_93 h x1 = z
  unfold v_93 at hv
  unfold g_93 at hg
  have gz3 := hg
  refine kg_aload hk_93 rfl rfl rfl ?_
  refine kg_iload hk_93 rfl rfl rfl ?_
  refine kg_call (as := [.ref (4 + 1), .int x1]) (rest := []) hk_93 rfl (Or.inr (Or.inr (Or.inr ⟨Or.inl rfl, _, _, rfl, wc_4⟩))) rfl rfl rfl (Nat.not_lt.mpr (Nat.le_of_ble_eq_true rfl)) (v_88_ok) (by decide) rfl ?_
  refine kv_mid (p := 10) (L := [.ref (4 + 1), .int x1]) (S := [.int (if (v_88 h x1) = 0 then 0 else (h 8 x1.toNatClampNeg) : Int32)]) ?_ (fun hK => ?_)
  · exact kg_iret hk_93 rfl (Or.inl rfl) (by rw [hv])
  · have hg := gz3
    by_cases cz1 : (v_88 h x1) = 0
    · have hK := kv_T cz1 hK
      refine kg_ifT hk_93 rfl (jc_T0 cz1) ?_
      refine kg_push (x := 0) hk_93 rfl (by decide) rfl ?_
      exact hK
    · have hg := wv_F cz1 hg
      have hK := kv_F cz1 hK
      have gz2 := hg
      refine kg_ifF hk_93 rfl (jc_F0 cz1) rfl ?_
      refine kg_aload hk_93 rfl rfl rfl ?_
      refine kg_get (v := .ref (8 + 1)) hk_93 rfl wk_4_3 rfl rfl ?_
      refine kg_iload hk_93 rfl rfl rfl ?_
      refine kg_ald (y := (h 8 x1.toNatClampNeg)) hk_93 rfl wc_8 gz2 rfl rfl ?_
      refine kg_goto hk_93 rfl ?_
      exact hK
-- NotebookWeir$Cell.settle(IILNotebookWeir$Widgets;)V
theorem hk_4 : jP[4]? = some (jc_4, 5, [], []) := by rfl
def l_4_11 (q0 : Nat) (x4 : Int32) (h : Hp) : Option ((Int32 × Hp) ⊕ Hp) :=
  if x4 < 4 then
    (w_gd (g_93 h x4) <|
    w_gd (w_ix x4 4) <|
    w_let (w_up h (q0 + 27) x4.toNatClampNeg (v_93 h x4)) fun hz7 =>
    some (.inl ((x4 + 1), hz7)))
  else
    (some (.inr h))
theorem l_4_11_st {X : List Int32} {o : kO}  {h : Hp} {q0 : Nat} {x4 : Int32} (t0 : w_ob q0 0) {r : (Int32 × Hp) ⊕ Hp} (hF : l_4_11 q0 x4 h = some r) (hK : ∀ s' : Int32 × Hp, r = .inl s' → ∀ (u1 : Value) (u2 : Value), k_Go X 2 4 (11, [.ref (q0 + 1), u1, u2, .ref (4 + 1), .int (s'.1)], []) s'.2 o) (hX0 : ∀ e : Hp, r = .inr e → (.inl none, e) = o) : ∀ (u1 : Value) (u2 : Value), k_Go X 2 4 (11, [.ref (q0 + 1), u1, u2, .ref (4 + 1), .int x4], []) h o := by
  intro u1 u2
  refine kg_iload hk_4 rfl rfl rfl ?_
  refine kg_push (x := 4) hk_4 rfl (by decide) rfl ?_
  refine wf_if hF (fun cz4 hF => ?_) (fun cz4 hF => ?_)
  · refine kg_icF hk_4 rfl (jc_F3 cz4) rfl ?_
    refine kg_aload hk_4 rfl rfl rfl ?_
    refine kg_get (v := .ref ((q0 + 27) + 1)) hk_4 rfl (wf_0_7 t0) rfl rfl ?_
    refine kg_iload hk_4 rfl rfl rfl ?_
    refine kg_aload hk_4 rfl rfl rfl ?_
    refine kg_iload hk_4 rfl rfl rfl ?_
    refine wf_gd hF (fun gz5 hF => ?_)
    refine kg_call (as := [.ref (4 + 1), .int x4]) (rest := [.int x4, .ref ((q0 + 27) + 1)]) hk_4 rfl (Or.inr (Or.inr (Or.inr ⟨Or.inl rfl, _, _, rfl, wc_4⟩))) rfl rfl rfl (Nat.not_lt.mpr (Nat.le_of_ble_eq_true rfl)) (v_93_ok gz5) (by decide) rfl ?_
    refine wf_gd hF (fun gz6 hF => ?_)
    refine wf_let hF (fun hz7 hhz7 hF => ?_)
    refine kg_ast hk_4 rfl (wo_0_7 t0) gz6 hhz7 rfl ?_
    refine kg_iinc (y := (x4 + 1)) (L2 := [.ref (q0 + 1), u1, u2, .ref (4 + 1), .int (x4 + 1)]) hk_4 rfl rfl rfl rfl rfl ?_
    refine kg_goto hk_4 rfl ?_
    have hF := Option.some.inj hF
    exact hK _ hF.symm _ _
  · refine kg_icT hk_4 rfl (jc_T3 cz4) ?_
    have hF := Option.some.inj hF
    exact kg_ret hk_4 rfl (hX0 _ hF.symm)
theorem l_4_11_ok {X : List Int32} {o : kO}  {q0 : Nat} (t0 : w_ob q0 0) {n : Nat} {s : Int32 × Hp} {e : Hp} (hF : w_lp (fun (s : Int32 × Hp) => l_4_11 q0 s.1 s.2) n s = some e) (hX0 : (.inl none, e) = o) : ∀ (u1 : Value) (u2 : Value), k_Go X 2 4 (11, [.ref (q0 + 1), u1, u2, .ref (4 + 1), .int s.1], []) s.2 o := by
  exact w_lp_ok (P := (fun (s : Int32 × Hp) => ∀ (u1 : Value) (u2 : Value), k_Go X 2 4 (11, [.ref (q0 + 1), u1, u2, .ref (4 + 1), .int s.1], []) s.2 o)) (Q := (fun (e : Hp) => ((.inl none, e) = o))) (fun s r hF hK hX => l_4_11_st t0 hF hK (fun x hx => (hX _ hx))) n s e hF hX0
def p_4 (h : Hp) (q0 : Nat) (x1 : Int32) (x2 : Int32) : Option (Hp) :=
  w_let (w_up h q0 15 1) fun hz1 =>
  w_let (w_up hz1 q0 14 x1) fun hz2 =>
  w_let (w_up hz2 q0 13 x2) fun hz3 =>
  w_lp (fun (s : Int32 × Hp) => l_4_11 q0 s.1 s.2) w_N (0, hz3)
theorem p_4_ok {X : List Int32}  {h : Hp} {q0 : Nat} {x1 : Int32} {x2 : Int32} (t0 : w_ob q0 0) {r : Hp} (hF : p_4 h q0 x1 x2 = some r) : k_Ev X 2 4 [.ref (q0 + 1), .int x1, .int x2, .ref (4 + 1)] h (.inl none, r) := by
  refine k_of hk_4 ?_
  show k_Go X 2 4 (0, [.ref (q0 + 1), .int x1, .int x2, .ref (4 + 1), (.retAddr 0)], []) h _
  unfold p_4 at hF
  refine kg_aload hk_4 rfl rfl rfl ?_
  refine kg_push (x := 1) hk_4 rfl (by decide) rfl ?_
  refine wf_let hF (fun hz1 hhz1 hF => ?_)
  refine kg_put hk_4 rfl (wf_0_15 t0) rfl (w_fitB rfl) hhz1 rfl ?_
  refine kg_aload hk_4 rfl rfl rfl ?_
  refine kg_iload hk_4 rfl rfl rfl ?_
  refine wf_let hF (fun hz2 hhz2 hF => ?_)
  refine kg_put hk_4 rfl (wf_0_14 t0) rfl rfl hhz2 rfl ?_
  refine kg_aload hk_4 rfl rfl rfl ?_
  refine kg_iload hk_4 rfl rfl rfl ?_
  refine wf_let hF (fun hz3 hhz3 hF => ?_)
  refine kg_put hk_4 rfl (wf_0_13 t0) rfl rfl hhz3 rfl ?_
  refine kg_push (x := 0) hk_4 rfl (by decide) rfl ?_
  refine kg_istore (L2 := [.ref (q0 + 1), .int x1, .int x2, .ref (4 + 1), .int 0]) hk_4 rfl (Nat.le_of_ble_eq_true rfl) rfl rfl ?_
  exact l_4_11_ok t0 hF rfl _ _
-- NotebookWeir.has(II)Z
theorem hk_126 : jP[126]? = some (jc_126, 2, [], []) := by rfl
def v_126 (x0 : Int32) (x1 : Int32) : Int32 := (if x1 < 0 then 0 else (if ((x0 >>> (x1 &&& 31)) &&& 1) = 0 then 0 else 1 : Int32) : Int32)
theorem v_126_bo (x0 : Int32) (x1 : Int32) : w_bo (v_126 x0 x1) = true := by
  unfold v_126
  exact (w_boi rfl (w_boi rfl rfl))
theorem v_126_ok {X : List Int32} {h : Hp} {x0 : Int32} {x1 : Int32}  : k_Ev X 0 126 [.int x0, .int x1] h (.inl (some (.int (v_126 x0 x1))), h) := by
  refine k_of hk_126 ?_
  show k_Go X 0 126 (0, [.int x0, .int x1], []) h _
  generalize hv : v_126 x0 x1 = z
  unfold v_126 at hv
  refine kg_iload hk_126 rfl rfl rfl ?_
  refine kv_mid (p := 11) (L := [.int x0, .int x1]) (S := [.int (if x1 < 0 then 0 else (if ((x0 >>> (x1 &&& 31)) &&& 1) = 0 then 0 else 1 : Int32) : Int32)]) ?_ (fun hK => ?_)
  · exact kg_iret hk_126 rfl (Or.inr (w_boi rfl (w_boi rfl rfl))) (by rw [hv])
  · by_cases cz1 : x1 < 0
    · have hK := kv_T cz1 hK
      refine kg_ifT hk_126 rfl (jc_T2 cz1) ?_
      refine kg_push (x := 0) hk_126 rfl (by decide) rfl ?_
      exact hK
    · have hK := kv_F cz1 hK
      refine kg_ifF hk_126 rfl (jc_F2 cz1) rfl ?_
      refine kg_iload hk_126 rfl rfl rfl ?_
      refine kg_iload hk_126 rfl rfl rfl ?_
      refine kg_bin (z := (x0 >>> (x1 &&& 31))) hk_126 rfl rfl rfl ?_
      refine kg_push (x := 1) hk_126 rfl (by decide) rfl ?_
      refine kg_bin (z := ((x0 >>> (x1 &&& 31)) &&& 1)) hk_126 rfl rfl rfl ?_
      by_cases cz2 : ((x0 >>> (x1 &&& 31)) &&& 1) = 0
      · have hK := kv_T cz2 hK
        refine kg_ifT hk_126 rfl (jc_T0 cz2) ?_
        refine kg_push (x := 0) hk_126 rfl (by decide) rfl ?_
        exact hK
      · have hK := kv_F cz2 hK
        refine kg_ifF hk_126 rfl (jc_F0 cz2) rfl ?_
        refine kg_push (x := 1) hk_126 rfl (by decide) rfl ?_
        refine kg_goto hk_126 rfl ?_
        exact hK
-- NotebookWeir$Cell.isAsThen(ILNotebookWeir$Widgets;)Z
theorem hk_5 : jP[5]? = some (jc_5, 4, [], []) := by rfl
def l_5_11 (h : Hp) (q0 : Nat) (x1 : Int32) (x3 : Int32) : Option ((Int32) ⊕ Int32) :=
  if x3 < 4 then
    (if (v_126 x1 (16 + x3)) = 0 then
      (some (.inl (x3 + 1)))
    else
      (w_gd (g_93 h x3) <|
      w_gd (w_ix x3 4) <|
      if (v_93 h x3) = (h (q0 + 27) x3.toNatClampNeg) then
        (some (.inl (x3 + 1)))
      else
        (some (.inr 0))))
  else
    (some (.inr 1))
theorem l_5_11_st {X : List Int32} {o : kO}  {h : Hp} {q0 : Nat} {x1 : Int32} {x3 : Int32} (t0 : w_ob q0 0) {r : (Int32) ⊕ Int32} (hF : l_5_11 h q0 x1 x3 = some r) (hK : ∀ s' : Int32, r = .inl s' → k_Go X 2 5 (11, [.ref (q0 + 1), .int x1, .ref (4 + 1), .int (s')], []) h o) (hX0 : ∀ e : Int32, r = .inr e → (.inl (some (.int e)), h) = o) : k_Go X 2 5 (11, [.ref (q0 + 1), .int x1, .ref (4 + 1), .int x3], []) h o := by
  refine kg_iload hk_5 rfl rfl rfl ?_
  refine kg_push (x := 4) hk_5 rfl (by decide) rfl ?_
  refine wf_if hF (fun cz3 hF => ?_) (fun cz3 hF => ?_)
  · refine kg_icF hk_5 rfl (jc_F3 cz3) rfl ?_
    refine kg_iload hk_5 rfl rfl rfl ?_
    refine kg_push (x := 16) hk_5 rfl (by decide) rfl ?_
    refine kg_iload hk_5 rfl rfl rfl ?_
    refine kg_bin (z := (16 + x3)) hk_5 rfl rfl rfl ?_
    refine kg_call (as := [.int x1, .int (16 + x3)]) (rest := []) hk_5 rfl (Or.inr (Or.inl rfl)) rfl rfl rfl (Nat.not_lt.mpr (Nat.le_of_ble_eq_true rfl)) (v_126_ok) (by decide) rfl ?_
    refine wf_if hF (fun cz4 hF => ?_) (fun cz4 hF => ?_)
    · refine kg_ifT hk_5 rfl (jc_T0 cz4) ?_
      refine kg_iinc (y := (x3 + 1)) (L2 := [.ref (q0 + 1), .int x1, .ref (4 + 1), .int (x3 + 1)]) hk_5 rfl rfl rfl rfl rfl ?_
      refine kg_goto hk_5 rfl ?_
      have hF := Option.some.inj hF
      exact hK _ hF.symm
    · refine kg_ifF hk_5 rfl (jc_F0 cz4) rfl ?_
      refine kg_aload hk_5 rfl rfl rfl ?_
      refine kg_iload hk_5 rfl rfl rfl ?_
      refine wf_gd hF (fun gz5 hF => ?_)
      refine kg_call (as := [.ref (4 + 1), .int x3]) (rest := []) hk_5 rfl (Or.inr (Or.inr (Or.inr ⟨Or.inl rfl, _, _, rfl, wc_4⟩))) rfl rfl rfl (Nat.not_lt.mpr (Nat.le_of_ble_eq_true rfl)) (v_93_ok gz5) (by decide) rfl ?_
      refine kg_aload hk_5 rfl rfl rfl ?_
      refine kg_get (v := .ref ((q0 + 27) + 1)) hk_5 rfl (wf_0_7 t0) rfl rfl ?_
      refine kg_iload hk_5 rfl rfl rfl ?_
      refine wf_gd hF (fun gz6 hF => ?_)
      refine kg_ald (y := (h (q0 + 27) x3.toNatClampNeg)) hk_5 rfl (wo_0_7 t0) gz6 rfl rfl ?_
      refine wf_if hF (fun cz7 hF => ?_) (fun cz7 hF => ?_)
      · refine kg_icT hk_5 rfl (jc_T0 cz7) ?_
        refine kg_iinc (y := (x3 + 1)) (L2 := [.ref (q0 + 1), .int x1, .ref (4 + 1), .int (x3 + 1)]) hk_5 rfl rfl rfl rfl rfl ?_
        refine kg_goto hk_5 rfl ?_
        have hF := Option.some.inj hF
        exact hK _ hF.symm
      · refine kg_icF hk_5 rfl (jc_F0 cz7) rfl ?_
        refine kg_push (x := 0) hk_5 rfl (by decide) rfl ?_
        have hF := Option.some.inj hF
        exact kg_iret hk_5 rfl (Or.inr rfl) (hX0 _ hF.symm)
  · refine kg_icT hk_5 rfl (jc_T3 cz3) ?_
    refine kg_push (x := 1) hk_5 rfl (by decide) rfl ?_
    have hF := Option.some.inj hF
    exact kg_iret hk_5 rfl (Or.inr rfl) (hX0 _ hF.symm)
theorem l_5_11_ok {X : List Int32} {o : kO}  {h : Hp} {q0 : Nat} {x1 : Int32} (t0 : w_ob q0 0) {n : Nat} {s : Int32} {e : Int32} (hF : w_lp (fun (s : Int32) => l_5_11 h q0 x1 s) n s = some e) (hX0 : (.inl (some (.int e)), h) = o) : k_Go X 2 5 (11, [.ref (q0 + 1), .int x1, .ref (4 + 1), .int s], []) h o := by
  exact w_lp_ok (P := (fun (s : Int32) => k_Go X 2 5 (11, [.ref (q0 + 1), .int x1, .ref (4 + 1), .int s], []) h o)) (Q := (fun (e : Int32) => ((.inl (some (.int e)), h) = o))) (fun s r hF hK hX => l_5_11_st t0 hF hK (fun x hx => (hX _ hx))) n s e hF hX0
def p_5 (h : Hp) (q0 : Nat) (x1 : Int32) : Option (Int32) :=
  if (h q0 15) = 0 then
    (some 0)
  else
    (if x1 = (h q0 13) then
      (w_lp (fun (s : Int32) => l_5_11 h q0 x1 s) w_N 0)
    else
      (some 0))
theorem p_5_ok {X : List Int32}  {h : Hp} {q0 : Nat} {x1 : Int32} (t0 : w_ob q0 0) {r : Int32} (hF : p_5 h q0 x1 = some r) : k_Ev X 2 5 [.ref (q0 + 1), .int x1, .ref (4 + 1)] h (.inl (some (.int r)), h) := by
  refine k_of hk_5 ?_
  show k_Go X 2 5 (0, [.ref (q0 + 1), .int x1, .ref (4 + 1), (.retAddr 0)], []) h _
  unfold p_5 at hF
  refine kg_aload hk_5 rfl rfl rfl ?_
  refine kg_get (v := .int (h q0 15)) hk_5 rfl (wf_0_15 t0) rfl rfl ?_
  refine wf_if hF (fun cz1 hF => ?_) (fun cz1 hF => ?_)
  · refine kg_ifT hk_5 rfl (jc_T0 cz1) ?_
    refine kg_push (x := 0) hk_5 rfl (by decide) rfl ?_
    have hF := Option.some.inj hF
    subst hF
    exact kg_iret hk_5 rfl (Or.inr rfl) rfl
  · refine kg_ifF hk_5 rfl (jc_F0 cz1) rfl ?_
    refine kg_iload hk_5 rfl rfl rfl ?_
    refine kg_aload hk_5 rfl rfl rfl ?_
    refine kg_get (v := .int (h q0 13)) hk_5 rfl (wf_0_13 t0) rfl rfl ?_
    refine wf_if hF (fun cz2 hF => ?_) (fun cz2 hF => ?_)
    · refine kg_icT hk_5 rfl (jc_T0 cz2) ?_
      refine kg_push (x := 0) hk_5 rfl (by decide) rfl ?_
      refine kg_istore (L2 := [.ref (q0 + 1), .int x1, .ref (4 + 1), .int 0]) hk_5 rfl (Nat.le_of_ble_eq_true rfl) rfl rfl ?_
      exact l_5_11_ok t0 hF rfl
    · refine kg_icF hk_5 rfl (jc_F0 cz2) rfl ?_
      refine kg_push (x := 0) hk_5 rfl (by decide) rfl ?_
      have hF := Option.some.inj hF
      subst hF
      exact kg_iret hk_5 rfl (Or.inr rfl) rfl
-- NotebookWeir$Cell.forget()V
theorem hk_6 : jP[6]? = some (jc_6, 1, [], []) := by rfl
def p_6 (h : Hp) (q0 : Nat) : Option (Hp) :=
  w_let (w_up h q0 15 0) fun hz1 =>
  w_let (w_up hz1 q0 8 0) fun hz2 =>
  w_let (w_up hz2 q0 9 0) fun hz3 =>
  some hz3
theorem p_6_ok {X : List Int32}  {h : Hp} {q0 : Nat} (t0 : w_ob q0 0) {r : Hp} (hF : p_6 h q0 = some r) : k_Ev X 0 6 [.ref (q0 + 1)] h (.inl none, r) := by
  refine k_of hk_6 ?_
  show k_Go X 0 6 (0, [.ref (q0 + 1)], []) h _
  unfold p_6 at hF
  refine kg_aload hk_6 rfl rfl rfl ?_
  refine kg_push (x := 0) hk_6 rfl (by decide) rfl ?_
  refine wf_let hF (fun hz1 hhz1 hF => ?_)
  refine kg_put hk_6 rfl (wf_0_15 t0) rfl (w_fitB rfl) hhz1 rfl ?_
  refine kg_aload hk_6 rfl rfl rfl ?_
  refine kg_push (x := 0) hk_6 rfl (by decide) rfl ?_
  refine wf_let hF (fun hz2 hhz2 hF => ?_)
  refine kg_put hk_6 rfl (wf_0_8 t0) rfl rfl hhz2 rfl ?_
  refine kg_aload hk_6 rfl rfl rfl ?_
  refine kg_push (x := 0) hk_6 rfl (by decide) rfl ?_
  refine wf_let hF (fun hz3 hhz3 hF => ?_)
  refine kg_put hk_6 rfl (wf_0_9 t0) rfl rfl hhz3 rfl ?_
  have hF := Option.some.inj hF
  subst hF
  exact kg_ret hk_6 rfl rfl
-- NotebookWeir$Code.clear(I)V
theorem hk_8 : jP[8]? = some (jc_8, 2, [], []) := by rfl
def p_8 (h : Hp) (q0 : Nat) (x1 : Int32) : Option (Hp) :=
  w_let (w_up h q0 3 0) fun hz1 =>
  w_let (w_up hz1 q0 4 x1) fun hz2 =>
  w_let (w_up hz2 q0 5 0) fun hz3 =>
  w_let (w_up hz3 q0 6 0) fun hz4 =>
  w_let (w_up hz4 q0 7 0) fun hz5 =>
  some hz5
theorem p_8_ok {X : List Int32}  {h : Hp} {q0 : Nat} {x1 : Int32} (t0 : w_ob q0 1) {r : Hp} (hF : p_8 h q0 x1 = some r) : k_Ev X 0 8 [.ref (q0 + 1), .int x1] h (.inl none, r) := by
  refine k_of hk_8 ?_
  show k_Go X 0 8 (0, [.ref (q0 + 1), .int x1], []) h _
  unfold p_8 at hF
  refine kg_aload hk_8 rfl rfl rfl ?_
  refine kg_push (x := 0) hk_8 rfl (by decide) rfl ?_
  refine wf_let hF (fun hz1 hhz1 hF => ?_)
  refine kg_put hk_8 rfl (wf_1_3 t0) rfl rfl hhz1 rfl ?_
  refine kg_aload hk_8 rfl rfl rfl ?_
  refine kg_iload hk_8 rfl rfl rfl ?_
  refine wf_let hF (fun hz2 hhz2 hF => ?_)
  refine kg_put hk_8 rfl (wf_1_4 t0) rfl rfl hhz2 rfl ?_
  refine kg_aload hk_8 rfl rfl rfl ?_
  refine kg_push (x := 0) hk_8 rfl (by decide) rfl ?_
  refine wf_let hF (fun hz3 hhz3 hF => ?_)
  refine kg_put hk_8 rfl (wf_1_5 t0) rfl rfl hhz3 rfl ?_
  refine kg_aload hk_8 rfl rfl rfl ?_
  refine kg_push (x := 0) hk_8 rfl (by decide) rfl ?_
  refine wf_let hF (fun hz4 hhz4 hF => ?_)
  refine kg_put hk_8 rfl (wf_1_6 t0) rfl rfl hhz4 rfl ?_
  refine kg_aload hk_8 rfl rfl rfl ?_
  refine kg_push (x := 0) hk_8 rfl (by decide) rfl ?_
  refine wf_let hF (fun hz5 hhz5 hF => ?_)
  refine kg_put hk_8 rfl (wf_1_7 t0) rfl rfl hhz5 rfl ?_
  have hF := Option.some.inj hF
  subst hF
  exact kg_ret hk_8 rfl rfl
-- NotebookWeir$Code.take(LNotebookWeir$Code;)V
theorem hk_9 : jP[9]? = some (jc_9, 2, [], []) := by rfl
def p_9 (h : Hp) (q0 : Nat) (q1 : Nat) : Option (Hp) :=
  w_let (w_cp h (q1 + 1) (q0 + 1) 0 0 41) fun hz1 =>
  w_let (w_cp hz1 (q1 + 2) (q0 + 2) 0 0 41) fun hz2 =>
  w_let (w_cp hz2 (q1 + 3) (q0 + 3) 0 0 41) fun hz3 =>
  w_let (w_up hz3 q0 3 (hz3 q1 3)) fun hz4 =>
  w_let (w_up hz4 q0 4 (hz4 q1 4)) fun hz5 =>
  w_let (w_up hz5 q0 5 (hz5 q1 5)) fun hz6 =>
  w_let (w_up hz6 q0 6 (hz6 q1 6)) fun hz7 =>
  w_let (w_up hz7 q0 7 (hz7 q1 7)) fun hz8 =>
  some hz8
theorem p_9_ok {X : List Int32}  {h : Hp} {q0 : Nat} {q1 : Nat} (t0 : w_ob q0 1) (t1 : w_ob q1 1) {r : Hp} (hF : p_9 h q0 q1 = some r) : k_Ev X 0 9 [.ref (q0 + 1), .ref (q1 + 1)] h (.inl none, r) := by
  refine k_of hk_9 ?_
  show k_Go X 0 9 (0, [.ref (q0 + 1), .ref (q1 + 1)], []) h _
  unfold p_9 at hF
  refine kg_aload hk_9 rfl rfl rfl ?_
  refine kg_get (v := .ref ((q1 + 1) + 1)) hk_9 rfl (wf_1_0 t1) rfl rfl ?_
  refine kg_push (x := 0) hk_9 rfl (by decide) rfl ?_
  refine kg_aload hk_9 rfl rfl rfl ?_
  refine kg_get (v := .ref ((q0 + 1) + 1)) hk_9 rfl (wf_1_0 t0) rfl rfl ?_
  refine kg_push (x := 0) hk_9 rfl (by decide) rfl ?_
  refine kg_push (x := 41) hk_9 rfl (by decide) rfl ?_
  refine wf_let hF (fun hz1 hhz1 hF => ?_)
  refine kg_acopy hk_9 rfl (wo_1_0 t1) (wo_1_0 t0) ⟨by decide, by decide, by decide, by decide, by decide⟩ (Nat.le_of_ble_eq_true rfl) hhz1 rfl ?_
  refine kg_aload hk_9 rfl rfl rfl ?_
  refine kg_get (v := .ref ((q1 + 2) + 1)) hk_9 rfl (wf_1_1 t1) rfl rfl ?_
  refine kg_push (x := 0) hk_9 rfl (by decide) rfl ?_
  refine kg_aload hk_9 rfl rfl rfl ?_
  refine kg_get (v := .ref ((q0 + 2) + 1)) hk_9 rfl (wf_1_1 t0) rfl rfl ?_
  refine kg_push (x := 0) hk_9 rfl (by decide) rfl ?_
  refine kg_push (x := 41) hk_9 rfl (by decide) rfl ?_
  refine wf_let hF (fun hz2 hhz2 hF => ?_)
  refine kg_acopy hk_9 rfl (wo_1_1 t1) (wo_1_1 t0) ⟨by decide, by decide, by decide, by decide, by decide⟩ (Nat.le_of_ble_eq_true rfl) hhz2 rfl ?_
  refine kg_aload hk_9 rfl rfl rfl ?_
  refine kg_get (v := .ref ((q1 + 3) + 1)) hk_9 rfl (wf_1_2 t1) rfl rfl ?_
  refine kg_push (x := 0) hk_9 rfl (by decide) rfl ?_
  refine kg_aload hk_9 rfl rfl rfl ?_
  refine kg_get (v := .ref ((q0 + 3) + 1)) hk_9 rfl (wf_1_2 t0) rfl rfl ?_
  refine kg_push (x := 0) hk_9 rfl (by decide) rfl ?_
  refine kg_push (x := 41) hk_9 rfl (by decide) rfl ?_
  refine wf_let hF (fun hz3 hhz3 hF => ?_)
  refine kg_acopy hk_9 rfl (wo_1_2 t1) (wo_1_2 t0) ⟨by decide, by decide, by decide, by decide, by decide⟩ (Nat.le_of_ble_eq_true rfl) hhz3 rfl ?_
  refine kg_aload hk_9 rfl rfl rfl ?_
  refine kg_aload hk_9 rfl rfl rfl ?_
  refine kg_get (v := .int (hz3 q1 3)) hk_9 rfl (wf_1_3 t1) rfl rfl ?_
  refine wf_let hF (fun hz4 hhz4 hF => ?_)
  refine kg_put hk_9 rfl (wf_1_3 t0) rfl rfl hhz4 rfl ?_
  refine kg_aload hk_9 rfl rfl rfl ?_
  refine kg_aload hk_9 rfl rfl rfl ?_
  refine kg_get (v := .int (hz4 q1 4)) hk_9 rfl (wf_1_4 t1) rfl rfl ?_
  refine wf_let hF (fun hz5 hhz5 hF => ?_)
  refine kg_put hk_9 rfl (wf_1_4 t0) rfl rfl hhz5 rfl ?_
  refine kg_aload hk_9 rfl rfl rfl ?_
  refine kg_aload hk_9 rfl rfl rfl ?_
  refine kg_get (v := .int (hz5 q1 5)) hk_9 rfl (wf_1_5 t1) rfl rfl ?_
  refine wf_let hF (fun hz6 hhz6 hF => ?_)
  refine kg_put hk_9 rfl (wf_1_5 t0) rfl rfl hhz6 rfl ?_
  refine kg_aload hk_9 rfl rfl rfl ?_
  refine kg_aload hk_9 rfl rfl rfl ?_
  refine kg_get (v := .int (hz6 q1 6)) hk_9 rfl (wf_1_6 t1) rfl rfl ?_
  refine wf_let hF (fun hz7 hhz7 hF => ?_)
  refine kg_put hk_9 rfl (wf_1_6 t0) rfl rfl hhz7 rfl ?_
  refine kg_aload hk_9 rfl rfl rfl ?_
  refine kg_aload hk_9 rfl rfl rfl ?_
  refine kg_get (v := .int (hz7 q1 7)) hk_9 rfl (wf_1_7 t1) rfl rfl ?_
  refine wf_let hF (fun hz8 hhz8 hF => ?_)
  refine kg_put hk_9 rfl (wf_1_7 t0) rfl rfl hhz8 rfl ?_
  have hF := Option.some.inj hF
  subst hF
  exact kg_ret hk_9 rfl rfl
-- NotebookWeir$Code.add(III)V
theorem hk_10 : jP[10]? = some (jc_10, 4, [], []) := by rfl
def p_10 (h : Hp) (q0 : Nat) (x1 : Int32) (x2 : Int32) (x3 : Int32) : Option (Hp) :=
  if (h q0 3) < 41 then
    (w_gd (w_ix (h q0 3) 41) <|
    w_let (w_up h (q0 + 1) ((h q0 3).toNatClampNeg) x1) fun hz3 =>
    w_gd (w_ix (hz3 q0 3) 41) <|
    w_let (w_up hz3 (q0 + 2) ((hz3 q0 3).toNatClampNeg) x2) fun hz5 =>
    w_gd (w_ix (hz5 q0 3) 41) <|
    w_let (w_up hz5 (q0 + 3) ((hz5 q0 3).toNatClampNeg) x3) fun hz7 =>
    w_let (w_up hz7 q0 3 ((hz7 q0 3) + 1)) fun hz8 =>
    some hz8)
  else
    (some h)
theorem p_10_ok {X : List Int32}  {h : Hp} {q0 : Nat} {x1 : Int32} {x2 : Int32} {x3 : Int32} (t0 : w_ob q0 1) {r : Hp} (hF : p_10 h q0 x1 x2 x3 = some r) : k_Ev X 0 10 [.ref (q0 + 1), .int x1, .int x2, .int x3] h (.inl none, r) := by
  refine k_of hk_10 ?_
  show k_Go X 0 10 (0, [.ref (q0 + 1), .int x1, .int x2, .int x3], []) h _
  unfold p_10 at hF
  refine kg_aload hk_10 rfl rfl rfl ?_
  refine kg_get (v := .int (h q0 3)) hk_10 rfl (wf_1_3 t0) rfl rfl ?_
  refine kg_push (x := 41) hk_10 rfl (by decide) rfl ?_
  refine wf_if hF (fun cz1 hF => ?_) (fun cz1 hF => ?_)
  · refine kg_icF hk_10 rfl (jc_F3 cz1) rfl ?_
    refine kg_aload hk_10 rfl rfl rfl ?_
    refine kg_get (v := .ref ((q0 + 1) + 1)) hk_10 rfl (wf_1_0 t0) rfl rfl ?_
    refine kg_aload hk_10 rfl rfl rfl ?_
    refine kg_get (v := .int (h q0 3)) hk_10 rfl (wf_1_3 t0) rfl rfl ?_
    refine kg_iload hk_10 rfl rfl rfl ?_
    refine wf_gd hF (fun gz2 hF => ?_)
    refine wf_let hF (fun hz3 hhz3 hF => ?_)
    refine kg_ast hk_10 rfl (wo_1_0 t0) gz2 hhz3 rfl ?_
    refine kg_aload hk_10 rfl rfl rfl ?_
    refine kg_get (v := .ref ((q0 + 2) + 1)) hk_10 rfl (wf_1_1 t0) rfl rfl ?_
    refine kg_aload hk_10 rfl rfl rfl ?_
    refine kg_get (v := .int (hz3 q0 3)) hk_10 rfl (wf_1_3 t0) rfl rfl ?_
    refine kg_iload hk_10 rfl rfl rfl ?_
    refine wf_gd hF (fun gz4 hF => ?_)
    refine wf_let hF (fun hz5 hhz5 hF => ?_)
    refine kg_ast hk_10 rfl (wo_1_1 t0) gz4 hhz5 rfl ?_
    refine kg_aload hk_10 rfl rfl rfl ?_
    refine kg_get (v := .ref ((q0 + 3) + 1)) hk_10 rfl (wf_1_2 t0) rfl rfl ?_
    refine kg_aload hk_10 rfl rfl rfl ?_
    refine kg_get (v := .int (hz5 q0 3)) hk_10 rfl (wf_1_3 t0) rfl rfl ?_
    refine kg_iload hk_10 rfl rfl rfl ?_
    refine wf_gd hF (fun gz6 hF => ?_)
    refine wf_let hF (fun hz7 hhz7 hF => ?_)
    refine kg_ast hk_10 rfl (wo_1_2 t0) gz6 hhz7 rfl ?_
    refine kg_aload hk_10 rfl rfl rfl ?_
    refine kg_dup hk_10 rfl rfl rfl ?_
    refine kg_get (v := .int (hz7 q0 3)) hk_10 rfl (wf_1_3 t0) rfl rfl ?_
    refine kg_push (x := 1) hk_10 rfl (by decide) rfl ?_
    refine kg_bin (z := ((hz7 q0 3) + 1)) hk_10 rfl rfl rfl ?_
    refine wf_let hF (fun hz8 hhz8 hF => ?_)
    refine kg_put hk_10 rfl (wf_1_3 t0) rfl rfl hhz8 rfl ?_
    have hF := Option.some.inj hF
    subst hF
    exact kg_ret hk_10 rfl rfl
  · refine kg_icT hk_10 rfl (jc_T3 cz1) ?_
    have hF := Option.some.inj hF
    subst hF
    exact kg_ret hk_10 rfl rfl
-- NotebookWeir$Values.putNumber(II)V
theorem hk_68 : jP[68]? = some (jc_68, 3, [], []) := by rfl
def p_68 (h : Hp) (q0 : Nat) (x1 : Int32) (x2 : Int32) : Option (Hp) :=
  if x1 < 0 then
    (some h)
  else
    (if x1 < 27 then
      (w_gd (w_ix x1 27) <|
      w_let (w_up h (q0 + 1) x1.toNatClampNeg 1) fun hz4 =>
      w_gd (w_ix (x1 * 8) 216) <|
      w_let (w_up hz4 (q0 + 2) ((x1 * 8).toNatClampNeg) x2) fun hz6 =>
      some hz6)
    else
      (some h))
theorem p_68_ok {X : List Int32}  {h : Hp} {q0 : Nat} {x1 : Int32} {x2 : Int32} (t0 : w_ob q0 8) {r : Hp} (hF : p_68 h q0 x1 x2 = some r) : k_Ev X 0 68 [.ref (q0 + 1), .int x1, .int x2] h (.inl none, r) := by
  refine k_of hk_68 ?_
  show k_Go X 0 68 (0, [.ref (q0 + 1), .int x1, .int x2], []) h _
  unfold p_68 at hF
  refine kg_iload hk_68 rfl rfl rfl ?_
  refine wf_if hF (fun cz1 hF => ?_) (fun cz1 hF => ?_)
  · refine kg_ifT hk_68 rfl (jc_T2 cz1) ?_
    have hF := Option.some.inj hF
    subst hF
    exact kg_ret hk_68 rfl rfl
  · refine kg_ifF hk_68 rfl (jc_F2 cz1) rfl ?_
    refine kg_iload hk_68 rfl rfl rfl ?_
    refine kg_push (x := 27) hk_68 rfl (by decide) rfl ?_
    refine wf_if hF (fun cz2 hF => ?_) (fun cz2 hF => ?_)
    · refine kg_icF hk_68 rfl (jc_F3 cz2) rfl ?_
      refine kg_aload hk_68 rfl rfl rfl ?_
      refine kg_get (v := .ref ((q0 + 1) + 1)) hk_68 rfl (wf_8_0 t0) rfl rfl ?_
      refine kg_iload hk_68 rfl rfl rfl ?_
      refine kg_push (x := 1) hk_68 rfl (by decide) rfl ?_
      refine wf_gd hF (fun gz3 hF => ?_)
      refine wf_let hF (fun hz4 hhz4 hF => ?_)
      refine kg_ast hk_68 rfl (wo_8_0 t0) gz3 hhz4 rfl ?_
      refine kg_aload hk_68 rfl rfl rfl ?_
      refine kg_get (v := .ref ((q0 + 2) + 1)) hk_68 rfl (wf_8_1 t0) rfl rfl ?_
      refine kg_iload hk_68 rfl rfl rfl ?_
      refine kg_push (x := 8) hk_68 rfl (by decide) rfl ?_
      refine kg_bin (z := (x1 * 8)) hk_68 rfl rfl rfl ?_
      refine kg_iload hk_68 rfl rfl rfl ?_
      refine wf_gd hF (fun gz5 hF => ?_)
      refine wf_let hF (fun hz6 hhz6 hF => ?_)
      refine kg_ast hk_68 rfl (wo_8_1 t0) gz5 hhz6 rfl ?_
      have hF := Option.some.inj hF
      subst hF
      exact kg_ret hk_68 rfl rfl
    · refine kg_icT hk_68 rfl (jc_T3 cz2) ?_
      have hF := Option.some.inj hF
      subst hF
      exact kg_ret hk_68 rfl rfl
-- NotebookWeir$Machine.push(I)I
theorem hk_19 : jP[19]? = some (jc_19, 2, [], []) := by rfl
def p_19 (h : Hp) (x1 : Int32) : Option (Int32 × Hp) :=
  (p_68 h 32 (h 28 2) x1).bind fun vz1 =>
  w_let (w_up vz1 28 2 ((vz1 28 2) + 1)) fun hz2 =>
  some (0, hz2)
theorem p_19_ok {X : List Int32}  {h : Hp} {x1 : Int32}  {r : Int32 × Hp} (hF : p_19 h x1 = some r) : k_Ev X 1 19 [.ref (28 + 1), .int x1] h (.inl (some (.int r.1)), r.2) := by
  refine k_of hk_19 ?_
  show k_Go X 1 19 (0, [.ref (28 + 1), .int x1], []) h _
  unfold p_19 at hF
  refine kg_aload hk_19 rfl rfl rfl ?_
  refine kg_get (v := .ref (32 + 1)) hk_19 rfl wk_28_1 rfl rfl ?_
  refine kg_aload hk_19 rfl rfl rfl ?_
  refine kg_get (v := .int (h 28 2)) hk_19 rfl wk_28_2 rfl rfl ?_
  refine kg_iload hk_19 rfl rfl rfl ?_
  refine wf_bind hF (fun vz1 hvz1 hF => ?_)
  refine kg_call (as := [.ref (32 + 1), .int (h 28 2), .int x1]) (rest := []) hk_19 rfl (Or.inr (Or.inr (Or.inr ⟨Or.inl rfl, _, _, rfl, wc_32⟩))) rfl rfl rfl (Nat.not_lt.mpr (Nat.le_of_ble_eq_true rfl)) (p_68_ok wc_32 hvz1) (by decide) rfl ?_
  refine kg_aload hk_19 rfl rfl rfl ?_
  refine kg_dup hk_19 rfl rfl rfl ?_
  refine kg_get (v := .int (vz1 28 2)) hk_19 rfl wk_28_2 rfl rfl ?_
  refine kg_push (x := 1) hk_19 rfl (by decide) rfl ?_
  refine kg_bin (z := ((vz1 28 2) + 1)) hk_19 rfl rfl rfl ?_
  refine wf_let hF (fun hz2 hhz2 hF => ?_)
  refine kg_put hk_19 rfl wk_28_2 rfl rfl hhz2 rfl ?_
  refine kg_push (x := 0) hk_19 rfl (by decide) rfl ?_
  have hF := Option.some.inj hF
  subst hF
  exact kg_iret hk_19 rfl (Or.inl rfl) rfl
-- NotebookWeir$Values.shapeOf(I)I
theorem hk_63 : jP[63]? = some (jc_63, 2, [], []) := by rfl
def v_63 (h : Hp) (q0 : Nat) (x1 : Int32) : Int32 := (if x1 < 0 then 0 else (if x1 < 27 then (h (q0 + 1) x1.toNatClampNeg) else 0 : Int32) : Int32)
def g_63 (q0 : Nat) (x1 : Int32) : Bool := (if x1 < 0 then true else (if x1 < 27 then w_ix x1 27 else true))
theorem v_63_ok {X : List Int32} {h : Hp} {q0 : Nat} {x1 : Int32} (t0 : w_ob q0 8) (hg : g_63 q0 x1 = true) : k_Ev X 0 63 [.ref (q0 + 1), .int x1] h (.inl (some (.int (v_63 h q0 x1))), h) := by
  refine k_of hk_63 ?_
  show k_Go X 0 63 (0, [.ref (q0 + 1), .int x1], []) h _
  generalize hv : v_63 h q0 x1 = z
  unfold v_63 at hv
  unfold g_63 at hg
  have gz4 := hg
  refine kg_iload hk_63 rfl rfl rfl ?_
  refine kv_mid (p := 11) (L := [.ref (q0 + 1), .int x1]) (S := [.int (if x1 < 0 then 0 else (if x1 < 27 then (h (q0 + 1) x1.toNatClampNeg) else 0 : Int32) : Int32)]) ?_ (fun hK => ?_)
  · exact kg_iret hk_63 rfl (Or.inl rfl) (by rw [hv])
  · have hg := gz4
    by_cases cz1 : x1 < 0
    · have hK := kv_T cz1 hK
      refine kg_ifT hk_63 rfl (jc_T2 cz1) ?_
      refine kg_push (x := 0) hk_63 rfl (by decide) rfl ?_
      exact hK
    · have hg := wv_F cz1 hg
      have hK := kv_F cz1 hK
      refine kg_ifF hk_63 rfl (jc_F2 cz1) rfl ?_
      refine kg_iload hk_63 rfl rfl rfl ?_
      refine kg_push (x := 27) hk_63 rfl (by decide) rfl ?_
      by_cases cz2 : x1 < 27
      · have hg := wv_T cz2 hg
        have hK := kv_T cz2 hK
        have gz3 := hg
        refine kg_icF hk_63 rfl (jc_F3 cz2) rfl ?_
        refine kg_aload hk_63 rfl rfl rfl ?_
        refine kg_get (v := .ref ((q0 + 1) + 1)) hk_63 rfl (wf_8_0 t0) rfl rfl ?_
        refine kg_iload hk_63 rfl rfl rfl ?_
        refine kg_ald (y := (h (q0 + 1) x1.toNatClampNeg)) hk_63 rfl (wo_8_0 t0) gz3 rfl rfl ?_
        refine kg_goto hk_63 rfl ?_
        exact hK
      · have hK := kv_F cz2 hK
        refine kg_icT hk_63 rfl (jc_T3 cz2) ?_
        refine kg_push (x := 0) hk_63 rfl (by decide) rfl ?_
        exact hK
-- NotebookWeir$Values.copy(ILNotebookWeir$Values;I)V
theorem hk_71 : jP[71]? = some (jc_71, 5, [], []) := by rfl
def l_71_20 (q0 : Nat) (x1 : Int32) (q2 : Nat) (x3 : Int32) (x4 : Int32) (h : Hp) : Option ((Int32 × Hp) ⊕ Hp) :=
  if x4 < 8 then
    (w_gd (w_ix ((x3 * 8) + x4) 216) <|
    w_gd (w_ix ((x1 * 8) + x4) 216) <|
    w_let (w_up h (q0 + 2) (((x1 * 8) + x4).toNatClampNeg) (h (q2 + 2) ((x3 * 8) + x4).toNatClampNeg)) fun hz11 =>
    some (.inl ((x4 + 1), hz11)))
  else
    (some (.inr h))
theorem l_71_20_st {X : List Int32} {o : kO}  {h : Hp} {q0 : Nat} {q2 : Nat} {x1 : Int32} {x3 : Int32} {x4 : Int32} (t0 : w_ob q0 8) (t2 : w_ob q2 8) {r : (Int32 × Hp) ⊕ Hp} (hF : l_71_20 q0 x1 q2 x3 x4 h = some r) (hK : ∀ s' : Int32 × Hp, r = .inl s' → k_Go X 0 71 (20, [.ref (q0 + 1), .int x1, .ref (q2 + 1), .int x3, .int (s'.1)], []) s'.2 o) (hX0 : ∀ e : Hp, r = .inr e → (.inl none, e) = o) : k_Go X 0 71 (20, [.ref (q0 + 1), .int x1, .ref (q2 + 1), .int x3, .int x4], []) h o := by
  refine kg_iload hk_71 rfl rfl rfl ?_
  refine kg_push (x := 8) hk_71 rfl (by decide) rfl ?_
  refine wf_if hF (fun cz8 hF => ?_) (fun cz8 hF => ?_)
  · refine kg_icF hk_71 rfl (jc_F3 cz8) rfl ?_
    refine kg_aload hk_71 rfl rfl rfl ?_
    refine kg_get (v := .ref ((q0 + 2) + 1)) hk_71 rfl (wf_8_1 t0) rfl rfl ?_
    refine kg_iload hk_71 rfl rfl rfl ?_
    refine kg_push (x := 8) hk_71 rfl (by decide) rfl ?_
    refine kg_bin (z := (x1 * 8)) hk_71 rfl rfl rfl ?_
    refine kg_iload hk_71 rfl rfl rfl ?_
    refine kg_bin (z := ((x1 * 8) + x4)) hk_71 rfl rfl rfl ?_
    refine kg_aload hk_71 rfl rfl rfl ?_
    refine kg_get (v := .ref ((q2 + 2) + 1)) hk_71 rfl (wf_8_1 t2) rfl rfl ?_
    refine kg_iload hk_71 rfl rfl rfl ?_
    refine kg_push (x := 8) hk_71 rfl (by decide) rfl ?_
    refine kg_bin (z := (x3 * 8)) hk_71 rfl rfl rfl ?_
    refine kg_iload hk_71 rfl rfl rfl ?_
    refine kg_bin (z := ((x3 * 8) + x4)) hk_71 rfl rfl rfl ?_
    refine wf_gd hF (fun gz9 hF => ?_)
    refine kg_ald (y := (h (q2 + 2) ((x3 * 8) + x4).toNatClampNeg)) hk_71 rfl (wo_8_1 t2) gz9 rfl rfl ?_
    refine wf_gd hF (fun gz10 hF => ?_)
    refine wf_let hF (fun hz11 hhz11 hF => ?_)
    refine kg_ast hk_71 rfl (wo_8_1 t0) gz10 hhz11 rfl ?_
    refine kg_iinc (y := (x4 + 1)) (L2 := [.ref (q0 + 1), .int x1, .ref (q2 + 1), .int x3, .int (x4 + 1)]) hk_71 rfl rfl rfl rfl rfl ?_
    refine kg_goto hk_71 rfl ?_
    have hF := Option.some.inj hF
    exact hK _ hF.symm
  · refine kg_icT hk_71 rfl (jc_T3 cz8) ?_
    have hF := Option.some.inj hF
    exact kg_ret hk_71 rfl (hX0 _ hF.symm)
theorem l_71_20_ok {X : List Int32} {o : kO}  {q0 : Nat} {q2 : Nat} {x1 : Int32} {x3 : Int32} (t0 : w_ob q0 8) (t2 : w_ob q2 8) {n : Nat} {s : Int32 × Hp} {e : Hp} (hF : w_lp (fun (s : Int32 × Hp) => l_71_20 q0 x1 q2 x3 s.1 s.2) n s = some e) (hX0 : (.inl none, e) = o) : k_Go X 0 71 (20, [.ref (q0 + 1), .int x1, .ref (q2 + 1), .int x3, .int s.1], []) s.2 o := by
  exact w_lp_ok (P := (fun (s : Int32 × Hp) => k_Go X 0 71 (20, [.ref (q0 + 1), .int x1, .ref (q2 + 1), .int x3, .int s.1], []) s.2 o)) (Q := (fun (e : Hp) => ((.inl none, e) = o))) (fun s r hF hK hX => l_71_20_st t0 t2 hF hK (fun x hx => (hX _ hx))) n s e hF hX0
def p_71 (h : Hp) (q0 : Nat) (x1 : Int32) (q2 : Nat) (x3 : Int32) : Option (Hp) :=
  if x1 < 0 then
    (some h)
  else
    (if x1 < 27 then
      (if x3 < 0 then
        (some h)
      else
        (if x3 < 27 then
          (w_gd (w_ix x3 27) <|
          w_gd (w_ix x1 27) <|
          w_let (w_up h (q0 + 1) x1.toNatClampNeg (h (q2 + 1) x3.toNatClampNeg)) fun hz7 =>
          w_lp (fun (s : Int32 × Hp) => l_71_20 q0 x1 q2 x3 s.1 s.2) w_N (0, hz7))
        else
          (some h)))
    else
      (some h))
theorem p_71_ok {X : List Int32}  {h : Hp} {q0 : Nat} {x1 : Int32} {q2 : Nat} {x3 : Int32} (t0 : w_ob q0 8) (t2 : w_ob q2 8) {r : Hp} (hF : p_71 h q0 x1 q2 x3 = some r) : k_Ev X 0 71 [.ref (q0 + 1), .int x1, .ref (q2 + 1), .int x3] h (.inl none, r) := by
  refine k_of hk_71 ?_
  show k_Go X 0 71 (0, [.ref (q0 + 1), .int x1, .ref (q2 + 1), .int x3, (.retAddr 0)], []) h _
  unfold p_71 at hF
  refine kg_iload hk_71 rfl rfl rfl ?_
  refine wf_if hF (fun cz1 hF => ?_) (fun cz1 hF => ?_)
  · refine kg_ifT hk_71 rfl (jc_T2 cz1) ?_
    have hF := Option.some.inj hF
    subst hF
    exact kg_ret hk_71 rfl rfl
  · refine kg_ifF hk_71 rfl (jc_F2 cz1) rfl ?_
    refine kg_iload hk_71 rfl rfl rfl ?_
    refine kg_push (x := 27) hk_71 rfl (by decide) rfl ?_
    refine wf_if hF (fun cz2 hF => ?_) (fun cz2 hF => ?_)
    · refine kg_icF hk_71 rfl (jc_F3 cz2) rfl ?_
      refine kg_iload hk_71 rfl rfl rfl ?_
      refine wf_if hF (fun cz3 hF => ?_) (fun cz3 hF => ?_)
      · refine kg_ifT hk_71 rfl (jc_T2 cz3) ?_
        have hF := Option.some.inj hF
        subst hF
        exact kg_ret hk_71 rfl rfl
      · refine kg_ifF hk_71 rfl (jc_F2 cz3) rfl ?_
        refine kg_iload hk_71 rfl rfl rfl ?_
        refine kg_push (x := 27) hk_71 rfl (by decide) rfl ?_
        refine wf_if hF (fun cz4 hF => ?_) (fun cz4 hF => ?_)
        · refine kg_icF hk_71 rfl (jc_F3 cz4) rfl ?_
          refine kg_aload hk_71 rfl rfl rfl ?_
          refine kg_get (v := .ref ((q0 + 1) + 1)) hk_71 rfl (wf_8_0 t0) rfl rfl ?_
          refine kg_iload hk_71 rfl rfl rfl ?_
          refine kg_aload hk_71 rfl rfl rfl ?_
          refine kg_get (v := .ref ((q2 + 1) + 1)) hk_71 rfl (wf_8_0 t2) rfl rfl ?_
          refine kg_iload hk_71 rfl rfl rfl ?_
          refine wf_gd hF (fun gz5 hF => ?_)
          refine kg_ald (y := (h (q2 + 1) x3.toNatClampNeg)) hk_71 rfl (wo_8_0 t2) gz5 rfl rfl ?_
          refine wf_gd hF (fun gz6 hF => ?_)
          refine wf_let hF (fun hz7 hhz7 hF => ?_)
          refine kg_ast hk_71 rfl (wo_8_0 t0) gz6 hhz7 rfl ?_
          refine kg_push (x := 0) hk_71 rfl (by decide) rfl ?_
          refine kg_istore (L2 := [.ref (q0 + 1), .int x1, .ref (q2 + 1), .int x3, .int 0]) hk_71 rfl (Nat.le_of_ble_eq_true rfl) rfl rfl ?_
          exact l_71_20_ok t0 t2 hF rfl
        · refine kg_icT hk_71 rfl (jc_T3 cz4) ?_
          have hF := Option.some.inj hF
          subst hF
          exact kg_ret hk_71 rfl rfl
    · refine kg_icT hk_71 rfl (jc_T3 cz2) ?_
      have hF := Option.some.inj hF
      subst hF
      exact kg_ret hk_71 rfl rfl
-- NotebookWeir$Machine.pushName(I)I
theorem hk_20 : jP[20]? = some (jc_20, 2, [], []) := by rfl
def p_20 (h : Hp) (x1 : Int32) : Option (Int32 × Hp) :=
  w_gd (g_63 29 x1) <|
  if (v_63 h 29 x1) = 0 then
    (some (1, h))
  else
    ((p_71 h 32 (h 28 2) 29 x1).bind fun vz3 =>
    w_let (w_up vz3 28 2 ((vz3 28 2) + 1)) fun hz4 =>
    some (0, hz4))
theorem p_20_ok {X : List Int32}  {h : Hp} {x1 : Int32}  {r : Int32 × Hp} (hF : p_20 h x1 = some r) : k_Ev X 1 20 [.ref (28 + 1), .int x1] h (.inl (some (.int r.1)), r.2) := by
  refine k_of hk_20 ?_
  show k_Go X 1 20 (0, [.ref (28 + 1), .int x1], []) h _
  unfold p_20 at hF
  refine kg_aload hk_20 rfl rfl rfl ?_
  refine kg_get (v := .ref (29 + 1)) hk_20 rfl wk_28_0 rfl rfl ?_
  refine kg_iload hk_20 rfl rfl rfl ?_
  refine wf_gd hF (fun gz1 hF => ?_)
  refine kg_call (as := [.ref (29 + 1), .int x1]) (rest := []) hk_20 rfl (Or.inr (Or.inr (Or.inr ⟨Or.inl rfl, _, _, rfl, wc_29⟩))) rfl rfl rfl (Nat.not_lt.mpr (Nat.le_of_ble_eq_true rfl)) (v_63_ok wc_29 gz1) (by decide) rfl ?_
  refine wf_if hF (fun cz2 hF => ?_) (fun cz2 hF => ?_)
  · refine kg_ifF hk_20 rfl (jc_F1 cz2) rfl ?_
    refine kg_push (x := 1) hk_20 rfl (by decide) rfl ?_
    have hF := Option.some.inj hF
    subst hF
    exact kg_iret hk_20 rfl (Or.inl rfl) rfl
  · refine kg_ifT hk_20 rfl (jc_T1 cz2) ?_
    refine kg_aload hk_20 rfl rfl rfl ?_
    refine kg_get (v := .ref (32 + 1)) hk_20 rfl wk_28_1 rfl rfl ?_
    refine kg_aload hk_20 rfl rfl rfl ?_
    refine kg_get (v := .int (h 28 2)) hk_20 rfl wk_28_2 rfl rfl ?_
    refine kg_aload hk_20 rfl rfl rfl ?_
    refine kg_get (v := .ref (29 + 1)) hk_20 rfl wk_28_0 rfl rfl ?_
    refine kg_iload hk_20 rfl rfl rfl ?_
    refine wf_bind hF (fun vz3 hvz3 hF => ?_)
    refine kg_call (as := [.ref (32 + 1), .int (h 28 2), .ref (29 + 1), .int x1]) (rest := []) hk_20 rfl (Or.inr (Or.inr (Or.inr ⟨Or.inl rfl, _, _, rfl, wc_32⟩))) rfl rfl rfl (Nat.not_lt.mpr (Nat.le_of_ble_eq_true rfl)) (p_71_ok wc_32 wc_29 hvz3) (by decide) rfl ?_
    refine kg_aload hk_20 rfl rfl rfl ?_
    refine kg_dup hk_20 rfl rfl rfl ?_
    refine kg_get (v := .int (vz3 28 2)) hk_20 rfl wk_28_2 rfl rfl ?_
    refine kg_push (x := 1) hk_20 rfl (by decide) rfl ?_
    refine kg_bin (z := ((vz3 28 2) + 1)) hk_20 rfl rfl rfl ?_
    refine wf_let hF (fun hz4 hhz4 hF => ?_)
    refine kg_put hk_20 rfl wk_28_2 rfl rfl hhz4 rfl ?_
    refine kg_push (x := 0) hk_20 rfl (by decide) rfl ?_
    have hF := Option.some.inj hF
    subst hF
    exact kg_iret hk_20 rfl (Or.inl rfl) rfl
-- NotebookWeir$Machine.pop(I)I
theorem hk_21 : jP[21]? = some (jc_21, 2, [], []) := by rfl
def p_21 (h : Hp) (x1 : Int32) : Option (Int32 × Hp) :=
  w_let (w_up h 28 2 ((h 28 2) - 1)) fun hz1 =>
  (p_71 hz1 29 x1 32 (hz1 28 2)).bind fun vz2 =>
  some (0, vz2)
theorem p_21_ok {X : List Int32}  {h : Hp} {x1 : Int32}  {r : Int32 × Hp} (hF : p_21 h x1 = some r) : k_Ev X 1 21 [.ref (28 + 1), .int x1] h (.inl (some (.int r.1)), r.2) := by
  refine k_of hk_21 ?_
  show k_Go X 1 21 (0, [.ref (28 + 1), .int x1], []) h _
  unfold p_21 at hF
  refine kg_aload hk_21 rfl rfl rfl ?_
  refine kg_dup hk_21 rfl rfl rfl ?_
  refine kg_get (v := .int (h 28 2)) hk_21 rfl wk_28_2 rfl rfl ?_
  refine kg_push (x := 1) hk_21 rfl (by decide) rfl ?_
  refine kg_bin (z := ((h 28 2) - 1)) hk_21 rfl rfl rfl ?_
  refine wf_let hF (fun hz1 hhz1 hF => ?_)
  refine kg_put hk_21 rfl wk_28_2 rfl rfl hhz1 rfl ?_
  refine kg_aload hk_21 rfl rfl rfl ?_
  refine kg_get (v := .ref (29 + 1)) hk_21 rfl wk_28_0 rfl rfl ?_
  refine kg_iload hk_21 rfl rfl rfl ?_
  refine kg_aload hk_21 rfl rfl rfl ?_
  refine kg_get (v := .ref (32 + 1)) hk_21 rfl wk_28_1 rfl rfl ?_
  refine kg_aload hk_21 rfl rfl rfl ?_
  refine kg_get (v := .int (hz1 28 2)) hk_21 rfl wk_28_2 rfl rfl ?_
  refine wf_bind hF (fun vz2 hvz2 hF => ?_)
  refine kg_call (as := [.ref (29 + 1), .int x1, .ref (32 + 1), .int (hz1 28 2)]) (rest := []) hk_21 rfl (Or.inr (Or.inr (Or.inr ⟨Or.inl rfl, _, _, rfl, wc_29⟩))) rfl rfl rfl (Nat.not_lt.mpr (Nat.le_of_ble_eq_true rfl)) (p_71_ok wc_29 wc_32 hvz2) (by decide) rfl ?_
  refine kg_push (x := 0) hk_21 rfl (by decide) rfl ?_
  have hF := Option.some.inj hF
  subst hF
  exact kg_iret hk_21 rfl (Or.inl rfl) rfl
-- NotebookWeir$Machine.combine(I)I
theorem hk_22 : jP[22]? = some (jc_22, 6, [], []) := by rfl
def q_22_54 (h : Hp) (x3 : Int32) (s0 : Int32) (s1 : Int32) : Option (Int32 × Hp) :=
  (p_68 h 32 s1 s0).bind fun vz9 =>
  w_let (w_up vz9 28 2 x3) fun hz10 =>
  some (0, hz10)
theorem q_22_54_ok {X : List Int32}   {h : Hp} {s0 : Int32} {s1 : Int32} {x3 : Int32}  {r : Int32 × Hp} (hF : q_22_54 h x3 s0 s1 = some r)  : ∀ (u1 : Value) (u2 : Value) (u4 : Value) (u5 : Value), k_Go X 1 22 (54, [.ref (28 + 1), u1, u2, .int x3, u4, u5], [.int s0, .int s1, .ref (32 + 1)]) h (.inl (some (.int r.1)), r.2) := by
  intro u1 u2 u4 u5
  unfold q_22_54 at hF
  refine wf_bind hF (fun vz9 hvz9 hF => ?_)
  refine kg_call (as := [.ref (32 + 1), .int s1, .int s0]) (rest := []) hk_22 rfl (Or.inr (Or.inr (Or.inr ⟨Or.inl rfl, _, _, rfl, wc_32⟩))) rfl rfl rfl (Nat.not_lt.mpr (Nat.le_of_ble_eq_true rfl)) (p_68_ok wc_32 hvz9) (by decide) rfl ?_
  refine kg_aload hk_22 rfl rfl rfl ?_
  refine kg_iload hk_22 rfl rfl rfl ?_
  refine wf_let hF (fun hz10 hhz10 hF => ?_)
  refine kg_put hk_22 rfl wk_28_2 rfl rfl hhz10 rfl ?_
  refine kg_push (x := 0) hk_22 rfl (by decide) rfl ?_
  have hF := Option.some.inj hF
  subst hF
  exact kg_iret hk_22 rfl (Or.inl rfl) rfl
def p_22 (h : Hp) (x1 : Int32) : Option (Int32 × Hp) :=
  w_gd (g_64 32 ((h 28 2) - 2)) <|
  if (v_64 h 32 ((h 28 2) - 2)) = 0 then
    (some (2, h))
  else
    (w_gd (g_64 32 ((h 28 2) - 1)) <|
    if (v_64 h 32 ((h 28 2) - 1)) = 0 then
      (some (2, h))
    else
      (w_gd (g_66 32 ((h 28 2) - 2) 0) <|
      w_gd (g_66 32 ((h 28 2) - 1) 0) <|
      q_22_54 h ((h 28 2) - 1) (if x1 = 4 then ((v_66 h 32 ((h 28 2) - 2) 0) + (v_66 h 32 ((h 28 2) - 1) 0)) else (if x1 = 5 then ((v_66 h 32 ((h 28 2) - 2) 0) - (v_66 h 32 ((h 28 2) - 1) 0)) else ((v_66 h 32 ((h 28 2) - 2) 0) * (v_66 h 32 ((h 28 2) - 1) 0)) : Int32) : Int32) ((h 28 2) - 2)))
theorem p_22_ok {X : List Int32}  {h : Hp} {x1 : Int32}  {r : Int32 × Hp} (hF : p_22 h x1 = some r) : k_Ev X 1 22 [.ref (28 + 1), .int x1] h (.inl (some (.int r.1)), r.2) := by
  refine k_of hk_22 ?_
  show k_Go X 1 22 (0, [.ref (28 + 1), .int x1, (.retAddr 0), (.retAddr 0), (.retAddr 0), (.retAddr 0)], []) h _
  unfold p_22 at hF
  refine kg_aload hk_22 rfl rfl rfl ?_
  refine kg_get (v := .int (h 28 2)) hk_22 rfl wk_28_2 rfl rfl ?_
  refine kg_push (x := 2) hk_22 rfl (by decide) rfl ?_
  refine kg_bin (z := ((h 28 2) - 2)) hk_22 rfl rfl rfl ?_
  refine kg_istore (L2 := [.ref (28 + 1), .int x1, .int ((h 28 2) - 2), (.retAddr 0), (.retAddr 0), (.retAddr 0)]) hk_22 rfl (Nat.le_of_ble_eq_true rfl) rfl rfl ?_
  refine kg_aload hk_22 rfl rfl rfl ?_
  refine kg_get (v := .int (h 28 2)) hk_22 rfl wk_28_2 rfl rfl ?_
  refine kg_push (x := 1) hk_22 rfl (by decide) rfl ?_
  refine kg_bin (z := ((h 28 2) - 1)) hk_22 rfl rfl rfl ?_
  refine kg_istore (L2 := [.ref (28 + 1), .int x1, .int ((h 28 2) - 2), .int ((h 28 2) - 1), (.retAddr 0), (.retAddr 0)]) hk_22 rfl (Nat.le_of_ble_eq_true rfl) rfl rfl ?_
  refine kg_aload hk_22 rfl rfl rfl ?_
  refine kg_get (v := .ref (32 + 1)) hk_22 rfl wk_28_1 rfl rfl ?_
  refine kg_iload hk_22 rfl rfl rfl ?_
  refine wf_gd hF (fun gz1 hF => ?_)
  refine kg_call (as := [.ref (32 + 1), .int ((h 28 2) - 2)]) (rest := []) hk_22 rfl (Or.inr (Or.inr (Or.inr ⟨Or.inl rfl, _, _, rfl, wc_32⟩))) rfl rfl rfl (Nat.not_lt.mpr (Nat.le_of_ble_eq_true rfl)) (v_64_ok wc_32 gz1) (by decide) rfl ?_
  refine wf_if hF (fun cz2 hF => ?_) (fun cz2 hF => ?_)
  · refine kg_ifT hk_22 rfl (jc_T0 cz2) ?_
    refine kg_push (x := 2) hk_22 rfl (by decide) rfl ?_
    have hF := Option.some.inj hF
    subst hF
    exact kg_iret hk_22 rfl (Or.inl rfl) rfl
  · refine kg_ifF hk_22 rfl (jc_F0 cz2) rfl ?_
    refine kg_aload hk_22 rfl rfl rfl ?_
    refine kg_get (v := .ref (32 + 1)) hk_22 rfl wk_28_1 rfl rfl ?_
    refine kg_iload hk_22 rfl rfl rfl ?_
    refine wf_gd hF (fun gz3 hF => ?_)
    refine kg_call (as := [.ref (32 + 1), .int ((h 28 2) - 1)]) (rest := []) hk_22 rfl (Or.inr (Or.inr (Or.inr ⟨Or.inl rfl, _, _, rfl, wc_32⟩))) rfl rfl rfl (Nat.not_lt.mpr (Nat.le_of_ble_eq_true rfl)) (v_64_ok wc_32 gz3) (by decide) rfl ?_
    refine wf_if hF (fun cz4 hF => ?_) (fun cz4 hF => ?_)
    · refine kg_ifF hk_22 rfl (jc_F1 cz4) rfl ?_
      refine kg_push (x := 2) hk_22 rfl (by decide) rfl ?_
      have hF := Option.some.inj hF
      subst hF
      exact kg_iret hk_22 rfl (Or.inl rfl) rfl
    · refine kg_ifT hk_22 rfl (jc_T1 cz4) ?_
      refine kg_aload hk_22 rfl rfl rfl ?_
      refine kg_get (v := .ref (32 + 1)) hk_22 rfl wk_28_1 rfl rfl ?_
      refine kg_iload hk_22 rfl rfl rfl ?_
      refine kg_push (x := 0) hk_22 rfl (by decide) rfl ?_
      refine wf_gd hF (fun gz5 hF => ?_)
      refine kg_call (as := [.ref (32 + 1), .int ((h 28 2) - 2), .int 0]) (rest := []) hk_22 rfl (Or.inr (Or.inr (Or.inr ⟨Or.inl rfl, _, _, rfl, wc_32⟩))) rfl rfl rfl (Nat.not_lt.mpr (Nat.le_of_ble_eq_true rfl)) (v_66_ok wc_32 gz5) (by decide) rfl ?_
      refine kg_istore (L2 := [.ref (28 + 1), .int x1, .int ((h 28 2) - 2), .int ((h 28 2) - 1), .int (v_66 h 32 ((h 28 2) - 2) 0), (.retAddr 0)]) hk_22 rfl (Nat.le_of_ble_eq_true rfl) rfl rfl ?_
      refine kg_aload hk_22 rfl rfl rfl ?_
      refine kg_get (v := .ref (32 + 1)) hk_22 rfl wk_28_1 rfl rfl ?_
      refine kg_iload hk_22 rfl rfl rfl ?_
      refine kg_push (x := 0) hk_22 rfl (by decide) rfl ?_
      refine wf_gd hF (fun gz6 hF => ?_)
      refine kg_call (as := [.ref (32 + 1), .int ((h 28 2) - 1), .int 0]) (rest := []) hk_22 rfl (Or.inr (Or.inr (Or.inr ⟨Or.inl rfl, _, _, rfl, wc_32⟩))) rfl rfl rfl (Nat.not_lt.mpr (Nat.le_of_ble_eq_true rfl)) (v_66_ok wc_32 gz6) (by decide) rfl ?_
      refine kg_istore (L2 := [.ref (28 + 1), .int x1, .int ((h 28 2) - 2), .int ((h 28 2) - 1), .int (v_66 h 32 ((h 28 2) - 2) 0), .int (v_66 h 32 ((h 28 2) - 1) 0)]) hk_22 rfl (Nat.le_of_ble_eq_true rfl) rfl rfl ?_
      refine kg_aload hk_22 rfl rfl rfl ?_
      refine kg_get (v := .ref (32 + 1)) hk_22 rfl wk_28_1 rfl rfl ?_
      refine kg_iload hk_22 rfl rfl rfl ?_
      refine kg_iload hk_22 rfl rfl rfl ?_
      refine kg_push (x := 4) hk_22 rfl (by decide) rfl ?_
      refine kv_mid (p := 54) (L := [.ref (28 + 1), .int x1, .int ((h 28 2) - 2), .int ((h 28 2) - 1), .int (v_66 h 32 ((h 28 2) - 2) 0), .int (v_66 h 32 ((h 28 2) - 1) 0)]) (S := [.int (if x1 = 4 then ((v_66 h 32 ((h 28 2) - 2) 0) + (v_66 h 32 ((h 28 2) - 1) 0)) else (if x1 = 5 then ((v_66 h 32 ((h 28 2) - 2) 0) - (v_66 h 32 ((h 28 2) - 1) 0)) else ((v_66 h 32 ((h 28 2) - 2) 0) * (v_66 h 32 ((h 28 2) - 1) 0)) : Int32) : Int32), .int ((h 28 2) - 2), .ref (32 + 1)]) ?_ (fun hK => ?_)
      · exact q_22_54_ok hF _ _ _ _
      · by_cases cz7 : x1 = 4
        · have hK := kv_T cz7 hK
          refine kg_icF hk_22 rfl (jc_F1 cz7) rfl ?_
          refine kg_iload hk_22 rfl rfl rfl ?_
          refine kg_iload hk_22 rfl rfl rfl ?_
          refine kg_bin (z := ((v_66 h 32 ((h 28 2) - 2) 0) + (v_66 h 32 ((h 28 2) - 1) 0))) hk_22 rfl rfl rfl ?_
          refine kg_goto hk_22 rfl ?_
          exact hK
        · have hK := kv_F cz7 hK
          refine kg_icT hk_22 rfl (jc_T1 cz7) ?_
          refine kg_iload hk_22 rfl rfl rfl ?_
          refine kg_push (x := 5) hk_22 rfl (by decide) rfl ?_
          by_cases cz8 : x1 = 5
          · have hK := kv_T cz8 hK
            refine kg_icF hk_22 rfl (jc_F1 cz8) rfl ?_
            refine kg_iload hk_22 rfl rfl rfl ?_
            refine kg_iload hk_22 rfl rfl rfl ?_
            refine kg_bin (z := ((v_66 h 32 ((h 28 2) - 2) 0) - (v_66 h 32 ((h 28 2) - 1) 0))) hk_22 rfl rfl rfl ?_
            refine kg_goto hk_22 rfl ?_
            exact hK
          · have hK := kv_F cz8 hK
            refine kg_icT hk_22 rfl (jc_T1 cz8) ?_
            refine kg_iload hk_22 rfl rfl rfl ?_
            refine kg_iload hk_22 rfl rfl rfl ?_
            refine kg_bin (z := ((v_66 h 32 ((h 28 2) - 2) 0) * (v_66 h 32 ((h 28 2) - 1) 0))) hk_22 rfl rfl rfl ?_
            exact hK
-- NotebookWeir$Machine.change(I)I
theorem hk_23 : jP[23]? = some (jc_23, 3, [], []) := by rfl
def p_23 (h : Hp) (x1 : Int32) : Option (Int32 × Hp) :=
  w_gd (g_64 29 x1) <|
  if (v_64 h 29 x1) = 0 then
    (some (2, h))
  else
    (w_gd (g_64 32 ((h 28 2) - 1)) <|
    if (v_64 h 32 ((h 28 2) - 1)) = 0 then
      (some (2, h))
    else
      (w_gd (g_66 29 x1 0) <|
      w_gd (g_66 32 ((h 28 2) - 1) 0) <|
      (p_68 h 29 x1 ((v_66 h 29 x1 0) + (v_66 h 32 ((h 28 2) - 1) 0))).bind fun vz7 =>
      w_let (w_up vz7 28 2 ((h 28 2) - 1)) fun hz8 =>
      some (0, hz8)))
theorem p_23_ok {X : List Int32}  {h : Hp} {x1 : Int32}  {r : Int32 × Hp} (hF : p_23 h x1 = some r) : k_Ev X 1 23 [.ref (28 + 1), .int x1] h (.inl (some (.int r.1)), r.2) := by
  refine k_of hk_23 ?_
  show k_Go X 1 23 (0, [.ref (28 + 1), .int x1, (.retAddr 0)], []) h _
  unfold p_23 at hF
  refine kg_aload hk_23 rfl rfl rfl ?_
  refine kg_get (v := .int (h 28 2)) hk_23 rfl wk_28_2 rfl rfl ?_
  refine kg_push (x := 1) hk_23 rfl (by decide) rfl ?_
  refine kg_bin (z := ((h 28 2) - 1)) hk_23 rfl rfl rfl ?_
  refine kg_istore (L2 := [.ref (28 + 1), .int x1, .int ((h 28 2) - 1)]) hk_23 rfl (Nat.le_of_ble_eq_true rfl) rfl rfl ?_
  refine kg_aload hk_23 rfl rfl rfl ?_
  refine kg_get (v := .ref (29 + 1)) hk_23 rfl wk_28_0 rfl rfl ?_
  refine kg_iload hk_23 rfl rfl rfl ?_
  refine wf_gd hF (fun gz1 hF => ?_)
  refine kg_call (as := [.ref (29 + 1), .int x1]) (rest := []) hk_23 rfl (Or.inr (Or.inr (Or.inr ⟨Or.inl rfl, _, _, rfl, wc_29⟩))) rfl rfl rfl (Nat.not_lt.mpr (Nat.le_of_ble_eq_true rfl)) (v_64_ok wc_29 gz1) (by decide) rfl ?_
  refine wf_if hF (fun cz2 hF => ?_) (fun cz2 hF => ?_)
  · refine kg_ifT hk_23 rfl (jc_T0 cz2) ?_
    refine kg_push (x := 2) hk_23 rfl (by decide) rfl ?_
    have hF := Option.some.inj hF
    subst hF
    exact kg_iret hk_23 rfl (Or.inl rfl) rfl
  · refine kg_ifF hk_23 rfl (jc_F0 cz2) rfl ?_
    refine kg_aload hk_23 rfl rfl rfl ?_
    refine kg_get (v := .ref (32 + 1)) hk_23 rfl wk_28_1 rfl rfl ?_
    refine kg_iload hk_23 rfl rfl rfl ?_
    refine wf_gd hF (fun gz3 hF => ?_)
    refine kg_call (as := [.ref (32 + 1), .int ((h 28 2) - 1)]) (rest := []) hk_23 rfl (Or.inr (Or.inr (Or.inr ⟨Or.inl rfl, _, _, rfl, wc_32⟩))) rfl rfl rfl (Nat.not_lt.mpr (Nat.le_of_ble_eq_true rfl)) (v_64_ok wc_32 gz3) (by decide) rfl ?_
    refine wf_if hF (fun cz4 hF => ?_) (fun cz4 hF => ?_)
    · refine kg_ifF hk_23 rfl (jc_F1 cz4) rfl ?_
      refine kg_push (x := 2) hk_23 rfl (by decide) rfl ?_
      have hF := Option.some.inj hF
      subst hF
      exact kg_iret hk_23 rfl (Or.inl rfl) rfl
    · refine kg_ifT hk_23 rfl (jc_T1 cz4) ?_
      refine kg_aload hk_23 rfl rfl rfl ?_
      refine kg_get (v := .ref (29 + 1)) hk_23 rfl wk_28_0 rfl rfl ?_
      refine kg_iload hk_23 rfl rfl rfl ?_
      refine kg_aload hk_23 rfl rfl rfl ?_
      refine kg_get (v := .ref (29 + 1)) hk_23 rfl wk_28_0 rfl rfl ?_
      refine kg_iload hk_23 rfl rfl rfl ?_
      refine kg_push (x := 0) hk_23 rfl (by decide) rfl ?_
      refine wf_gd hF (fun gz5 hF => ?_)
      refine kg_call (as := [.ref (29 + 1), .int x1, .int 0]) (rest := [.int x1, .ref (29 + 1)]) hk_23 rfl (Or.inr (Or.inr (Or.inr ⟨Or.inl rfl, _, _, rfl, wc_29⟩))) rfl rfl rfl (Nat.not_lt.mpr (Nat.le_of_ble_eq_true rfl)) (v_66_ok wc_29 gz5) (by decide) rfl ?_
      refine kg_aload hk_23 rfl rfl rfl ?_
      refine kg_get (v := .ref (32 + 1)) hk_23 rfl wk_28_1 rfl rfl ?_
      refine kg_iload hk_23 rfl rfl rfl ?_
      refine kg_push (x := 0) hk_23 rfl (by decide) rfl ?_
      refine wf_gd hF (fun gz6 hF => ?_)
      refine kg_call (as := [.ref (32 + 1), .int ((h 28 2) - 1), .int 0]) (rest := [.int (v_66 h 29 x1 0), .int x1, .ref (29 + 1)]) hk_23 rfl (Or.inr (Or.inr (Or.inr ⟨Or.inl rfl, _, _, rfl, wc_32⟩))) rfl rfl rfl (Nat.not_lt.mpr (Nat.le_of_ble_eq_true rfl)) (v_66_ok wc_32 gz6) (by decide) rfl ?_
      refine kg_bin (z := ((v_66 h 29 x1 0) + (v_66 h 32 ((h 28 2) - 1) 0))) hk_23 rfl rfl rfl ?_
      refine wf_bind hF (fun vz7 hvz7 hF => ?_)
      refine kg_call (as := [.ref (29 + 1), .int x1, .int ((v_66 h 29 x1 0) + (v_66 h 32 ((h 28 2) - 1) 0))]) (rest := []) hk_23 rfl (Or.inr (Or.inr (Or.inr ⟨Or.inl rfl, _, _, rfl, wc_29⟩))) rfl rfl rfl (Nat.not_lt.mpr (Nat.le_of_ble_eq_true rfl)) (p_68_ok wc_29 hvz7) (by decide) rfl ?_
      refine kg_aload hk_23 rfl rfl rfl ?_
      refine kg_iload hk_23 rfl rfl rfl ?_
      refine wf_let hF (fun hz8 hhz8 hF => ?_)
      refine kg_put hk_23 rfl wk_28_2 rfl rfl hhz8 rfl ?_
      refine kg_push (x := 0) hk_23 rfl (by decide) rfl ?_
      have hF := Option.some.inj hF
      subst hF
      exact kg_iret hk_23 rfl (Or.inl rfl) rfl
-- NotebookWeir$Machine.pickItem(I)I
theorem hk_24 : jP[24]? = some (jc_24, 3, [], []) := by rfl
def p_24 (h : Hp) (x1 : Int32) : Option (Int32 × Hp) :=
  w_gd (g_63 32 ((h 28 2) - 1)) <|
  if (v_63 h 32 ((h 28 2) - 1)) < 2 then
    (some (2, h))
  else
    (w_gd (g_65 h 32 ((h 28 2) - 1)) <|
    if x1 < (v_65 h 32 ((h 28 2) - 1)) then
      (w_gd (g_66 32 ((h 28 2) - 1) x1) <|
      (p_68 h 32 ((h 28 2) - 1) (v_66 h 32 ((h 28 2) - 1) x1)).bind fun vz6 =>
      some (0, vz6))
    else
      (some (3, h)))
theorem p_24_ok {X : List Int32}  {h : Hp} {x1 : Int32}  {r : Int32 × Hp} (hF : p_24 h x1 = some r) : k_Ev X 1 24 [.ref (28 + 1), .int x1] h (.inl (some (.int r.1)), r.2) := by
  refine k_of hk_24 ?_
  show k_Go X 1 24 (0, [.ref (28 + 1), .int x1, (.retAddr 0)], []) h _
  unfold p_24 at hF
  refine kg_aload hk_24 rfl rfl rfl ?_
  refine kg_get (v := .int (h 28 2)) hk_24 rfl wk_28_2 rfl rfl ?_
  refine kg_push (x := 1) hk_24 rfl (by decide) rfl ?_
  refine kg_bin (z := ((h 28 2) - 1)) hk_24 rfl rfl rfl ?_
  refine kg_istore (L2 := [.ref (28 + 1), .int x1, .int ((h 28 2) - 1)]) hk_24 rfl (Nat.le_of_ble_eq_true rfl) rfl rfl ?_
  refine kg_aload hk_24 rfl rfl rfl ?_
  refine kg_get (v := .ref (32 + 1)) hk_24 rfl wk_28_1 rfl rfl ?_
  refine kg_iload hk_24 rfl rfl rfl ?_
  refine wf_gd hF (fun gz1 hF => ?_)
  refine kg_call (as := [.ref (32 + 1), .int ((h 28 2) - 1)]) (rest := []) hk_24 rfl (Or.inr (Or.inr (Or.inr ⟨Or.inl rfl, _, _, rfl, wc_32⟩))) rfl rfl rfl (Nat.not_lt.mpr (Nat.le_of_ble_eq_true rfl)) (v_63_ok wc_32 gz1) (by decide) rfl ?_
  refine kg_push (x := 2) hk_24 rfl (by decide) rfl ?_
  refine wf_if hF (fun cz2 hF => ?_) (fun cz2 hF => ?_)
  · refine kg_icF hk_24 rfl (jc_F3 cz2) rfl ?_
    refine kg_push (x := 2) hk_24 rfl (by decide) rfl ?_
    have hF := Option.some.inj hF
    subst hF
    exact kg_iret hk_24 rfl (Or.inl rfl) rfl
  · refine kg_icT hk_24 rfl (jc_T3 cz2) ?_
    refine kg_iload hk_24 rfl rfl rfl ?_
    refine kg_aload hk_24 rfl rfl rfl ?_
    refine kg_get (v := .ref (32 + 1)) hk_24 rfl wk_28_1 rfl rfl ?_
    refine kg_iload hk_24 rfl rfl rfl ?_
    refine wf_gd hF (fun gz3 hF => ?_)
    refine kg_call (as := [.ref (32 + 1), .int ((h 28 2) - 1)]) (rest := [.int x1]) hk_24 rfl (Or.inr (Or.inr (Or.inr ⟨Or.inl rfl, _, _, rfl, wc_32⟩))) rfl rfl rfl (Nat.not_lt.mpr (Nat.le_of_ble_eq_true rfl)) (v_65_ok wc_32 gz3) (by decide) rfl ?_
    refine wf_if hF (fun cz4 hF => ?_) (fun cz4 hF => ?_)
    · refine kg_icT hk_24 rfl (jc_T2 cz4) ?_
      refine kg_aload hk_24 rfl rfl rfl ?_
      refine kg_get (v := .ref (32 + 1)) hk_24 rfl wk_28_1 rfl rfl ?_
      refine kg_iload hk_24 rfl rfl rfl ?_
      refine kg_aload hk_24 rfl rfl rfl ?_
      refine kg_get (v := .ref (32 + 1)) hk_24 rfl wk_28_1 rfl rfl ?_
      refine kg_iload hk_24 rfl rfl rfl ?_
      refine kg_iload hk_24 rfl rfl rfl ?_
      refine wf_gd hF (fun gz5 hF => ?_)
      refine kg_call (as := [.ref (32 + 1), .int ((h 28 2) - 1), .int x1]) (rest := [.int ((h 28 2) - 1), .ref (32 + 1)]) hk_24 rfl (Or.inr (Or.inr (Or.inr ⟨Or.inl rfl, _, _, rfl, wc_32⟩))) rfl rfl rfl (Nat.not_lt.mpr (Nat.le_of_ble_eq_true rfl)) (v_66_ok wc_32 gz5) (by decide) rfl ?_
      refine wf_bind hF (fun vz6 hvz6 hF => ?_)
      refine kg_call (as := [.ref (32 + 1), .int ((h 28 2) - 1), .int (v_66 h 32 ((h 28 2) - 1) x1)]) (rest := []) hk_24 rfl (Or.inr (Or.inr (Or.inr ⟨Or.inl rfl, _, _, rfl, wc_32⟩))) rfl rfl rfl (Nat.not_lt.mpr (Nat.le_of_ble_eq_true rfl)) (p_68_ok wc_32 hvz6) (by decide) rfl ?_
      refine kg_push (x := 0) hk_24 rfl (by decide) rfl ?_
      have hF := Option.some.inj hF
      subst hF
      exact kg_iret hk_24 rfl (Or.inl rfl) rfl
    · refine kg_icF hk_24 rfl (jc_F2 cz4) rfl ?_
      refine kg_push (x := 3) hk_24 rfl (by decide) rfl ?_
      have hF := Option.some.inj hF
      subst hF
      exact kg_iret hk_24 rfl (Or.inl rfl) rfl
-- NotebookWeir$Machine.countItems()I
theorem hk_25 : jP[25]? = some (jc_25, 2, [], []) := by rfl
def p_25 (h : Hp) : Option (Int32 × Hp) :=
  w_gd (g_63 32 ((h 28 2) - 1)) <|
  if (v_63 h 32 ((h 28 2) - 1)) < 2 then
    (some (2, h))
  else
    (w_gd (g_65 h 32 ((h 28 2) - 1)) <|
    (p_68 h 32 ((h 28 2) - 1) (v_65 h 32 ((h 28 2) - 1))).bind fun vz4 =>
    some (0, vz4))
theorem p_25_ok {X : List Int32}  {h : Hp}   {r : Int32 × Hp} (hF : p_25 h = some r) : k_Ev X 1 25 [.ref (28 + 1)] h (.inl (some (.int r.1)), r.2) := by
  refine k_of hk_25 ?_
  show k_Go X 1 25 (0, [.ref (28 + 1), (.retAddr 0)], []) h _
  unfold p_25 at hF
  refine kg_aload hk_25 rfl rfl rfl ?_
  refine kg_get (v := .int (h 28 2)) hk_25 rfl wk_28_2 rfl rfl ?_
  refine kg_push (x := 1) hk_25 rfl (by decide) rfl ?_
  refine kg_bin (z := ((h 28 2) - 1)) hk_25 rfl rfl rfl ?_
  refine kg_istore (L2 := [.ref (28 + 1), .int ((h 28 2) - 1)]) hk_25 rfl (Nat.le_of_ble_eq_true rfl) rfl rfl ?_
  refine kg_aload hk_25 rfl rfl rfl ?_
  refine kg_get (v := .ref (32 + 1)) hk_25 rfl wk_28_1 rfl rfl ?_
  refine kg_iload hk_25 rfl rfl rfl ?_
  refine wf_gd hF (fun gz1 hF => ?_)
  refine kg_call (as := [.ref (32 + 1), .int ((h 28 2) - 1)]) (rest := []) hk_25 rfl (Or.inr (Or.inr (Or.inr ⟨Or.inl rfl, _, _, rfl, wc_32⟩))) rfl rfl rfl (Nat.not_lt.mpr (Nat.le_of_ble_eq_true rfl)) (v_63_ok wc_32 gz1) (by decide) rfl ?_
  refine kg_push (x := 2) hk_25 rfl (by decide) rfl ?_
  refine wf_if hF (fun cz2 hF => ?_) (fun cz2 hF => ?_)
  · refine kg_icF hk_25 rfl (jc_F3 cz2) rfl ?_
    refine kg_push (x := 2) hk_25 rfl (by decide) rfl ?_
    have hF := Option.some.inj hF
    subst hF
    exact kg_iret hk_25 rfl (Or.inl rfl) rfl
  · refine kg_icT hk_25 rfl (jc_T3 cz2) ?_
    refine kg_aload hk_25 rfl rfl rfl ?_
    refine kg_get (v := .ref (32 + 1)) hk_25 rfl wk_28_1 rfl rfl ?_
    refine kg_iload hk_25 rfl rfl rfl ?_
    refine kg_aload hk_25 rfl rfl rfl ?_
    refine kg_get (v := .ref (32 + 1)) hk_25 rfl wk_28_1 rfl rfl ?_
    refine kg_iload hk_25 rfl rfl rfl ?_
    refine wf_gd hF (fun gz3 hF => ?_)
    refine kg_call (as := [.ref (32 + 1), .int ((h 28 2) - 1)]) (rest := [.int ((h 28 2) - 1), .ref (32 + 1)]) hk_25 rfl (Or.inr (Or.inr (Or.inr ⟨Or.inl rfl, _, _, rfl, wc_32⟩))) rfl rfl rfl (Nat.not_lt.mpr (Nat.le_of_ble_eq_true rfl)) (v_65_ok wc_32 gz3) (by decide) rfl ?_
    refine wf_bind hF (fun vz4 hvz4 hF => ?_)
    refine kg_call (as := [.ref (32 + 1), .int ((h 28 2) - 1), .int (v_65 h 32 ((h 28 2) - 1))]) (rest := []) hk_25 rfl (Or.inr (Or.inr (Or.inr ⟨Or.inl rfl, _, _, rfl, wc_32⟩))) rfl rfl rfl (Nat.not_lt.mpr (Nat.le_of_ble_eq_true rfl)) (p_68_ok wc_32 hvz4) (by decide) rfl ?_
    refine kg_push (x := 0) hk_25 rfl (by decide) rfl ?_
    have hF := Option.some.inj hF
    subst hF
    exact kg_iret hk_25 rfl (Or.inl rfl) rfl
-- NotebookWeir$Values.putRow(I)V
theorem hk_69 : jP[69]? = some (jc_69, 2, [], []) := by rfl
def p_69 (h : Hp) (q0 : Nat) (x1 : Int32) : Option (Hp) :=
  if x1 < 0 then
    (some h)
  else
    (if x1 < 27 then
      (w_gd (w_ix x1 27) <|
      w_let (w_up h (q0 + 1) x1.toNatClampNeg 2) fun hz4 =>
      some hz4)
    else
      (some h))
theorem p_69_ok {X : List Int32}  {h : Hp} {q0 : Nat} {x1 : Int32} (t0 : w_ob q0 8) {r : Hp} (hF : p_69 h q0 x1 = some r) : k_Ev X 0 69 [.ref (q0 + 1), .int x1] h (.inl none, r) := by
  refine k_of hk_69 ?_
  show k_Go X 0 69 (0, [.ref (q0 + 1), .int x1], []) h _
  unfold p_69 at hF
  refine kg_iload hk_69 rfl rfl rfl ?_
  refine wf_if hF (fun cz1 hF => ?_) (fun cz1 hF => ?_)
  · refine kg_ifT hk_69 rfl (jc_T2 cz1) ?_
    have hF := Option.some.inj hF
    subst hF
    exact kg_ret hk_69 rfl rfl
  · refine kg_ifF hk_69 rfl (jc_F2 cz1) rfl ?_
    refine kg_iload hk_69 rfl rfl rfl ?_
    refine kg_push (x := 27) hk_69 rfl (by decide) rfl ?_
    refine wf_if hF (fun cz2 hF => ?_) (fun cz2 hF => ?_)
    · refine kg_icF hk_69 rfl (jc_F3 cz2) rfl ?_
      refine kg_aload hk_69 rfl rfl rfl ?_
      refine kg_get (v := .ref ((q0 + 1) + 1)) hk_69 rfl (wf_8_0 t0) rfl rfl ?_
      refine kg_iload hk_69 rfl rfl rfl ?_
      refine kg_push (x := 2) hk_69 rfl (by decide) rfl ?_
      refine wf_gd hF (fun gz3 hF => ?_)
      refine wf_let hF (fun hz4 hhz4 hF => ?_)
      refine kg_ast hk_69 rfl (wo_8_0 t0) gz3 hhz4 rfl ?_
      have hF := Option.some.inj hF
      subst hF
      exact kg_ret hk_69 rfl rfl
    · refine kg_icT hk_69 rfl (jc_T3 cz2) ?_
      have hF := Option.some.inj hF
      subst hF
      exact kg_ret hk_69 rfl rfl
-- NotebookWeir$Values.addItem(II)V
theorem hk_70 : jP[70]? = some (jc_70, 4, [], []) := by rfl
def q_70_13 (h : Hp) (q0 : Nat) (x1 : Int32) (x2 : Int32) (s0 : Int32) : Option (Hp) :=
  if s0 < 0 then
    (some h)
  else
    (if s0 < 8 then
      (w_gd (w_ix ((x1 * 8) + s0) 216) <|
      w_let (w_up h (q0 + 2) (((x1 * 8) + s0).toNatClampNeg) x2) fun hz8 =>
      w_gd (w_ix x1 27) <|
      w_gd (w_ix x1 27) <|
      w_let (w_up hz8 (q0 + 1) x1.toNatClampNeg ((hz8 (q0 + 1) x1.toNatClampNeg) + 1)) fun hz11 =>
      some hz11)
    else
      (some h))
theorem q_70_13_ok {X : List Int32}   {h : Hp} {q0 : Nat} {s0 : Int32} {x1 : Int32} {x2 : Int32} (t0 : w_ob q0 8) {r : Hp} (hF : q_70_13 h q0 x1 x2 s0 = some r)  : ∀ (u3 : Value), k_Go X 0 70 (13, [.ref (q0 + 1), .int x1, .int x2, u3], [.int s0]) h (.inl none, r) := by
  intro u3
  unfold q_70_13 at hF
  refine kg_istore (L2 := [.ref (q0 + 1), .int x1, .int x2, .int s0]) hk_70 rfl (Nat.le_of_ble_eq_true rfl) rfl rfl ?_
  refine kg_iload hk_70 rfl rfl rfl ?_
  refine wf_if hF (fun cz5 hF => ?_) (fun cz5 hF => ?_)
  · refine kg_ifT hk_70 rfl (jc_T2 cz5) ?_
    have hF := Option.some.inj hF
    subst hF
    exact kg_ret hk_70 rfl rfl
  · refine kg_ifF hk_70 rfl (jc_F2 cz5) rfl ?_
    refine kg_iload hk_70 rfl rfl rfl ?_
    refine kg_push (x := 8) hk_70 rfl (by decide) rfl ?_
    refine wf_if hF (fun cz6 hF => ?_) (fun cz6 hF => ?_)
    · refine kg_icF hk_70 rfl (jc_F3 cz6) rfl ?_
      refine kg_aload hk_70 rfl rfl rfl ?_
      refine kg_get (v := .ref ((q0 + 2) + 1)) hk_70 rfl (wf_8_1 t0) rfl rfl ?_
      refine kg_iload hk_70 rfl rfl rfl ?_
      refine kg_push (x := 8) hk_70 rfl (by decide) rfl ?_
      refine kg_bin (z := (x1 * 8)) hk_70 rfl rfl rfl ?_
      refine kg_iload hk_70 rfl rfl rfl ?_
      refine kg_bin (z := ((x1 * 8) + s0)) hk_70 rfl rfl rfl ?_
      refine kg_iload hk_70 rfl rfl rfl ?_
      refine wf_gd hF (fun gz7 hF => ?_)
      refine wf_let hF (fun hz8 hhz8 hF => ?_)
      refine kg_ast hk_70 rfl (wo_8_1 t0) gz7 hhz8 rfl ?_
      refine kg_aload hk_70 rfl rfl rfl ?_
      refine kg_get (v := .ref ((q0 + 1) + 1)) hk_70 rfl (wf_8_0 t0) rfl rfl ?_
      refine kg_iload hk_70 rfl rfl rfl ?_
      refine kg_dup2 hk_70 rfl ⟨rfl, rfl⟩ rfl ?_
      refine wf_gd hF (fun gz9 hF => ?_)
      refine kg_ald (y := (hz8 (q0 + 1) x1.toNatClampNeg)) hk_70 rfl (wo_8_0 t0) gz9 rfl rfl ?_
      refine kg_push (x := 1) hk_70 rfl (by decide) rfl ?_
      refine kg_bin (z := ((hz8 (q0 + 1) x1.toNatClampNeg) + 1)) hk_70 rfl rfl rfl ?_
      refine wf_gd hF (fun gz10 hF => ?_)
      refine wf_let hF (fun hz11 hhz11 hF => ?_)
      refine kg_ast hk_70 rfl (wo_8_0 t0) gz10 hhz11 rfl ?_
      have hF := Option.some.inj hF
      subst hF
      exact kg_ret hk_70 rfl rfl
    · refine kg_icT hk_70 rfl (jc_T3 cz6) ?_
      have hF := Option.some.inj hF
      subst hF
      exact kg_ret hk_70 rfl rfl
def p_70 (h : Hp) (q0 : Nat) (x1 : Int32) (x2 : Int32) : Option (Hp) :=
  w_gd ((if x1 < 0 then true else (if x1 < 27 then w_ix x1 27 else true))) <|
  q_70_13 h q0 x1 x2 (if x1 < 0 then (-1) else (if x1 < 27 then ((h (q0 + 1) x1.toNatClampNeg) - 2) else (-1) : Int32) : Int32)
theorem p_70_ok {X : List Int32}  {h : Hp} {q0 : Nat} {x1 : Int32} {x2 : Int32} (t0 : w_ob q0 8) {r : Hp} (hF : p_70 h q0 x1 x2 = some r) : k_Ev X 0 70 [.ref (q0 + 1), .int x1, .int x2] h (.inl none, r) := by
  refine k_of hk_70 ?_
  show k_Go X 0 70 (0, [.ref (q0 + 1), .int x1, .int x2, (.retAddr 0)], []) h _
  unfold p_70 at hF
  refine kg_iload hk_70 rfl rfl rfl ?_
  refine wf_gd hF (fun gz4 hF => ?_)
  refine kv_mid (p := 13) (L := [.ref (q0 + 1), .int x1, .int x2, (.retAddr 0)]) (S := [.int (if x1 < 0 then (-1) else (if x1 < 27 then ((h (q0 + 1) x1.toNatClampNeg) - 2) else (-1) : Int32) : Int32)]) ?_ (fun hK => ?_)
  · exact q_70_13_ok t0 hF _
  · have hg := gz4
    by_cases cz1 : x1 < 0
    · have hK := kv_T cz1 hK
      refine kg_ifT hk_70 rfl (jc_T2 cz1) ?_
      refine kg_push (x := (-1)) hk_70 rfl (by decide) rfl ?_
      exact hK
    · have hg := wv_F cz1 hg
      have hK := kv_F cz1 hK
      refine kg_ifF hk_70 rfl (jc_F2 cz1) rfl ?_
      refine kg_iload hk_70 rfl rfl rfl ?_
      refine kg_push (x := 27) hk_70 rfl (by decide) rfl ?_
      by_cases cz2 : x1 < 27
      · have hg := wv_T cz2 hg
        have hK := kv_T cz2 hK
        have gz3 := hg
        refine kg_icF hk_70 rfl (jc_F3 cz2) rfl ?_
        refine kg_aload hk_70 rfl rfl rfl ?_
        refine kg_get (v := .ref ((q0 + 1) + 1)) hk_70 rfl (wf_8_0 t0) rfl rfl ?_
        refine kg_iload hk_70 rfl rfl rfl ?_
        refine kg_ald (y := (h (q0 + 1) x1.toNatClampNeg)) hk_70 rfl (wo_8_0 t0) gz3 rfl rfl ?_
        refine kg_push (x := 2) hk_70 rfl (by decide) rfl ?_
        refine kg_bin (z := ((h (q0 + 1) x1.toNatClampNeg) - 2)) hk_70 rfl rfl rfl ?_
        refine kg_goto hk_70 rfl ?_
        exact hK
      · have hK := kv_F cz2 hK
        refine kg_icT hk_70 rfl (jc_T3 cz2) ?_
        refine kg_push (x := (-1)) hk_70 rfl (by decide) rfl ?_
        exact hK
