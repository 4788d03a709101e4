/-! ===== the methods as functions over the flat heap, and that the interpreter does what they say (printed by wip/whole/dec.py) ===== -/
-- NotebookWeir.cell(II)I
theorem hk_99 : jP[99]? = some (jc_99, 4, [], []) := by rfl
def p_99 (h : Hp) (x1 : Int32) (x2 : Int32) : Option ((Int32 ⊕ Nat) × Hp) :=
  if (v_121 x1) = 0 then
    (some ((.inr 0), h))
  else
    (if (v_122 x2) = 0 then
      (some ((.inr 0), h))
    else
      (if (h 0 10) < 16 then
        (w_gd (w_ix (h 0 10) 16) <|
        w_gd (w_ix x1 2) <|
        (p_35 h (2 * x1.toNatClampNeg + 48) x2).bind fun vz8 =>
        (p_128 vz8.2 x1 (64 * (h 0 10).toNatClampNeg + 52) vz8.1).bind fun vz9 =>
        if vz9.1 = 0 then
          (some ((.inl (-1)), vz9.2))
        else
          (w_let (w_up vz9.2 0 10 ((vz9.2 0 10) + 1)) fun hz11 =>
          (p_129 hz11).bind fun vz12 =>
          (p_130 vz12).bind fun vz13 =>
          some ((.inl (h 0 10)), vz13)))
      else
        (some ((.inr 1), h))))
theorem p_99_ok {X : List Int32}  {h : Hp} {x1 : Int32} {x2 : Int32}  {r : (Int32 ⊕ Nat) × Hp} (hF : p_99 h x1 x2 = some r) : k_Ev X 257 99 [.ref (0 + 1), .int x1, .int x2] h (w_th r.1, r.2) := by
  refine k_of hk_99 ?_
  show k_Go X 257 99 (0, [.ref (0 + 1), .int x1, .int x2, (.retAddr 0)], []) h _
  unfold p_99 at hF
  refine kg_iload hk_99 rfl rfl rfl ?_
  refine kg_call (as := [.int x1]) (rest := []) hk_99 rfl (Or.inl rfl) rfl rfl rfl (Nat.not_lt.mpr (Nat.le_of_ble_eq_true rfl)) (v_121_ok) (by decide) rfl ?_
  refine wf_if hF (fun cz1 hF => ?_) (fun cz1 hF => ?_)
  · refine kg_ifT hk_99 rfl (jc_T0 cz1) ?_
    have hF := Option.some.inj hF
    subst hF
    exact kg_throw hk_99 rfl (Nat.not_lt.mpr (Nat.le_of_ble_eq_true rfl)) rfl
  · refine kg_ifF hk_99 rfl (jc_F0 cz1) rfl ?_
    refine kg_iload hk_99 rfl rfl rfl ?_
    refine kg_call (as := [.int x2]) (rest := []) hk_99 rfl (Or.inl rfl) rfl rfl rfl (Nat.not_lt.mpr (Nat.le_of_ble_eq_true rfl)) (v_122_ok) (by decide) rfl ?_
    refine wf_if hF (fun cz2 hF => ?_) (fun cz2 hF => ?_)
    · refine kg_ifF hk_99 rfl (jc_F1 cz2) rfl ?_
      have hF := Option.some.inj hF
      subst hF
      exact kg_throw hk_99 rfl (Nat.not_lt.mpr (Nat.le_of_ble_eq_true rfl)) rfl
    · refine kg_ifT hk_99 rfl (jc_T1 cz2) ?_
      refine kg_aload hk_99 rfl rfl rfl ?_
      refine kg_get (v := .int (h 0 10)) hk_99 rfl wk_0_10 rfl rfl ?_
      refine kg_push (x := 16) hk_99 rfl (by decide) rfl ?_
      refine wf_if hF (fun cz3 hF => ?_) (fun cz3 hF => ?_)
      · refine kg_icT hk_99 rfl (jc_T2 cz3) ?_
        refine kg_aload hk_99 rfl rfl rfl ?_
        refine kg_get (v := .int (h 0 10)) hk_99 rfl wk_0_10 rfl rfl ?_
        refine kg_istore (L2 := [.ref (0 + 1), .int x1, .int x2, .int (h 0 10)]) hk_99 rfl (Nat.le_of_ble_eq_true rfl) rfl rfl ?_
        refine kg_aload hk_99 rfl rfl rfl ?_
        refine kg_iload hk_99 rfl rfl rfl ?_
        refine kg_aload hk_99 rfl rfl rfl ?_
        refine kg_get (v := .ref (2 + 1)) hk_99 rfl wk_0_1 rfl rfl ?_
        refine kg_iload hk_99 rfl rfl rfl ?_
        refine wf_gd hF (fun gz4 hF => ?_)
        have hez5 := w_E we_61 wc_2 gz4
        refine kg_aald (y := (64 * (h 0 10).toNatClampNeg + 52)) hk_99 rfl gz4 hez5.1 rfl ?_
        refine kg_aload hk_99 rfl rfl rfl ?_
        refine kg_get (v := .ref (17 + 1)) hk_99 rfl wk_0_5 rfl rfl ?_
        refine kg_aload hk_99 rfl rfl rfl ?_
        refine kg_get (v := .ref (1 + 1)) hk_99 rfl wk_0_0 rfl rfl ?_
        refine kg_iload hk_99 rfl rfl rfl ?_
        refine wf_gd hF (fun gz6 hF => ?_)
        have hez7 := w_E we_60 wc_1 gz6
        refine kg_aald (y := (2 * x1.toNatClampNeg + 48)) hk_99 rfl gz6 hez7.1 rfl ?_
        refine kg_iload hk_99 rfl rfl rfl ?_
        refine kg_aload hk_99 rfl rfl rfl ?_
        refine kg_get (v := .ref (24 + 1)) hk_99 rfl wk_0_6 rfl rfl ?_
        refine wf_bind hF (fun vz8 hvz8 hF => ?_)
        refine kg_call (as := [.ref (17 + 1), .ref ((2 * x1.toNatClampNeg + 48) + 1), .int x2, .ref (24 + 1)]) (rest := [.ref ((64 * (h 0 10).toNatClampNeg + 52) + 1), .int x1, .ref (0 + 1)]) hk_99 rfl (Or.inr (Or.inr (Or.inr ⟨Or.inl rfl, _, _, rfl, wc_17⟩))) rfl rfl rfl (Nat.not_lt.mpr (Nat.le_of_ble_eq_true rfl)) (p_35_ok hez7.2 hvz8) (by decide) rfl ?_
        refine wf_bind hF (fun vz9 hvz9 hF => ?_)
        refine kg_call (as := [.ref (0 + 1), .int x1, .ref ((64 * (h 0 10).toNatClampNeg + 52) + 1), .int vz8.1]) (rest := []) hk_99 rfl (Or.inr (Or.inr (Or.inr ⟨Or.inl rfl, _, _, rfl, wc_0⟩))) rfl rfl rfl (Nat.not_lt.mpr (Nat.le_of_ble_eq_true rfl)) (p_128_ok hez5.2 hvz9) (by decide) rfl ?_
        refine wf_if hF (fun cz10 hF => ?_) (fun cz10 hF => ?_)
        · refine kg_ifF hk_99 rfl (jc_F1 cz10) rfl ?_
          refine kg_push (x := (-1)) hk_99 rfl (by decide) rfl ?_
          have hF := Option.some.inj hF
          subst hF
          exact kg_iret hk_99 rfl (Or.inl rfl) rfl
        · refine kg_ifT hk_99 rfl (jc_T1 cz10) ?_
          refine kg_aload hk_99 rfl rfl rfl ?_
          refine kg_dup hk_99 rfl rfl rfl ?_
          refine kg_get (v := .int (vz9.2 0 10)) hk_99 rfl wk_0_10 rfl rfl ?_
          refine kg_push (x := 1) hk_99 rfl (by decide) rfl ?_
          refine kg_bin (z := ((vz9.2 0 10) + 1)) hk_99 rfl rfl rfl ?_
          refine wf_let hF (fun hz11 hhz11 hF => ?_)
          refine kg_put hk_99 rfl wk_0_10 rfl rfl hhz11 rfl ?_
          refine kg_aload hk_99 rfl rfl rfl ?_
          refine wf_bind hF (fun vz12 hvz12 hF => ?_)
          refine kg_call (as := [.ref (0 + 1)]) (rest := []) hk_99 rfl (Or.inr (Or.inr (Or.inr ⟨Or.inl rfl, _, _, rfl, wc_0⟩))) rfl rfl rfl (Nat.not_lt.mpr (Nat.le_of_ble_eq_true rfl)) (p_129_ok hvz12) (by decide) rfl ?_
          refine kg_aload hk_99 rfl rfl rfl ?_
          refine wf_bind hF (fun vz13 hvz13 hF => ?_)
          refine kg_call (as := [.ref (0 + 1)]) (rest := []) hk_99 rfl (Or.inr (Or.inr (Or.inr ⟨Or.inl rfl, _, _, rfl, wc_0⟩))) rfl rfl rfl (Nat.not_lt.mpr (Nat.le_of_ble_eq_true rfl)) (p_130_ok hvz13) (by decide) rfl ?_
          refine kg_iload hk_99 rfl rfl rfl ?_
          have hF := Option.some.inj hF
          subst hF
          exact kg_iret hk_99 rfl (Or.inl rfl) rfl
      · refine kg_icF hk_99 rfl (jc_F2 cz3) rfl ?_
        have hF := Option.some.inj hF
        subst hF
        exact kg_throw hk_99 rfl (Nat.not_lt.mpr (Nat.le_of_ble_eq_true rfl)) rfl
-- NotebookWeir.edit(III)I
theorem hk_100 : jP[100]? = some (jc_100, 5, [], []) := by rfl
def p_100 (h : Hp) (x1 : Int32) (x2 : Int32) (x3 : Int32) : Option ((Int32 ⊕ Nat) × Hp) :=
  if (v_125 h x2) = 0 then
    (some ((.inr 2), h))
  else
    (if (v_121 x1) = 0 then
      (some ((.inr 0), h))
    else
      (w_gd (w_ix x2 16) <|
      if (h (64 * x2.toNatClampNeg + 52) 10) = x3 then
        (w_gd (w_ix x1 2) <|
        (p_35 h (2 * x1.toNatClampNeg + 48) (h (64 * x2.toNatClampNeg + 55) 4)).bind fun vz8 =>
        (p_128 vz8.2 x1 (64 * x2.toNatClampNeg + 52) vz8.1).bind fun vz9 =>
        if vz9.1 = 0 then
          (some ((.inl (-1)), vz9.2))
        else
          (w_let (w_up vz9.2 (64 * x2.toNatClampNeg + 52) 10 ((vz9.2 (64 * x2.toNatClampNeg + 52) 10) + 1)) fun hz11 =>
          (p_129 hz11).bind fun vz12 =>
          (p_130 vz12).bind fun vz13 =>
          some ((.inl (vz13 (64 * x2.toNatClampNeg + 52) 10)), vz13)))
      else
        (some ((.inr 1), h))))
theorem p_100_ok {X : List Int32}  {h : Hp} {x1 : Int32} {x2 : Int32} {x3 : Int32}  {r : (Int32 ⊕ Nat) × Hp} (hF : p_100 h x1 x2 x3 = some r) : k_Ev X 257 100 [.ref (0 + 1), .int x1, .int x2, .int x3] h (w_th r.1, r.2) := by
  refine k_of hk_100 ?_
  show k_Go X 257 100 (0, [.ref (0 + 1), .int x1, .int x2, .int x3, (.retAddr 0)], []) h _
  unfold p_100 at hF
  refine kg_aload hk_100 rfl rfl rfl ?_
  refine kg_iload hk_100 rfl rfl rfl ?_
  refine kg_call (as := [.ref (0 + 1), .int x2]) (rest := []) hk_100 rfl (Or.inr (Or.inr (Or.inr ⟨Or.inl rfl, _, _, rfl, wc_0⟩))) rfl rfl rfl (Nat.not_lt.mpr (Nat.le_of_ble_eq_true rfl)) (v_125_ok) (by decide) rfl ?_
  refine wf_if hF (fun cz1 hF => ?_) (fun cz1 hF => ?_)
  · refine kg_ifF hk_100 rfl (jc_F1 cz1) rfl ?_
    have hF := Option.some.inj hF
    subst hF
    exact kg_throw hk_100 rfl (Nat.not_lt.mpr (Nat.le_of_ble_eq_true rfl)) rfl
  · refine kg_ifT hk_100 rfl (jc_T1 cz1) ?_
    refine kg_iload hk_100 rfl rfl rfl ?_
    refine kg_call (as := [.int x1]) (rest := []) hk_100 rfl (Or.inl rfl) rfl rfl rfl (Nat.not_lt.mpr (Nat.le_of_ble_eq_true rfl)) (v_121_ok) (by decide) rfl ?_
    refine wf_if hF (fun cz2 hF => ?_) (fun cz2 hF => ?_)
    · refine kg_ifF hk_100 rfl (jc_F1 cz2) rfl ?_
      have hF := Option.some.inj hF
      subst hF
      exact kg_throw hk_100 rfl (Nat.not_lt.mpr (Nat.le_of_ble_eq_true rfl)) rfl
    · refine kg_ifT hk_100 rfl (jc_T1 cz2) ?_
      refine kg_aload hk_100 rfl rfl rfl ?_
      refine kg_get (v := .ref (2 + 1)) hk_100 rfl wk_0_1 rfl rfl ?_
      refine kg_iload hk_100 rfl rfl rfl ?_
      refine wf_gd hF (fun gz3 hF => ?_)
      have hez4 := w_E we_61 wc_2 gz3
      refine kg_aald (y := (64 * x2.toNatClampNeg + 52)) hk_100 rfl gz3 hez4.1 rfl ?_
      refine kg_astore (L2 := [.ref (0 + 1), .int x1, .int x2, .int x3, .ref ((64 * x2.toNatClampNeg + 52) + 1)]) hk_100 rfl (Nat.le_of_ble_eq_true rfl) rfl rfl ?_
      refine kg_aload hk_100 rfl rfl rfl ?_
      refine kg_get (v := .int (h (64 * x2.toNatClampNeg + 52) 10)) hk_100 rfl (wf_0_10 hez4.2) rfl rfl ?_
      refine kg_iload hk_100 rfl rfl rfl ?_
      refine wf_if hF (fun cz5 hF => ?_) (fun cz5 hF => ?_)
      · refine kg_icT hk_100 rfl (jc_T0 cz5) ?_
        refine kg_aload hk_100 rfl rfl rfl ?_
        refine kg_iload hk_100 rfl rfl rfl ?_
        refine kg_aload hk_100 rfl rfl rfl ?_
        refine kg_aload hk_100 rfl rfl rfl ?_
        refine kg_get (v := .ref (17 + 1)) hk_100 rfl wk_0_5 rfl rfl ?_
        refine kg_aload hk_100 rfl rfl rfl ?_
        refine kg_get (v := .ref (1 + 1)) hk_100 rfl wk_0_0 rfl rfl ?_
        refine kg_iload hk_100 rfl rfl rfl ?_
        refine wf_gd hF (fun gz6 hF => ?_)
        have hez7 := w_E we_60 wc_1 gz6
        refine kg_aald (y := (2 * x1.toNatClampNeg + 48)) hk_100 rfl gz6 hez7.1 rfl ?_
        refine kg_aload hk_100 rfl rfl rfl ?_
        refine kg_get (v := .ref ((64 * x2.toNatClampNeg + 55) + 1)) hk_100 rfl (wf_0_1 hez4.2) rfl rfl ?_
        refine kg_get (v := .int (h (64 * x2.toNatClampNeg + 55) 4)) hk_100 rfl (wf_1_4 (wo_0_1 hez4.2)) rfl rfl ?_
        refine kg_aload hk_100 rfl rfl rfl ?_
        refine kg_get (v := .ref (24 + 1)) hk_100 rfl wk_0_6 rfl rfl ?_
        refine wf_bind hF (fun vz8 hvz8 hF => ?_)
        refine kg_call (as := [.ref (17 + 1), .ref ((2 * x1.toNatClampNeg + 48) + 1), .int (h (64 * x2.toNatClampNeg + 55) 4), .ref (24 + 1)]) (rest := [.ref ((64 * x2.toNatClampNeg + 52) + 1), .int x1, .ref (0 + 1)]) hk_100 rfl (Or.inr (Or.inr (Or.inr ⟨Or.inl rfl, _, _, rfl, wc_17⟩))) rfl rfl rfl (Nat.not_lt.mpr (Nat.le_of_ble_eq_true rfl)) (p_35_ok hez7.2 hvz8) (by decide) rfl ?_
        refine wf_bind hF (fun vz9 hvz9 hF => ?_)
        refine kg_call (as := [.ref (0 + 1), .int x1, .ref ((64 * x2.toNatClampNeg + 52) + 1), .int vz8.1]) (rest := []) hk_100 rfl (Or.inr (Or.inr (Or.inr ⟨Or.inl rfl, _, _, rfl, wc_0⟩))) rfl rfl rfl (Nat.not_lt.mpr (Nat.le_of_ble_eq_true rfl)) (p_128_ok hez4.2 hvz9) (by decide) rfl ?_
        refine wf_if hF (fun cz10 hF => ?_) (fun cz10 hF => ?_)
        · refine kg_ifF hk_100 rfl (jc_F1 cz10) rfl ?_
          refine kg_push (x := (-1)) hk_100 rfl (by decide) rfl ?_
          have hF := Option.some.inj hF
          subst hF
          exact kg_iret hk_100 rfl (Or.inl rfl) rfl
        · refine kg_ifT hk_100 rfl (jc_T1 cz10) ?_
          refine kg_aload hk_100 rfl rfl rfl ?_
          refine kg_dup hk_100 rfl rfl rfl ?_
          refine kg_get (v := .int (vz9.2 (64 * x2.toNatClampNeg + 52) 10)) hk_100 rfl (wf_0_10 hez4.2) rfl rfl ?_
          refine kg_push (x := 1) hk_100 rfl (by decide) rfl ?_
          refine kg_bin (z := ((vz9.2 (64 * x2.toNatClampNeg + 52) 10) + 1)) hk_100 rfl rfl rfl ?_
          refine wf_let hF (fun hz11 hhz11 hF => ?_)
          refine kg_put hk_100 rfl (wf_0_10 hez4.2) rfl rfl hhz11 rfl ?_
          refine kg_aload hk_100 rfl rfl rfl ?_
          refine wf_bind hF (fun vz12 hvz12 hF => ?_)
          refine kg_call (as := [.ref (0 + 1)]) (rest := []) hk_100 rfl (Or.inr (Or.inr (Or.inr ⟨Or.inl rfl, _, _, rfl, wc_0⟩))) rfl rfl rfl (Nat.not_lt.mpr (Nat.le_of_ble_eq_true rfl)) (p_129_ok hvz12) (by decide) rfl ?_
          refine kg_aload hk_100 rfl rfl rfl ?_
          refine wf_bind hF (fun vz13 hvz13 hF => ?_)
          refine kg_call (as := [.ref (0 + 1)]) (rest := []) hk_100 rfl (Or.inr (Or.inr (Or.inr ⟨Or.inl rfl, _, _, rfl, wc_0⟩))) rfl rfl rfl (Nat.not_lt.mpr (Nat.le_of_ble_eq_true rfl)) (p_130_ok hvz13) (by decide) rfl ?_
          refine kg_aload hk_100 rfl rfl rfl ?_
          refine kg_get (v := .int (vz13 (64 * x2.toNatClampNeg + 52) 10)) hk_100 rfl (wf_0_10 hez4.2) rfl rfl ?_
          have hF := Option.some.inj hF
          subst hF
          exact kg_iret hk_100 rfl (Or.inl rfl) rfl
      · refine kg_icF hk_100 rfl (jc_F0 cz5) rfl ?_
        have hF := Option.some.inj hF
        subst hF
        exact kg_throw hk_100 rfl (Nat.not_lt.mpr (Nat.le_of_ble_eq_true rfl)) rfl
-- NotebookWeir.mode(I)I
theorem hk_101 : jP[101]? = some (jc_101, 3, [], []) := by rfl
def q_101_9 (h : Hp) (x1 : Int32) : Option ((Int32 ⊕ Nat) × Hp) :=
  w_let (w_up h 0 11 x1) fun hz2 =>
  (p_130 hz2).bind fun vz3 =>
  some ((.inl (h 0 11)), vz3)
theorem q_101_9_ok {X : List Int32}   {h : Hp} {x1 : Int32}  {r : (Int32 ⊕ Nat) × Hp} (hF : q_101_9 h x1 = some r)  : ∀ (u2 : Value), k_Go X 7 101 (9, [.ref (0 + 1), .int x1, u2], []) h (w_th r.1, r.2) := by
  intro u2
  unfold q_101_9 at hF
  refine kg_aload hk_101 rfl rfl rfl ?_
  refine kg_get (v := .int (h 0 11)) hk_101 rfl wk_0_11 rfl rfl ?_
  refine kg_istore (L2 := [.ref (0 + 1), .int x1, .int (h 0 11)]) hk_101 rfl (Nat.le_of_ble_eq_true rfl) rfl rfl ?_
  refine kg_aload hk_101 rfl rfl rfl ?_
  refine kg_iload hk_101 rfl rfl rfl ?_
  refine wf_let hF (fun hz2 hhz2 hF => ?_)
  refine kg_put hk_101 rfl wk_0_11 rfl rfl hhz2 rfl ?_
  refine kg_aload hk_101 rfl rfl rfl ?_
  refine wf_bind hF (fun vz3 hvz3 hF => ?_)
  refine kg_call (as := [.ref (0 + 1)]) (rest := []) hk_101 rfl (Or.inr (Or.inr (Or.inr ⟨Or.inl rfl, _, _, rfl, wc_0⟩))) rfl rfl rfl (Nat.not_lt.mpr (Nat.le_of_ble_eq_true rfl)) (p_130_ok hvz3) (by decide) rfl ?_
  refine kg_iload hk_101 rfl rfl rfl ?_
  have hF := Option.some.inj hF
  subst hF
  exact kg_iret hk_101 rfl (Or.inl rfl) rfl
def p_101 (h : Hp) (x1 : Int32) : Option ((Int32 ⊕ Nat) × Hp) :=
  if x1 = 0 then
    (q_101_9 h x1)
  else
    (if x1 = 1 then
      (q_101_9 h x1)
    else
      (if x1 = 2 then
        (q_101_9 h x1)
      else
        (some ((.inr 0), h))))
theorem p_101_ok {X : List Int32}  {h : Hp} {x1 : Int32}  {r : (Int32 ⊕ Nat) × Hp} (hF : p_101 h x1 = some r) : k_Ev X 7 101 [.ref (0 + 1), .int x1] h (w_th r.1, r.2) := by
  refine k_of hk_101 ?_
  show k_Go X 7 101 (0, [.ref (0 + 1), .int x1, (.retAddr 0)], []) h _
  unfold p_101 at hF
  refine kg_iload hk_101 rfl rfl rfl ?_
  refine wf_if hF (fun cz1 hF => ?_) (fun cz1 hF => ?_)
  · refine kg_ifT hk_101 rfl (jc_T0 cz1) ?_
    exact q_101_9_ok hF _
  · refine kg_ifF hk_101 rfl (jc_F0 cz1) rfl ?_
    refine kg_iload hk_101 rfl rfl rfl ?_
    refine kg_push (x := 1) hk_101 rfl (by decide) rfl ?_
    refine wf_if hF (fun cz4 hF => ?_) (fun cz4 hF => ?_)
    · refine kg_icT hk_101 rfl (jc_T0 cz4) ?_
      exact q_101_9_ok hF _
    · refine kg_icF hk_101 rfl (jc_F0 cz4) rfl ?_
      refine kg_iload hk_101 rfl rfl rfl ?_
      refine kg_push (x := 2) hk_101 rfl (by decide) rfl ?_
      refine wf_if hF (fun cz5 hF => ?_) (fun cz5 hF => ?_)
      · refine kg_icT hk_101 rfl (jc_T0 cz5) ?_
        exact q_101_9_ok hF _
      · refine kg_icF hk_101 rfl (jc_F0 cz5) rfl ?_
        have hF := Option.some.inj hF
        subst hF
        exact kg_throw hk_101 rfl (Nat.not_lt.mpr (Nat.le_of_ble_eq_true rfl)) rfl
-- NotebookWeir.widget(CII)I
theorem hk_102 : jP[102]? = some (jc_102, 5, [], []) := by rfl
def p_102 (h : Hp) (x1 : Int32) (x2 : Int32) (x3 : Int32) : Option ((Int32 ⊕ Nat) × Hp) :=
  if (v_123 x1) = 0 then
    (some ((.inr 0), h))
  else
    (if x2 < (-1000) then
      (some ((.inr 0), h))
    else
      (if x2 ≤ 1000 then
        (if x3 < x2 then
          (some ((.inr 0), h))
        else
          (if x3 ≤ 1000 then
            ((p_89 h (x1 - 97) x2 x3).bind fun vz6 =>
            if vz6.1 = (-1) then
              (some ((.inr 1), vz6.2))
            else
              ((p_129 vz6.2).bind fun vz8 =>
              (p_130 vz8).bind fun vz9 =>
              some ((.inl vz6.1), vz9)))
          else
            (some ((.inr 0), h))))
      else
        (some ((.inr 0), h))))
theorem p_102_ok {X : List Int32}  {h : Hp} {x1 : Int32} {x2 : Int32} {x3 : Int32}  {r : (Int32 ⊕ Nat) × Hp} (hF : p_102 h x1 x2 x3 = some r) : k_Ev X 7 102 [.ref (0 + 1), .int x1, .int x2, .int x3] h (w_th r.1, r.2) := by
  refine k_of hk_102 ?_
  show k_Go X 7 102 (0, [.ref (0 + 1), .int x1, .int x2, .int x3, (.retAddr 0)], []) h _
  unfold p_102 at hF
  refine kg_iload hk_102 rfl rfl rfl ?_
  refine kg_call (as := [.int x1]) (rest := []) hk_102 rfl (Or.inl rfl) rfl rfl rfl (Nat.not_lt.mpr (Nat.le_of_ble_eq_true rfl)) (v_123_ok) (by decide) rfl ?_
  refine wf_if hF (fun cz1 hF => ?_) (fun cz1 hF => ?_)
  · refine kg_ifT hk_102 rfl (jc_T0 cz1) ?_
    have hF := Option.some.inj hF
    subst hF
    exact kg_throw hk_102 rfl (Nat.not_lt.mpr (Nat.le_of_ble_eq_true rfl)) rfl
  · refine kg_ifF hk_102 rfl (jc_F0 cz1) rfl ?_
    refine kg_iload hk_102 rfl rfl rfl ?_
    refine kg_push (x := (-1000)) hk_102 rfl (by decide) rfl ?_
    refine wf_if hF (fun cz2 hF => ?_) (fun cz2 hF => ?_)
    · refine kg_icT hk_102 rfl (jc_T2 cz2) ?_
      have hF := Option.some.inj hF
      subst hF
      exact kg_throw hk_102 rfl (Nat.not_lt.mpr (Nat.le_of_ble_eq_true rfl)) rfl
    · refine kg_icF hk_102 rfl (jc_F2 cz2) rfl ?_
      refine kg_iload hk_102 rfl rfl rfl ?_
      refine kg_push (x := 1000) hk_102 rfl (by decide) rfl ?_
      refine wf_if hF (fun cz3 hF => ?_) (fun cz3 hF => ?_)
      · refine kg_icF hk_102 rfl (jc_F4 cz3) rfl ?_
        refine kg_iload hk_102 rfl rfl rfl ?_
        refine kg_iload hk_102 rfl rfl rfl ?_
        refine wf_if hF (fun cz4 hF => ?_) (fun cz4 hF => ?_)
        · refine kg_icT hk_102 rfl (jc_T2 cz4) ?_
          have hF := Option.some.inj hF
          subst hF
          exact kg_throw hk_102 rfl (Nat.not_lt.mpr (Nat.le_of_ble_eq_true rfl)) rfl
        · refine kg_icF hk_102 rfl (jc_F2 cz4) rfl ?_
          refine kg_iload hk_102 rfl rfl rfl ?_
          refine kg_push (x := 1000) hk_102 rfl (by decide) rfl ?_
          refine wf_if hF (fun cz5 hF => ?_) (fun cz5 hF => ?_)
          · refine kg_icT hk_102 rfl (jc_T5 cz5) ?_
            refine kg_aload hk_102 rfl rfl rfl ?_
            refine kg_get (v := .ref (4 + 1)) hk_102 rfl wk_0_3 rfl rfl ?_
            refine kg_iload hk_102 rfl rfl rfl ?_
            refine kg_push (x := 97) hk_102 rfl (by decide) rfl ?_
            refine kg_bin (z := (x1 - 97)) hk_102 rfl rfl rfl ?_
            refine kg_iload hk_102 rfl rfl rfl ?_
            refine kg_iload hk_102 rfl rfl rfl ?_
            refine wf_bind hF (fun vz6 hvz6 hF => ?_)
            refine kg_call (as := [.ref (4 + 1), .int (x1 - 97), .int x2, .int x3]) (rest := []) hk_102 rfl (Or.inr (Or.inr (Or.inr ⟨Or.inl rfl, _, _, rfl, wc_4⟩))) rfl rfl rfl (Nat.not_lt.mpr (Nat.le_of_ble_eq_true rfl)) (p_89_ok hvz6) (by decide) rfl ?_
            refine kg_istore (L2 := [.ref (0 + 1), .int x1, .int x2, .int x3, .int vz6.1]) hk_102 rfl (Nat.le_of_ble_eq_true rfl) rfl rfl ?_
            refine kg_iload hk_102 rfl rfl rfl ?_
            refine kg_push (x := (-1)) hk_102 rfl (by decide) rfl ?_
            refine wf_if hF (fun cz7 hF => ?_) (fun cz7 hF => ?_)
            · refine kg_icF hk_102 rfl (jc_F1 cz7) rfl ?_
              have hF := Option.some.inj hF
              subst hF
              exact kg_throw hk_102 rfl (Nat.not_lt.mpr (Nat.le_of_ble_eq_true rfl)) rfl
            · refine kg_icT hk_102 rfl (jc_T1 cz7) ?_
              refine kg_aload hk_102 rfl rfl rfl ?_
              refine wf_bind hF (fun vz8 hvz8 hF => ?_)
              refine kg_call (as := [.ref (0 + 1)]) (rest := []) hk_102 rfl (Or.inr (Or.inr (Or.inr ⟨Or.inl rfl, _, _, rfl, wc_0⟩))) rfl rfl rfl (Nat.not_lt.mpr (Nat.le_of_ble_eq_true rfl)) (p_129_ok hvz8) (by decide) rfl ?_
              refine kg_aload hk_102 rfl rfl rfl ?_
              refine wf_bind hF (fun vz9 hvz9 hF => ?_)
              refine kg_call (as := [.ref (0 + 1)]) (rest := []) hk_102 rfl (Or.inr (Or.inr (Or.inr ⟨Or.inl rfl, _, _, rfl, wc_0⟩))) rfl rfl rfl (Nat.not_lt.mpr (Nat.le_of_ble_eq_true rfl)) (p_130_ok hvz9) (by decide) rfl ?_
              refine kg_iload hk_102 rfl rfl rfl ?_
              have hF := Option.some.inj hF
              subst hF
              exact kg_iret hk_102 rfl (Or.inl rfl) rfl
          · refine kg_icF hk_102 rfl (jc_F5 cz5) rfl ?_
            have hF := Option.some.inj hF
            subst hF
            exact kg_throw hk_102 rfl (Nat.not_lt.mpr (Nat.le_of_ble_eq_true rfl)) rfl
      · refine kg_icT hk_102 rfl (jc_T4 cz3) ?_
        have hF := Option.some.inj hF
        subst hF
        exact kg_throw hk_102 rfl (Nat.not_lt.mpr (Nat.le_of_ble_eq_true rfl)) rfl
-- NotebookWeir.bind(II)Z
theorem hk_103 : jP[103]? = some (jc_103, 3, [], []) := by rfl
def p_103 (h : Hp) (x1 : Int32) (x2 : Int32) : Option ((Int32 ⊕ Nat) × Hp) :=
  if (v_88 h x1) = 0 then
    (some ((.inr 2), h))
  else
    (if (v_88 h x2) = 0 then
      (some ((.inr 2), h))
    else
      (if x1 = x2 then
        (some ((.inr 0), h))
      else
        ((p_90 h x1 x2).bind fun vz4 =>
        w_gd (w_bo vz4.1) <|
        some ((.inl vz4.1), vz4.2))))
theorem p_103_ok {X : List Int32}  {h : Hp} {x1 : Int32} {x2 : Int32}  {r : (Int32 ⊕ Nat) × Hp} (hF : p_103 h x1 x2 = some r) : k_Ev X 2 103 [.ref (0 + 1), .int x1, .int x2] h (w_th r.1, r.2) := by
  refine k_of hk_103 ?_
  show k_Go X 2 103 (0, [.ref (0 + 1), .int x1, .int x2], []) h _
  unfold p_103 at hF
  refine kg_aload hk_103 rfl rfl rfl ?_
  refine kg_get (v := .ref (4 + 1)) hk_103 rfl wk_0_3 rfl rfl ?_
  refine kg_iload hk_103 rfl rfl rfl ?_
  refine kg_call (as := [.ref (4 + 1), .int x1]) (rest := []) hk_103 rfl (Or.inr (Or.inr (Or.inr ⟨Or.inl rfl, _, _, rfl, wc_4⟩))) rfl rfl rfl (Nat.not_lt.mpr (Nat.le_of_ble_eq_true rfl)) (v_88_ok) (by decide) rfl ?_
  refine wf_if hF (fun cz1 hF => ?_) (fun cz1 hF => ?_)
  · refine kg_ifT hk_103 rfl (jc_T0 cz1) ?_
    have hF := Option.some.inj hF
    subst hF
    exact kg_throw hk_103 rfl (Nat.not_lt.mpr (Nat.le_of_ble_eq_true rfl)) rfl
  · refine kg_ifF hk_103 rfl (jc_F0 cz1) rfl ?_
    refine kg_aload hk_103 rfl rfl rfl ?_
    refine kg_get (v := .ref (4 + 1)) hk_103 rfl wk_0_3 rfl rfl ?_
    refine kg_iload hk_103 rfl rfl rfl ?_
    refine kg_call (as := [.ref (4 + 1), .int x2]) (rest := []) hk_103 rfl (Or.inr (Or.inr (Or.inr ⟨Or.inl rfl, _, _, rfl, wc_4⟩))) rfl rfl rfl (Nat.not_lt.mpr (Nat.le_of_ble_eq_true rfl)) (v_88_ok) (by decide) rfl ?_
    refine wf_if hF (fun cz2 hF => ?_) (fun cz2 hF => ?_)
    · refine kg_ifF hk_103 rfl (jc_F1 cz2) rfl ?_
      have hF := Option.some.inj hF
      subst hF
      exact kg_throw hk_103 rfl (Nat.not_lt.mpr (Nat.le_of_ble_eq_true rfl)) rfl
    · refine kg_ifT hk_103 rfl (jc_T1 cz2) ?_
      refine kg_iload hk_103 rfl rfl rfl ?_
      refine kg_iload hk_103 rfl rfl rfl ?_
      refine wf_if hF (fun cz3 hF => ?_) (fun cz3 hF => ?_)
      · refine kg_icF hk_103 rfl (jc_F1 cz3) rfl ?_
        have hF := Option.some.inj hF
        subst hF
        exact kg_throw hk_103 rfl (Nat.not_lt.mpr (Nat.le_of_ble_eq_true rfl)) rfl
      · refine kg_icT hk_103 rfl (jc_T1 cz3) ?_
        refine kg_aload hk_103 rfl rfl rfl ?_
        refine kg_get (v := .ref (4 + 1)) hk_103 rfl wk_0_3 rfl rfl ?_
        refine kg_iload hk_103 rfl rfl rfl ?_
        refine kg_iload hk_103 rfl rfl rfl ?_
        refine wf_bind hF (fun vz4 hvz4 hF => ?_)
        refine kg_call (as := [.ref (4 + 1), .int x1, .int x2]) (rest := []) hk_103 rfl (Or.inr (Or.inr (Or.inr ⟨Or.inl rfl, _, _, rfl, wc_4⟩))) rfl rfl rfl (Nat.not_lt.mpr (Nat.le_of_ble_eq_true rfl)) (p_90_ok hvz4) (by decide) rfl ?_
        refine wf_gd hF (fun gz5 hF => ?_)
        have hF := Option.some.inj hF
        subst hF
        exact kg_iret hk_103 rfl (Or.inr gz5) rfl
-- NotebookWeir.turn(II)I
theorem hk_104 : jP[104]? = some (jc_104, 3, [], []) := by rfl
def p_104 (h : Hp) (x1 : Int32) (x2 : Int32) : Option ((Int32 ⊕ Nat) × Hp) :=
  if (v_88 h x1) = 0 then
    (some ((.inr 2), h))
  else
    (w_gd (g_91 h x1 x2) <|
    if (v_91 h x1 x2) = x2 then
      ((p_92 h x1 x2).bind fun vz4 =>
      w_let (w_up vz4 0 17 0) fun hz5 =>
      w_gd (w_ix x1 4) <|
      some ((.inl (hz5 8 x1.toNatClampNeg)), hz5))
    else
      (some ((.inr 0), h)))
theorem p_104_ok {X : List Int32}  {h : Hp} {x1 : Int32} {x2 : Int32}  {r : (Int32 ⊕ Nat) × Hp} (hF : p_104 h x1 x2 = some r) : k_Ev X 2 104 [.ref (0 + 1), .int x1, .int x2] h (w_th r.1, r.2) := by
  refine k_of hk_104 ?_
  show k_Go X 2 104 (0, [.ref (0 + 1), .int x1, .int x2], []) h _
  unfold p_104 at hF
  refine kg_aload hk_104 rfl rfl rfl ?_
  refine kg_get (v := .ref (4 + 1)) hk_104 rfl wk_0_3 rfl rfl ?_
  refine kg_iload hk_104 rfl rfl rfl ?_
  refine kg_call (as := [.ref (4 + 1), .int x1]) (rest := []) hk_104 rfl (Or.inr (Or.inr (Or.inr ⟨Or.inl rfl, _, _, rfl, wc_4⟩))) rfl rfl rfl (Nat.not_lt.mpr (Nat.le_of_ble_eq_true rfl)) (v_88_ok) (by decide) rfl ?_
  refine wf_if hF (fun cz1 hF => ?_) (fun cz1 hF => ?_)
  · refine kg_ifF hk_104 rfl (jc_F1 cz1) rfl ?_
    have hF := Option.some.inj hF
    subst hF
    exact kg_throw hk_104 rfl (Nat.not_lt.mpr (Nat.le_of_ble_eq_true rfl)) rfl
  · refine kg_ifT hk_104 rfl (jc_T1 cz1) ?_
    refine kg_aload hk_104 rfl rfl rfl ?_
    refine kg_get (v := .ref (4 + 1)) hk_104 rfl wk_0_3 rfl rfl ?_
    refine kg_iload hk_104 rfl rfl rfl ?_
    refine kg_iload hk_104 rfl rfl rfl ?_
    refine wf_gd hF (fun gz2 hF => ?_)
    refine kg_call (as := [.ref (4 + 1), .int x1, .int x2]) (rest := []) hk_104 rfl (Or.inr (Or.inr (Or.inr ⟨Or.inl rfl, _, _, rfl, wc_4⟩))) rfl rfl rfl (Nat.not_lt.mpr (Nat.le_of_ble_eq_true rfl)) (v_91_ok gz2) (by decide) rfl ?_
    refine kg_iload hk_104 rfl rfl rfl ?_
    refine wf_if hF (fun cz3 hF => ?_) (fun cz3 hF => ?_)
    · refine kg_icT hk_104 rfl (jc_T0 cz3) ?_
      refine kg_aload hk_104 rfl rfl rfl ?_
      refine kg_get (v := .ref (4 + 1)) hk_104 rfl wk_0_3 rfl rfl ?_
      refine kg_iload hk_104 rfl rfl rfl ?_
      refine kg_iload hk_104 rfl rfl rfl ?_
      refine wf_bind hF (fun vz4 hvz4 hF => ?_)
      refine kg_call (as := [.ref (4 + 1), .int x1, .int x2]) (rest := []) hk_104 rfl (Or.inr (Or.inr (Or.inr ⟨Or.inl rfl, _, _, rfl, wc_4⟩))) rfl rfl rfl (Nat.not_lt.mpr (Nat.le_of_ble_eq_true rfl)) (p_92_ok hvz4) (by decide) rfl ?_
      refine kg_aload hk_104 rfl rfl rfl ?_
      refine kg_push (x := 0) hk_104 rfl (by decide) rfl ?_
      refine wf_let hF (fun hz5 hhz5 hF => ?_)
      refine kg_put hk_104 rfl wk_0_17 rfl (w_fitB rfl) hhz5 rfl ?_
      refine kg_aload hk_104 rfl rfl rfl ?_
      refine kg_get (v := .ref (4 + 1)) hk_104 rfl wk_0_3 rfl rfl ?_
      refine kg_get (v := .ref (8 + 1)) hk_104 rfl wk_4_3 rfl rfl ?_
      refine kg_iload hk_104 rfl rfl rfl ?_
      refine wf_gd hF (fun gz6 hF => ?_)
      refine kg_ald (y := (hz5 8 x1.toNatClampNeg)) hk_104 rfl wc_8 gz6 rfl rfl ?_
      have hF := Option.some.inj hF
      subst hF
      exact kg_iret hk_104 rfl (Or.inl rfl) rfl
    · refine kg_icF hk_104 rfl (jc_F0 cz3) rfl ?_
      have hF := Option.some.inj hF
      subst hF
      exact kg_throw hk_104 rfl (Nat.not_lt.mpr (Nat.le_of_ble_eq_true rfl)) rfl
-- NotebookWeir.tick()I
theorem hk_105 : jP[105]? = some (jc_105, 1, [], []) := by rfl
def p_105 (h : Hp) : Option (Int32 × Hp) :=
  w_let (w_up h 40 1 ((h 40 1) + 1)) fun hz1 =>
  (p_94 hz1).bind fun vz2 =>
  w_let (w_up vz2 0 17 0) fun hz3 =>
  (p_130 hz3).bind fun vz4 =>
  some ((vz4 40 1), vz4)
theorem p_105_ok {X : List Int32}  {h : Hp}   {r : Int32 × Hp} (hF : p_105 h = some r) : k_Ev X 7 105 [.ref (0 + 1)] h (.inl (some (.int r.1)), r.2) := by
  refine k_of hk_105 ?_
  show k_Go X 7 105 (0, [.ref (0 + 1)], []) h _
  unfold p_105 at hF
  refine kg_aload hk_105 rfl rfl rfl ?_
  refine kg_get (v := .ref (40 + 1)) hk_105 rfl wk_0_8 rfl rfl ?_
  refine kg_dup hk_105 rfl rfl rfl ?_
  refine kg_get (v := .int (h 40 1)) hk_105 rfl wk_40_1 rfl rfl ?_
  refine kg_push (x := 1) hk_105 rfl (by decide) rfl ?_
  refine kg_bin (z := ((h 40 1) + 1)) hk_105 rfl rfl rfl ?_
  refine wf_let hF (fun hz1 hhz1 hF => ?_)
  refine kg_put hk_105 rfl wk_40_1 rfl rfl hhz1 rfl ?_
  refine kg_aload hk_105 rfl rfl rfl ?_
  refine kg_get (v := .ref (4 + 1)) hk_105 rfl wk_0_3 rfl rfl ?_
  refine wf_bind hF (fun vz2 hvz2 hF => ?_)
  refine kg_call (as := [.ref (4 + 1)]) (rest := []) hk_105 rfl (Or.inr (Or.inr (Or.inr ⟨Or.inl rfl, _, _, rfl, wc_4⟩))) rfl rfl rfl (Nat.not_lt.mpr (Nat.le_of_ble_eq_true rfl)) (p_94_ok hvz2) (by decide) rfl ?_
  refine kg_aload hk_105 rfl rfl rfl ?_
  refine kg_push (x := 0) hk_105 rfl (by decide) rfl ?_
  refine wf_let hF (fun hz3 hhz3 hF => ?_)
  refine kg_put hk_105 rfl wk_0_17 rfl (w_fitB rfl) hhz3 rfl ?_
  refine kg_aload hk_105 rfl rfl rfl ?_
  refine wf_bind hF (fun vz4 hvz4 hF => ?_)
  refine kg_call (as := [.ref (0 + 1)]) (rest := []) hk_105 rfl (Or.inr (Or.inr (Or.inr ⟨Or.inl rfl, _, _, rfl, wc_0⟩))) rfl rfl rfl (Nat.not_lt.mpr (Nat.le_of_ble_eq_true rfl)) (p_130_ok hvz4) (by decide) rfl ?_
  refine kg_aload hk_105 rfl rfl rfl ?_
  refine kg_get (v := .ref (40 + 1)) hk_105 rfl wk_0_8 rfl rfl ?_
  refine kg_get (v := .int (vz4 40 1)) hk_105 rfl wk_40_1 rfl rfl ?_
  have hF := Option.some.inj hF
  subst hF
  exact kg_iret hk_105 rfl (Or.inl rfl) rfl
-- NotebookWeir.shows(I)I
theorem hk_106 : jP[106]? = some (jc_106, 2, [], []) := by rfl
def p_106 (h : Hp) (x1 : Int32) : Option ((Int32 ⊕ Nat)) :=
  if (v_88 h x1) = 0 then
    (some (.inr 2))
  else
    (w_gd (w_ix x1 4) <|
    some (.inl (h 8 x1.toNatClampNeg)))
theorem p_106_ok {X : List Int32}  {h : Hp} {x1 : Int32}  {r : (Int32 ⊕ Nat)} (hF : p_106 h x1 = some r) : k_Ev X 1 106 [.ref (0 + 1), .int x1] h (w_th r, h) := by
  refine k_of hk_106 ?_
  show k_Go X 1 106 (0, [.ref (0 + 1), .int x1], []) h _
  unfold p_106 at hF
  refine kg_aload hk_106 rfl rfl rfl ?_
  refine kg_get (v := .ref (4 + 1)) hk_106 rfl wk_0_3 rfl rfl ?_
  refine kg_iload hk_106 rfl rfl rfl ?_
  refine kg_call (as := [.ref (4 + 1), .int x1]) (rest := []) hk_106 rfl (Or.inr (Or.inr (Or.inr ⟨Or.inl rfl, _, _, rfl, wc_4⟩))) rfl rfl rfl (Nat.not_lt.mpr (Nat.le_of_ble_eq_true rfl)) (v_88_ok) (by decide) rfl ?_
  refine wf_if hF (fun cz1 hF => ?_) (fun cz1 hF => ?_)
  · refine kg_ifF hk_106 rfl (jc_F1 cz1) rfl ?_
    have hF := Option.some.inj hF
    subst hF
    exact kg_throw hk_106 rfl (Nat.not_lt.mpr (Nat.le_of_ble_eq_true rfl)) rfl
  · refine kg_ifT hk_106 rfl (jc_T1 cz1) ?_
    refine kg_aload hk_106 rfl rfl rfl ?_
    refine kg_get (v := .ref (4 + 1)) hk_106 rfl wk_0_3 rfl rfl ?_
    refine kg_get (v := .ref (8 + 1)) hk_106 rfl wk_4_3 rfl rfl ?_
    refine kg_iload hk_106 rfl rfl rfl ?_
    refine wf_gd hF (fun gz2 hF => ?_)
    refine kg_ald (y := (h 8 x1.toNatClampNeg)) hk_106 rfl wc_8 gz2 rfl rfl ?_
    have hF := Option.some.inj hF
    subst hF
    exact kg_iret hk_106 rfl (Or.inl rfl) rfl
-- NotebookWeir.stateOf(I)I
theorem hk_131 : jP[131]? = some (jc_131, 2, [], []) := by rfl
def p_131 (h : Hp) (x1 : Int32) : Option (Int32 × Hp) :=
  (p_132 h).bind fun vz1 =>
  w_gd (w_ix x1 16) <|
  some ((vz1 3 x1.toNatClampNeg), vz1)
theorem p_131_ok {X : List Int32}  {h : Hp} {x1 : Int32}  {r : Int32 × Hp} (hF : p_131 h x1 = some r) : k_Ev X 5 131 [.ref (0 + 1), .int x1] h (.inl (some (.int r.1)), r.2) := by
  refine k_of hk_131 ?_
  show k_Go X 5 131 (0, [.ref (0 + 1), .int x1], []) h _
  unfold p_131 at hF
  refine kg_aload hk_131 rfl rfl rfl ?_
  refine wf_bind hF (fun vz1 hvz1 hF => ?_)
  refine kg_call (as := [.ref (0 + 1)]) (rest := []) hk_131 rfl (Or.inr (Or.inr (Or.inr ⟨Or.inl rfl, _, _, rfl, wc_0⟩))) rfl rfl rfl (Nat.not_lt.mpr (Nat.le_of_ble_eq_true rfl)) (p_132_ok hvz1) (by decide) rfl ?_
  refine kg_aload hk_131 rfl rfl rfl ?_
  refine kg_get (v := .ref (3 + 1)) hk_131 rfl wk_0_2 rfl rfl ?_
  refine kg_iload hk_131 rfl rfl rfl ?_
  refine wf_gd hF (fun gz2 hF => ?_)
  refine kg_ald (y := (vz1 3 x1.toNatClampNeg)) hk_131 rfl wc_3 gz2 rfl rfl ?_
  have hF := Option.some.inj hF
  subst hF
  exact kg_iret hk_131 rfl (Or.inl rfl) rfl
-- NotebookWeir.runWithNeeds(I)I
theorem hk_138 : jP[138]? = some (jc_138, 2, [], []) := by rfl
def p_138 (h : Hp) (x1 : Int32) : Option (Int32 × Hp) :=
  w_gd (w_ix x1 16) <|
  (p_137 h ((h 15 x1.toNatClampNeg) &&& ((1 <<< (x1 &&& 31)) ^^^ (-1)))).bind fun vz2 =>
  (p_131 vz2 x1).bind fun vz3 =>
  if vz3.1 = 3 then
    (some ((-1), vz3.2))
  else
    ((p_139 vz3.2 x1 0).bind fun vz5 =>
    some (vz5.1, vz5.2))
theorem p_138_ok {X : List Int32}  {h : Hp} {x1 : Int32}  {r : Int32 × Hp} (hF : p_138 h x1 = some r) : k_Ev X 6 138 [.ref (0 + 1), .int x1] h (.inl (some (.int r.1)), r.2) := by
  refine k_of hk_138 ?_
  show k_Go X 6 138 (0, [.ref (0 + 1), .int x1], []) h _
  unfold p_138 at hF
  refine kg_aload hk_138 rfl rfl rfl ?_
  refine kg_aload hk_138 rfl rfl rfl ?_
  refine kg_get (v := .ref (11 + 1)) hk_138 rfl wk_0_4 rfl rfl ?_
  refine kg_get (v := .ref (15 + 1)) hk_138 rfl wk_11_3 rfl rfl ?_
  refine kg_iload hk_138 rfl rfl rfl ?_
  refine wf_gd hF (fun gz1 hF => ?_)
  refine kg_ald (y := (h 15 x1.toNatClampNeg)) hk_138 rfl wc_15 gz1 rfl rfl ?_
  refine kg_push (x := 1) hk_138 rfl (by decide) rfl ?_
  refine kg_iload hk_138 rfl rfl rfl ?_
  refine kg_bin (z := (1 <<< (x1 &&& 31))) hk_138 rfl rfl rfl ?_
  refine kg_push (x := (-1)) hk_138 rfl (by decide) rfl ?_
  refine kg_bin (z := ((1 <<< (x1 &&& 31)) ^^^ (-1))) hk_138 rfl rfl rfl ?_
  refine kg_bin (z := ((h 15 x1.toNatClampNeg) &&& ((1 <<< (x1 &&& 31)) ^^^ (-1)))) hk_138 rfl rfl rfl ?_
  refine wf_bind hF (fun vz2 hvz2 hF => ?_)
  refine kg_call (as := [.ref (0 + 1), .int ((h 15 x1.toNatClampNeg) &&& ((1 <<< (x1 &&& 31)) ^^^ (-1)))]) (rest := []) hk_138 rfl (Or.inr (Or.inr (Or.inr ⟨Or.inl rfl, _, _, rfl, wc_0⟩))) rfl rfl rfl (Nat.not_lt.mpr (Nat.le_of_ble_eq_true rfl)) (p_137_ok hvz2) (by decide) rfl ?_
  refine kg_aload hk_138 rfl rfl rfl ?_
  refine kg_iload hk_138 rfl rfl rfl ?_
  refine wf_bind hF (fun vz3 hvz3 hF => ?_)
  refine kg_call (as := [.ref (0 + 1), .int x1]) (rest := []) hk_138 rfl (Or.inr (Or.inr (Or.inr ⟨Or.inl rfl, _, _, rfl, wc_0⟩))) rfl rfl rfl (Nat.not_lt.mpr (Nat.le_of_ble_eq_true rfl)) (p_131_ok hvz3) (by decide) rfl ?_
  refine kg_push (x := 3) hk_138 rfl (by decide) rfl ?_
  refine wf_if hF (fun cz4 hF => ?_) (fun cz4 hF => ?_)
  · refine kg_icF hk_138 rfl (jc_F1 cz4) rfl ?_
    refine kg_push (x := (-1)) hk_138 rfl (by decide) rfl ?_
    have hF := Option.some.inj hF
    subst hF
    exact kg_iret hk_138 rfl (Or.inl rfl) rfl
  · refine kg_icT hk_138 rfl (jc_T1 cz4) ?_
    refine kg_aload hk_138 rfl rfl rfl ?_
    refine kg_iload hk_138 rfl rfl rfl ?_
    refine kg_push (x := 0) hk_138 rfl (by decide) rfl ?_
    refine wf_bind hF (fun vz5 hvz5 hF => ?_)
    refine kg_call (as := [.ref (0 + 1), .int x1, .int 0]) (rest := []) hk_138 rfl (Or.inr (Or.inr (Or.inr ⟨Or.inl rfl, _, _, rfl, wc_0⟩))) rfl rfl rfl (Nat.not_lt.mpr (Nat.le_of_ble_eq_true rfl)) (p_139_ok hvz5) (by decide) rfl ?_
    have hF := Option.some.inj hF
    subst hF
    exact kg_iret hk_138 rfl (Or.inl rfl) rfl
-- NotebookWeir.run(I)I
theorem hk_107 : jP[107]? = some (jc_107, 2, [], []) := by rfl
def p_107 (h : Hp) (x1 : Int32) : Option ((Int32 ⊕ Nat) × Hp) :=
  if (v_125 h x1) = 0 then
    (some ((.inr 2), h))
  else
    ((p_131 h x1).bind fun vz2 =>
    if vz2.1 < 3 then
      ((p_138 vz2.2 x1).bind fun vz4 =>
      some ((.inl vz4.1), vz4.2))
    else
      (some ((.inr 1), vz2.2)))
theorem p_107_ok {X : List Int32}  {h : Hp} {x1 : Int32}  {r : (Int32 ⊕ Nat) × Hp} (hF : p_107 h x1 = some r) : k_Ev X 7 107 [.ref (0 + 1), .int x1] h (w_th r.1, r.2) := by
  refine k_of hk_107 ?_
  show k_Go X 7 107 (0, [.ref (0 + 1), .int x1], []) h _
  unfold p_107 at hF
  refine kg_aload hk_107 rfl rfl rfl ?_
  refine kg_iload hk_107 rfl rfl rfl ?_
  refine kg_call (as := [.ref (0 + 1), .int x1]) (rest := []) hk_107 rfl (Or.inr (Or.inr (Or.inr ⟨Or.inl rfl, _, _, rfl, wc_0⟩))) rfl rfl rfl (Nat.not_lt.mpr (Nat.le_of_ble_eq_true rfl)) (v_125_ok) (by decide) rfl ?_
  refine wf_if hF (fun cz1 hF => ?_) (fun cz1 hF => ?_)
  · refine kg_ifF hk_107 rfl (jc_F1 cz1) rfl ?_
    have hF := Option.some.inj hF
    subst hF
    exact kg_throw hk_107 rfl (Nat.not_lt.mpr (Nat.le_of_ble_eq_true rfl)) rfl
  · refine kg_ifT hk_107 rfl (jc_T1 cz1) ?_
    refine kg_aload hk_107 rfl rfl rfl ?_
    refine kg_iload hk_107 rfl rfl rfl ?_
    refine wf_bind hF (fun vz2 hvz2 hF => ?_)
    refine kg_call (as := [.ref (0 + 1), .int x1]) (rest := []) hk_107 rfl (Or.inr (Or.inr (Or.inr ⟨Or.inl rfl, _, _, rfl, wc_0⟩))) rfl rfl rfl (Nat.not_lt.mpr (Nat.le_of_ble_eq_true rfl)) (p_131_ok hvz2) (by decide) rfl ?_
    refine kg_push (x := 3) hk_107 rfl (by decide) rfl ?_
    refine wf_if hF (fun cz3 hF => ?_) (fun cz3 hF => ?_)
    · refine kg_icT hk_107 rfl (jc_T2 cz3) ?_
      refine kg_aload hk_107 rfl rfl rfl ?_
      refine kg_iload hk_107 rfl rfl rfl ?_
      refine wf_bind hF (fun vz4 hvz4 hF => ?_)
      refine kg_call (as := [.ref (0 + 1), .int x1]) (rest := []) hk_107 rfl (Or.inr (Or.inr (Or.inr ⟨Or.inl rfl, _, _, rfl, wc_0⟩))) rfl rfl rfl (Nat.not_lt.mpr (Nat.le_of_ble_eq_true rfl)) (p_138_ok hvz4) (by decide) rfl ?_
      have hF := Option.some.inj hF
      subst hF
      exact kg_iret hk_107 rfl (Or.inl rfl) rfl
    · refine kg_icF hk_107 rfl (jc_F2 cz3) rfl ?_
      have hF := Option.some.inj hF
      subst hF
      exact kg_throw hk_107 rfl (Nat.not_lt.mpr (Nat.le_of_ble_eq_true rfl)) rfl
-- NotebookWeir.checkpoint()I
theorem hk_108 : jP[108]? = some (jc_108, 4, [], []) := by rfl
def q_108_38 (h : Hp) (x1 : Int32) (x2 : Int32) (q3 : Nat) (s0 : Int32) (s1 : Nat) : Option ((Int32 × Int32 × Hp) ⊕ Int32 × Hp) :=
  w_gd (w_bo s0) <|
  w_let (w_up h s1 16 s0) fun hz13 =>
  if (hz13 q3 16) = 0 then
    (some (.inl (x1, (x2 + 1), hz13)))
  else
    ((p_141 hz13 x2 0).bind fun vz16 =>
    (p_13 vz16 (q3 + 17) (q3 + 1) 45 (q3 + 7)).bind fun vz17 =>
    some (.inl ((x1 + 1), (x2 + 1), vz17)))
theorem q_108_38_ok {X : List Int32} {o : kO}  {h : Hp} {q3 : Nat} {s0 : Int32} {s1 : Nat} {x1 : Int32} {x2 : Int32} (t3 : w_ob q3 0) (ts1 : w_ob s1 0) {r : (Int32 × Int32 × Hp) ⊕ Int32 × Hp} (hF : q_108_38 h x1 x2 q3 s0 s1 = some r) (hK : ∀ s' : Int32 × Int32 × Hp, r = .inl s' → ∀ (u3 : Value), k_Go X 5 108 (6, [.ref (0 + 1), .int (s'.1), .int (s'.2.1), u3], []) s'.2.2 o) (hX0 : ∀ e : Int32 × Hp, r = .inr e → (.inl (some (.int e.1)), e.2) = o) : k_Go X 5 108 (38, [.ref (0 + 1), .int x1, .int x2, .ref (q3 + 1)], [.int s0, .ref (s1 + 1)]) h o := by
  unfold q_108_38 at hF
  refine wf_gd hF (fun gz14 hF => ?_)
  refine wf_let hF (fun hz13 hhz13 hF => ?_)
  refine kg_put hk_108 rfl (wf_0_16 ts1) rfl (w_fitB gz14) hhz13 rfl ?_
  refine kg_aload hk_108 rfl rfl rfl ?_
  refine kg_get (v := .int (hz13 q3 16)) hk_108 rfl (wf_0_16 t3) rfl rfl ?_
  refine wf_if hF (fun cz15 hF => ?_) (fun cz15 hF => ?_)
  · refine kg_ifT hk_108 rfl (jc_T0 cz15) ?_
    refine kg_iinc (y := (x2 + 1)) (L2 := [.ref (0 + 1), .int x1, .int (x2 + 1), .ref (q3 + 1)]) hk_108 rfl rfl rfl rfl rfl ?_
    refine kg_goto hk_108 rfl ?_
    have hF := Option.some.inj hF
    exact hK _ hF.symm _
  · refine kg_ifF hk_108 rfl (jc_F0 cz15) rfl ?_
    refine kg_aload hk_108 rfl rfl rfl ?_
    refine kg_iload hk_108 rfl rfl rfl ?_
    refine kg_push (x := 0) hk_108 rfl (by decide) rfl ?_
    refine wf_bind hF (fun vz16 hvz16 hF => ?_)
    refine kg_call (as := [.ref (0 + 1), .int x2, .int 0]) (rest := []) hk_108 rfl (Or.inr (Or.inr (Or.inr ⟨Or.inl rfl, _, _, rfl, wc_0⟩))) rfl rfl rfl (Nat.not_lt.mpr (Nat.le_of_ble_eq_true rfl)) (p_141_ok hvz16) (by decide) rfl ?_
    refine kg_aload hk_108 rfl rfl rfl ?_
    refine kg_get (v := .ref ((q3 + 17) + 1)) hk_108 rfl (wf_0_5 t3) rfl rfl ?_
    refine kg_aload hk_108 rfl rfl rfl ?_
    refine kg_get (v := .ref ((q3 + 1) + 1)) hk_108 rfl (wf_0_0 t3) rfl rfl ?_
    refine kg_aload hk_108 rfl rfl rfl ?_
    refine kg_get (v := .ref (45 + 1)) hk_108 rfl wk_0_9 rfl rfl ?_
    refine kg_aload hk_108 rfl rfl rfl ?_
    refine kg_get (v := .ref ((q3 + 7) + 1)) hk_108 rfl (wf_0_2 t3) rfl rfl ?_
    refine wf_bind hF (fun vz17 hvz17 hF => ?_)
    refine kg_call (as := [.ref ((q3 + 17) + 1), .ref ((q3 + 1) + 1), .ref (45 + 1), .ref ((q3 + 7) + 1)]) (rest := []) hk_108 rfl (Or.inr (Or.inr (Or.inr ⟨Or.inl rfl, _, _, rfl, (wo_0_5 t3)⟩))) rfl rfl rfl (Nat.not_lt.mpr (Nat.le_of_ble_eq_true rfl)) (p_13_ok (wo_0_5 t3) (wo_0_0 t3) wc_45 (wo_0_2 t3) hvz17) (by decide) rfl ?_
    refine kg_iinc (y := (x1 + 1)) (L2 := [.ref (0 + 1), .int (x1 + 1), .int x2, .ref (q3 + 1)]) hk_108 rfl rfl rfl rfl rfl ?_
    refine kg_iinc (y := (x2 + 1)) (L2 := [.ref (0 + 1), .int (x1 + 1), .int (x2 + 1), .ref (q3 + 1)]) hk_108 rfl rfl rfl rfl rfl ?_
    refine kg_goto hk_108 rfl ?_
    have hF := Option.some.inj hF
    exact hK _ hF.symm _
def q_108_37 (h : Hp) (x1 : Int32) (x2 : Int32) (q3 : Nat) (s0 : Nat) : Option ((Int32 × Int32 × Hp) ⊕ Int32 × Hp) :=
  q_108_38 h x1 x2 q3 0 s0
theorem q_108_37_ok {X : List Int32} {o : kO}  {h : Hp} {q3 : Nat} {s0 : Nat} {x1 : Int32} {x2 : Int32} (t3 : w_ob q3 0) (ts0 : w_ob s0 0) {r : (Int32 × Int32 × Hp) ⊕ Int32 × Hp} (hF : q_108_37 h x1 x2 q3 s0 = some r) (hK : ∀ s' : Int32 × Int32 × Hp, r = .inl s' → ∀ (u3 : Value), k_Go X 5 108 (6, [.ref (0 + 1), .int (s'.1), .int (s'.2.1), u3], []) s'.2.2 o) (hX0 : ∀ e : Int32 × Hp, r = .inr e → (.inl (some (.int e.1)), e.2) = o) : k_Go X 5 108 (37, [.ref (0 + 1), .int x1, .int x2, .ref (q3 + 1)], [.ref (s0 + 1)]) h o := by
  unfold q_108_37 at hF
  refine kg_push (x := 0) hk_108 rfl (by decide) rfl ?_
  exact q_108_38_ok t3 ts0 hF hK hX0
def l_108_6 (x1 : Int32) (x2 : Int32) (h : Hp) : Option ((Int32 × Int32 × Hp) ⊕ Int32 × Hp) :=
  if x2 < (h 0 10) then
    (w_gd (w_ix x2 16) <|
    w_gd (w_ix x2 16) <|
    if (h 3 x2.toNatClampNeg) = 0 then
      ((p_59 h (64 * x2.toNatClampNeg + 53) 63).bind fun vz7 =>
      if vz7 = 0 then
        ((p_59 h (64 * x2.toNatClampNeg + 53) 64).bind fun vz9 =>
        if vz9 = 0 then
          ((p_74 h (64 * x2.toNatClampNeg + 59)).bind fun vz11 =>
          q_108_38 h x1 x2 (64 * x2.toNatClampNeg + 52) (if vz11 = 0 then 0 else 1 : Int32) (64 * x2.toNatClampNeg + 52))
        else
          (q_108_37 h x1 x2 (64 * x2.toNatClampNeg + 52) (64 * x2.toNatClampNeg + 52)))
      else
        (q_108_37 h x1 x2 (64 * x2.toNatClampNeg + 52) (64 * x2.toNatClampNeg + 52)))
    else
      (q_108_37 h x1 x2 (64 * x2.toNatClampNeg + 52) (64 * x2.toNatClampNeg + 52)))
  else
    (some (.inr (x1, h)))
theorem l_108_6_st {X : List Int32} {o : kO}  {h : Hp} {x1 : Int32} {x2 : Int32}  {r : (Int32 × Int32 × Hp) ⊕ Int32 × Hp} (hF : l_108_6 x1 x2 h = some r) (hK : ∀ s' : Int32 × Int32 × Hp, r = .inl s' → ∀ (u3 : Value), k_Go X 5 108 (6, [.ref (0 + 1), .int (s'.1), .int (s'.2.1), u3], []) s'.2.2 o) (hX0 : ∀ e : Int32 × Hp, r = .inr e → (.inl (some (.int e.1)), e.2) = o) : ∀ (u3 : Value), k_Go X 5 108 (6, [.ref (0 + 1), .int x1, .int x2, u3], []) h o := by
  intro u3
  refine kg_iload hk_108 rfl rfl rfl ?_
  refine kg_aload hk_108 rfl rfl rfl ?_
  refine kg_get (v := .int (h 0 10)) hk_108 rfl wk_0_10 rfl rfl ?_
  refine wf_if hF (fun cz2 hF => ?_) (fun cz2 hF => ?_)
  · refine kg_icF hk_108 rfl (jc_F3 cz2) rfl ?_
    refine kg_aload hk_108 rfl rfl rfl ?_
    refine kg_get (v := .ref (2 + 1)) hk_108 rfl wk_0_1 rfl rfl ?_
    refine kg_iload hk_108 rfl rfl rfl ?_
    refine wf_gd hF (fun gz3 hF => ?_)
    have hez4 := w_E we_61 wc_2 gz3
    refine kg_aald (y := (64 * x2.toNatClampNeg + 52)) hk_108 rfl gz3 hez4.1 rfl ?_
    refine kg_astore (L2 := [.ref (0 + 1), .int x1, .int x2, .ref ((64 * x2.toNatClampNeg + 52) + 1)]) hk_108 rfl (Nat.le_of_ble_eq_true rfl) rfl rfl ?_
    refine kg_aload hk_108 rfl rfl rfl ?_
    refine kg_aload hk_108 rfl rfl rfl ?_
    refine kg_get (v := .ref (3 + 1)) hk_108 rfl wk_0_2 rfl rfl ?_
    refine kg_iload hk_108 rfl rfl rfl ?_
    refine wf_gd hF (fun gz5 hF => ?_)
    refine kg_ald (y := (h 3 x2.toNatClampNeg)) hk_108 rfl wc_3 gz5 rfl rfl ?_
    refine wf_if hF (fun cz6 hF => ?_) (fun cz6 hF => ?_)
    · refine kg_ifF hk_108 rfl (jc_F1 cz6) rfl ?_
      refine kg_aload hk_108 rfl rfl rfl ?_
      refine kg_get (v := .ref ((64 * x2.toNatClampNeg + 53) + 1)) hk_108 rfl (wf_0_0 hez4.2) rfl rfl ?_
      refine kg_push (x := 63) hk_108 rfl (by decide) rfl ?_
      refine wf_bind hF (fun vz7 hvz7 hF => ?_)
      refine kg_call (as := [.ref ((64 * x2.toNatClampNeg + 53) + 1), .int 63]) (rest := [.ref ((64 * x2.toNatClampNeg + 52) + 1)]) hk_108 rfl (Or.inr (Or.inr (Or.inr ⟨Or.inl rfl, _, _, rfl, (wo_0_0 hez4.2)⟩))) rfl rfl rfl (Nat.not_lt.mpr (Nat.le_of_ble_eq_true rfl)) (p_59_ok (wo_0_0 hez4.2) hvz7) (by decide) rfl ?_
      refine wf_if hF (fun cz8 hF => ?_) (fun cz8 hF => ?_)
      · refine kg_ifF hk_108 rfl (jc_F1 cz8) rfl ?_
        refine kg_aload hk_108 rfl rfl rfl ?_
        refine kg_get (v := .ref ((64 * x2.toNatClampNeg + 53) + 1)) hk_108 rfl (wf_0_0 hez4.2) rfl rfl ?_
        refine kg_push (x := 64) hk_108 rfl (by decide) rfl ?_
        refine wf_bind hF (fun vz9 hvz9 hF => ?_)
        refine kg_call (as := [.ref ((64 * x2.toNatClampNeg + 53) + 1), .int 64]) (rest := [.ref ((64 * x2.toNatClampNeg + 52) + 1)]) hk_108 rfl (Or.inr (Or.inr (Or.inr ⟨Or.inl rfl, _, _, rfl, (wo_0_0 hez4.2)⟩))) rfl rfl rfl (Nat.not_lt.mpr (Nat.le_of_ble_eq_true rfl)) (p_59_ok (wo_0_0 hez4.2) hvz9) (by decide) rfl ?_
        refine wf_if hF (fun cz10 hF => ?_) (fun cz10 hF => ?_)
        · refine kg_ifF hk_108 rfl (jc_F1 cz10) rfl ?_
          refine kg_aload hk_108 rfl rfl rfl ?_
          refine kg_get (v := .ref ((64 * x2.toNatClampNeg + 59) + 1)) hk_108 rfl (wf_0_2 hez4.2) rfl rfl ?_
          refine wf_bind hF (fun vz11 hvz11 hF => ?_)
          refine kg_call (as := [.ref ((64 * x2.toNatClampNeg + 59) + 1)]) (rest := [.ref ((64 * x2.toNatClampNeg + 52) + 1)]) hk_108 rfl (Or.inr (Or.inr (Or.inr ⟨Or.inl rfl, _, _, rfl, (wo_0_2 hez4.2)⟩))) rfl rfl rfl (Nat.not_lt.mpr (Nat.le_of_ble_eq_true rfl)) (p_74_ok (wo_0_2 hez4.2) hvz11) (by decide) rfl ?_
          refine kv_mid (p := 38) (L := [.ref (0 + 1), .int x1, .int x2, .ref ((64 * x2.toNatClampNeg + 52) + 1)]) (S := [.int (if vz11 = 0 then 0 else 1 : Int32), .ref ((64 * x2.toNatClampNeg + 52) + 1)]) ?_ (fun hK => ?_)
          · exact q_108_38_ok hez4.2 hez4.2 hF hK hX0
          · by_cases cz12 : vz11 = 0
            · have hK := kv_T cz12 hK
              refine kg_ifT hk_108 rfl (jc_T0 cz12) ?_
              refine kg_push (x := 0) hk_108 rfl (by decide) rfl ?_
              exact hK
            · have hK := kv_F cz12 hK
              refine kg_ifF hk_108 rfl (jc_F0 cz12) rfl ?_
              refine kg_push (x := 1) hk_108 rfl (by decide) rfl ?_
              refine kg_goto hk_108 rfl ?_
              exact hK
        · refine kg_ifT hk_108 rfl (jc_T1 cz10) ?_
          exact q_108_37_ok hez4.2 hez4.2 hF hK hX0
      · refine kg_ifT hk_108 rfl (jc_T1 cz8) ?_
        exact q_108_37_ok hez4.2 hez4.2 hF hK hX0
    · refine kg_ifT hk_108 rfl (jc_T1 cz6) ?_
      exact q_108_37_ok hez4.2 hez4.2 hF hK hX0
  · refine kg_icT hk_108 rfl (jc_T3 cz2) ?_
    refine kg_iload hk_108 rfl rfl rfl ?_
    have hF := Option.some.inj hF
    exact kg_iret hk_108 rfl (Or.inl rfl) (hX0 _ hF.symm)
theorem l_108_6_ok {X : List Int32} {o : kO}    {n : Nat} {s : Int32 × Int32 × Hp} {e : Int32 × Hp} (hF : w_lp (fun (s : Int32 × Int32 × Hp) => l_108_6 s.1 s.2.1 s.2.2) n s = some e) (hX0 : (.inl (some (.int e.1)), e.2) = o) : ∀ (u3 : Value), k_Go X 5 108 (6, [.ref (0 + 1), .int s.1, .int s.2.1, u3], []) s.2.2 o := by
  exact w_lp_ok (P := (fun (s : Int32 × Int32 × Hp) => ∀ (u3 : Value), k_Go X 5 108 (6, [.ref (0 + 1), .int s.1, .int s.2.1, u3], []) s.2.2 o)) (Q := (fun (e : Int32 × Hp) => ((.inl (some (.int e.1)), e.2) = o))) (fun s r hF hK hX => l_108_6_st hF hK (fun x hx => (hX _ hx))) n s e hF hX0
def p_108 (h : Hp) : Option (Int32 × Hp) :=
  (p_132 h).bind fun vz1 =>
  w_lp (fun (s : Int32 × Int32 × Hp) => l_108_6 s.1 s.2.1 s.2.2) w_N (0, 0, vz1)
theorem p_108_ok {X : List Int32}  {h : Hp}   {r : Int32 × Hp} (hF : p_108 h = some r) : k_Ev X 5 108 [.ref (0 + 1)] h (.inl (some (.int r.1)), r.2) := by
  refine k_of hk_108 ?_
  show k_Go X 5 108 (0, [.ref (0 + 1), (.retAddr 0), (.retAddr 0), (.retAddr 0)], []) h _
  unfold p_108 at hF
  refine kg_aload hk_108 rfl rfl rfl ?_
  refine wf_bind hF (fun vz1 hvz1 hF => ?_)
  refine kg_call (as := [.ref (0 + 1)]) (rest := []) hk_108 rfl (Or.inr (Or.inr (Or.inr ⟨Or.inl rfl, _, _, rfl, wc_0⟩))) rfl rfl rfl (Nat.not_lt.mpr (Nat.le_of_ble_eq_true rfl)) (p_132_ok hvz1) (by decide) rfl ?_
  refine kg_push (x := 0) hk_108 rfl (by decide) rfl ?_
  refine kg_istore (L2 := [.ref (0 + 1), .int 0, (.retAddr 0), (.retAddr 0)]) hk_108 rfl (Nat.le_of_ble_eq_true rfl) rfl rfl ?_
  refine kg_push (x := 0) hk_108 rfl (by decide) rfl ?_
  refine kg_istore (L2 := [.ref (0 + 1), .int 0, .int 0, (.retAddr 0)]) hk_108 rfl (Nat.le_of_ble_eq_true rfl) rfl rfl ?_
  exact l_108_6_ok hF rfl _
-- NotebookWeir.kill()I
theorem hk_109 : jP[109]? = some (jc_109, 2, [], []) := by rfl
def q_109_42 (h : Hp) (x1 : Int32) : Option ((Int32 × Hp) ⊕ Hp) :=
  w_gd (w_ix x1 16) <|
  (p_6 h (64 * x1.toNatClampNeg + 52)).bind fun vz10 =>
  some (.inl ((x1 + 1), vz10))
theorem q_109_42_ok {X : List Int32} {o : kO}  {h : Hp} {x1 : Int32}  {r : (Int32 × Hp) ⊕ Hp} (hF : q_109_42 h x1 = some r) (hK : ∀ s' : Int32 × Hp, r = .inl s' → k_Go X 5 109 (10, [.ref (0 + 1), .int (s'.1)], []) s'.2 o) (hX0 : ∀ e : Hp, r = .inr e → ∀ (u1 : Value), k_Go X 5 109 (49, [.ref (0 + 1), u1], []) e o) : k_Go X 5 109 (42, [.ref (0 + 1), .int x1], []) h o := by
  unfold q_109_42 at hF
  refine kg_aload hk_109 rfl rfl rfl ?_
  refine kg_get (v := .ref (2 + 1)) hk_109 rfl wk_0_1 rfl rfl ?_
  refine kg_iload hk_109 rfl rfl rfl ?_
  refine wf_gd hF (fun gz8 hF => ?_)
  have hez9 := w_E we_61 wc_2 gz8
  refine kg_aald (y := (64 * x1.toNatClampNeg + 52)) hk_109 rfl gz8 hez9.1 rfl ?_
  refine wf_bind hF (fun vz10 hvz10 hF => ?_)
  refine kg_call (as := [.ref ((64 * x1.toNatClampNeg + 52) + 1)]) (rest := []) hk_109 rfl (Or.inr (Or.inr (Or.inr ⟨Or.inl rfl, _, _, rfl, hez9.2⟩))) rfl rfl rfl (Nat.not_lt.mpr (Nat.le_of_ble_eq_true rfl)) (p_6_ok hez9.2 hvz10) (by decide) rfl ?_
  refine kg_iinc (y := (x1 + 1)) (L2 := [.ref (0 + 1), .int (x1 + 1)]) hk_109 rfl rfl rfl rfl rfl ?_
  refine kg_goto hk_109 rfl ?_
  have hF := Option.some.inj hF
  exact hK _ hF.symm
def l_109_10 (x1 : Int32) (h : Hp) : Option ((Int32 × Hp) ⊕ Hp) :=
  if x1 < (h 0 10) then
    (w_gd (w_ix x1 16) <|
    if (h 3 x1.toNatClampNeg) = 0 then
      (w_let (w_up h 0 15 ((h 0 15) ||| (1 <<< (x1 &&& 31)))) fun hz7 =>
      q_109_42 hz7 x1)
    else
      (w_gd (w_ix x1 16) <|
      if (h 3 x1.toNatClampNeg) = 2 then
        (w_let (w_up h 0 16 ((h 0 16) ||| (1 <<< (x1 &&& 31)))) fun hz13 =>
        q_109_42 hz13 x1)
      else
        (q_109_42 h x1)))
  else
    (some (.inr h))
theorem l_109_10_st {X : List Int32} {o : kO}  {h : Hp} {x1 : Int32}  {r : (Int32 × Hp) ⊕ Hp} (hF : l_109_10 x1 h = some r) (hK : ∀ s' : Int32 × Hp, r = .inl s' → k_Go X 5 109 (10, [.ref (0 + 1), .int (s'.1)], []) s'.2 o) (hX0 : ∀ e : Hp, r = .inr e → ∀ (u1 : Value), k_Go X 5 109 (49, [.ref (0 + 1), u1], []) e o) : k_Go X 5 109 (10, [.ref (0 + 1), .int x1], []) h o := by
  refine kg_iload hk_109 rfl rfl rfl ?_
  refine kg_aload hk_109 rfl rfl rfl ?_
  refine kg_get (v := .int (h 0 10)) hk_109 rfl wk_0_10 rfl rfl ?_
  refine wf_if hF (fun cz4 hF => ?_) (fun cz4 hF => ?_)
  · refine kg_icF hk_109 rfl (jc_F3 cz4) rfl ?_
    refine kg_aload hk_109 rfl rfl rfl ?_
    refine kg_get (v := .ref (3 + 1)) hk_109 rfl wk_0_2 rfl rfl ?_
    refine kg_iload hk_109 rfl rfl rfl ?_
    refine wf_gd hF (fun gz5 hF => ?_)
    refine kg_ald (y := (h 3 x1.toNatClampNeg)) hk_109 rfl wc_3 gz5 rfl rfl ?_
    refine wf_if hF (fun cz6 hF => ?_) (fun cz6 hF => ?_)
    · refine kg_ifF hk_109 rfl (jc_F1 cz6) rfl ?_
      refine kg_aload hk_109 rfl rfl rfl ?_
      refine kg_dup hk_109 rfl rfl rfl ?_
      refine kg_get (v := .int (h 0 15)) hk_109 rfl wk_0_15 rfl rfl ?_
      refine kg_push (x := 1) hk_109 rfl (by decide) rfl ?_
      refine kg_iload hk_109 rfl rfl rfl ?_
      refine kg_bin (z := (1 <<< (x1 &&& 31))) hk_109 rfl rfl rfl ?_
      refine kg_bin (z := ((h 0 15) ||| (1 <<< (x1 &&& 31)))) hk_109 rfl rfl rfl ?_
      refine wf_let hF (fun hz7 hhz7 hF => ?_)
      refine kg_put hk_109 rfl wk_0_15 rfl rfl hhz7 rfl ?_
      refine kg_goto hk_109 rfl ?_
      exact q_109_42_ok hF hK hX0
    · refine kg_ifT hk_109 rfl (jc_T1 cz6) ?_
      refine kg_aload hk_109 rfl rfl rfl ?_
      refine kg_get (v := .ref (3 + 1)) hk_109 rfl wk_0_2 rfl rfl ?_
      refine kg_iload hk_109 rfl rfl rfl ?_
      refine wf_gd hF (fun gz11 hF => ?_)
      refine kg_ald (y := (h 3 x1.toNatClampNeg)) hk_109 rfl wc_3 gz11 rfl rfl ?_
      refine kg_push (x := 2) hk_109 rfl (by decide) rfl ?_
      refine wf_if hF (fun cz12 hF => ?_) (fun cz12 hF => ?_)
      · refine kg_icF hk_109 rfl (jc_F1 cz12) rfl ?_
        refine kg_aload hk_109 rfl rfl rfl ?_
        refine kg_dup hk_109 rfl rfl rfl ?_
        refine kg_get (v := .int (h 0 16)) hk_109 rfl wk_0_16 rfl rfl ?_
        refine kg_push (x := 1) hk_109 rfl (by decide) rfl ?_
        refine kg_iload hk_109 rfl rfl rfl ?_
        refine kg_bin (z := (1 <<< (x1 &&& 31))) hk_109 rfl rfl rfl ?_
        refine kg_bin (z := ((h 0 16) ||| (1 <<< (x1 &&& 31)))) hk_109 rfl rfl rfl ?_
        refine wf_let hF (fun hz13 hhz13 hF => ?_)
        refine kg_put hk_109 rfl wk_0_16 rfl rfl hhz13 rfl ?_
        exact q_109_42_ok hF hK hX0
      · refine kg_icT hk_109 rfl (jc_T1 cz12) ?_
        exact q_109_42_ok hF hK hX0
  · refine kg_icT hk_109 rfl (jc_T3 cz4) ?_
    have hF := Option.some.inj hF
    exact hX0 _ hF.symm _
theorem l_109_10_ok {X : List Int32} {o : kO}    {n : Nat} {s : Int32 × Hp} {e : Hp} (hF : w_lp (fun (s : Int32 × Hp) => l_109_10 s.1 s.2) n s = some e) (hX0 : ∀ (u1 : Value), k_Go X 5 109 (49, [.ref (0 + 1), u1], []) e o) : k_Go X 5 109 (10, [.ref (0 + 1), .int s.1], []) s.2 o := by
  exact w_lp_ok (P := (fun (s : Int32 × Hp) => k_Go X 5 109 (10, [.ref (0 + 1), .int s.1], []) s.2 o)) (Q := (fun (e : Hp) => (∀ (u1 : Value), k_Go X 5 109 (49, [.ref (0 + 1), u1], []) e o))) (fun s r hF hK hX => l_109_10_st hF hK (fun x hx => (hX _ hx))) n s e hF hX0
def p_109 (h : Hp) : Option (Int32 × Hp) :=
  (p_132 h).bind fun vz1 =>
  w_let (w_up vz1 0 15 0) fun hz2 =>
  w_let (w_up hz2 0 16 0) fun hz3 =>
  (w_lp (fun (s : Int32 × Hp) => l_109_10 s.1 s.2) w_N (0, hz3)).bind fun ez14 =>
  w_let (w_up ez14 0 17 1) fun hz15 =>
  (p_267 hz15 (hz15 0 15)).bind fun vz16 =>
  some (vz16, hz15)
theorem p_109_ok {X : List Int32}  {h : Hp}   {r : Int32 × Hp} (hF : p_109 h = some r) : k_Ev X 5 109 [.ref (0 + 1)] h (.inl (some (.int r.1)), r.2) := by
  refine k_of hk_109 ?_
  show k_Go X 5 109 (0, [.ref (0 + 1), (.retAddr 0)], []) h _
  unfold p_109 at hF
  refine kg_aload hk_109 rfl rfl rfl ?_
  refine wf_bind hF (fun vz1 hvz1 hF => ?_)
  refine kg_call (as := [.ref (0 + 1)]) (rest := []) hk_109 rfl (Or.inr (Or.inr (Or.inr ⟨Or.inl rfl, _, _, rfl, wc_0⟩))) rfl rfl rfl (Nat.not_lt.mpr (Nat.le_of_ble_eq_true rfl)) (p_132_ok hvz1) (by decide) rfl ?_
  refine kg_aload hk_109 rfl rfl rfl ?_
  refine kg_push (x := 0) hk_109 rfl (by decide) rfl ?_
  refine wf_let hF (fun hz2 hhz2 hF => ?_)
  refine kg_put hk_109 rfl wk_0_15 rfl rfl hhz2 rfl ?_
  refine kg_aload hk_109 rfl rfl rfl ?_
  refine kg_push (x := 0) hk_109 rfl (by decide) rfl ?_
  refine wf_let hF (fun hz3 hhz3 hF => ?_)
  refine kg_put hk_109 rfl wk_0_16 rfl rfl hhz3 rfl ?_
  refine kg_push (x := 0) hk_109 rfl (by decide) rfl ?_
  refine kg_istore (L2 := [.ref (0 + 1), .int 0]) hk_109 rfl (Nat.le_of_ble_eq_true rfl) rfl rfl ?_
  refine wf_bind hF (fun ez14 hez14 hF => ?_)
  refine l_109_10_ok hez14 ?_
  intro u1
  refine kg_aload hk_109 rfl rfl rfl ?_
  refine kg_push (x := 1) hk_109 rfl (by decide) rfl ?_
  refine wf_let hF (fun hz15 hhz15 hF => ?_)
  refine kg_put hk_109 rfl wk_0_17 rfl (w_fitB rfl) hhz15 rfl ?_
  refine kg_aload hk_109 rfl rfl rfl ?_
  refine kg_get (v := .int (hz15 0 15)) hk_109 rfl wk_0_15 rfl rfl ?_
  refine wf_bind hF (fun vz16 hvz16 hF => ?_)
  refine kg_call (as := [.int (hz15 0 15)]) (rest := []) hk_109 rfl (Or.inl rfl) rfl rfl rfl (Nat.not_lt.mpr (Nat.le_of_ble_eq_true rfl)) (p_267_ok hvz16) (by decide) rfl ?_
  have hF := Option.some.inj hF
  subst hF
  exact kg_iret hk_109 rfl (Or.inl rfl) rfl
-- NotebookWeir.restore()I
theorem hk_110 : jP[110]? = some (jc_110, 5, [], []) := by rfl
def l_110_15 (x2 : Int32) (x3 : Int32) (h : Hp) : Option ((Int32 × Int32 × Hp) ⊕ (Hp ⊕ Hp)) :=
  if x3 < 16 then
    ((p_132 h).bind fun vz3 =>
    (p_135 vz3 x2).bind fun vz4 =>
    if vz4 = (-1) then
      (some (.inr (.inl vz3)))
    else
      ((p_139 vz3 vz4 1).bind fun vz6 =>
      some (.inl ((x2 &&& ((1 <<< (vz4 &&& 31)) ^^^ (-1))), (x3 + 1), vz6.2))))
  else
    (some (.inr (.inr h)))
theorem l_110_15_st {X : List Int32} {o : kO}  {h : Hp} {x1 : Int32} {x2 : Int32} {x3 : Int32}  {r : (Int32 × Int32 × Hp) ⊕ (Hp ⊕ Hp)} (hF : l_110_15 x2 x3 h = some r) (hK : ∀ s' : Int32 × Int32 × Hp, r = .inl s' → ∀ (u4 : Value), k_Go X 5 110 (15, [.ref (0 + 1), .int x1, .int (s'.1), .int (s'.2.1), u4], []) s'.2.2 o) (hX0 : ∀ x : Hp, r = .inr (.inl x) → ∀ (u2 : Value) (u3 : Value) (u4 : Value), k_Go X 5 110 (27, [.ref (0 + 1), .int x1, u2, u3, u4], []) x o) (hX1 : ∀ x : Hp, r = .inr (.inr x) → ∀ (u2 : Value) (u3 : Value) (u4 : Value), k_Go X 5 110 (43, [.ref (0 + 1), .int x1, u2, u3, u4], []) x o) : ∀ (u4 : Value), k_Go X 5 110 (15, [.ref (0 + 1), .int x1, .int x2, .int x3, u4], []) h o := by
  intro u4
  refine kg_iload hk_110 rfl rfl rfl ?_
  refine kg_push (x := 16) hk_110 rfl (by decide) rfl ?_
  refine wf_if hF (fun cz2 hF => ?_) (fun cz2 hF => ?_)
  · refine kg_icF hk_110 rfl (jc_F3 cz2) rfl ?_
    refine kg_aload hk_110 rfl rfl rfl ?_
    refine wf_bind hF (fun vz3 hvz3 hF => ?_)
    refine kg_call (as := [.ref (0 + 1)]) (rest := []) hk_110 rfl (Or.inr (Or.inr (Or.inr ⟨Or.inl rfl, _, _, rfl, wc_0⟩))) rfl rfl rfl (Nat.not_lt.mpr (Nat.le_of_ble_eq_true rfl)) (p_132_ok hvz3) (by decide) rfl ?_
    refine kg_aload hk_110 rfl rfl rfl ?_
    refine kg_iload hk_110 rfl rfl rfl ?_
    refine wf_bind hF (fun vz4 hvz4 hF => ?_)
    refine kg_call (as := [.ref (0 + 1), .int x2]) (rest := []) hk_110 rfl (Or.inr (Or.inr (Or.inr ⟨Or.inl rfl, _, _, rfl, wc_0⟩))) rfl rfl rfl (Nat.not_lt.mpr (Nat.le_of_ble_eq_true rfl)) (p_135_ok hvz4) (by decide) rfl ?_
    refine kg_istore (L2 := [.ref (0 + 1), .int x1, .int x2, .int x3, .int vz4]) hk_110 rfl (Nat.le_of_ble_eq_true rfl) rfl rfl ?_
    refine kg_iload hk_110 rfl rfl rfl ?_
    refine kg_push (x := (-1)) hk_110 rfl (by decide) rfl ?_
    refine wf_if hF (fun cz5 hF => ?_) (fun cz5 hF => ?_)
    · refine kg_icF hk_110 rfl (jc_F1 cz5) rfl ?_
      have hF := Option.some.inj hF
      exact hX0 _ hF.symm _ _ _
    · refine kg_icT hk_110 rfl (jc_T1 cz5) ?_
      refine kg_iload hk_110 rfl rfl rfl ?_
      refine kg_push (x := 1) hk_110 rfl (by decide) rfl ?_
      refine kg_iload hk_110 rfl rfl rfl ?_
      refine kg_bin (z := (1 <<< (vz4 &&& 31))) hk_110 rfl rfl rfl ?_
      refine kg_push (x := (-1)) hk_110 rfl (by decide) rfl ?_
      refine kg_bin (z := ((1 <<< (vz4 &&& 31)) ^^^ (-1))) hk_110 rfl rfl rfl ?_
      refine kg_bin (z := (x2 &&& ((1 <<< (vz4 &&& 31)) ^^^ (-1)))) hk_110 rfl rfl rfl ?_
      refine kg_istore (L2 := [.ref (0 + 1), .int x1, .int (x2 &&& ((1 <<< (vz4 &&& 31)) ^^^ (-1))), .int x3, .int vz4]) hk_110 rfl (Nat.le_of_ble_eq_true rfl) rfl rfl ?_
      refine kg_aload hk_110 rfl rfl rfl ?_
      refine kg_iload hk_110 rfl rfl rfl ?_
      refine kg_push (x := 1) hk_110 rfl (by decide) rfl ?_
      refine wf_bind hF (fun vz6 hvz6 hF => ?_)
      refine kg_call (as := [.ref (0 + 1), .int vz4, .int 1]) (rest := []) hk_110 rfl (Or.inr (Or.inr (Or.inr ⟨Or.inl rfl, _, _, rfl, wc_0⟩))) rfl rfl rfl (Nat.not_lt.mpr (Nat.le_of_ble_eq_true rfl)) (p_139_ok hvz6) (by decide) rfl ?_
      refine kg_pop hk_110 rfl rfl rfl ?_
      refine kg_iinc (y := (x3 + 1)) (L2 := [.ref (0 + 1), .int x1, .int (x2 &&& ((1 <<< (vz4 &&& 31)) ^^^ (-1))), .int (x3 + 1), .int vz4]) hk_110 rfl rfl rfl rfl rfl ?_
      refine kg_goto hk_110 rfl ?_
      have hF := Option.some.inj hF
      exact hK _ hF.symm _
  · refine kg_icT hk_110 rfl (jc_T3 cz2) ?_
    have hF := Option.some.inj hF
    exact hX1 _ hF.symm _ _ _
theorem l_110_15_ok {X : List Int32} {o : kO}  {x1 : Int32}  {n : Nat} {s : Int32 × Int32 × Hp} {e : (Hp ⊕ Hp)} (hF : w_lp (fun (s : Int32 × Int32 × Hp) => l_110_15 s.1 s.2.1 s.2.2) n s = some e) (hX0 : ∀ x : Hp, e = (.inl x) → ∀ (u2 : Value) (u3 : Value) (u4 : Value), k_Go X 5 110 (27, [.ref (0 + 1), .int x1, u2, u3, u4], []) x o) (hX1 : ∀ x : Hp, e = (.inr x) → ∀ (u2 : Value) (u3 : Value) (u4 : Value), k_Go X 5 110 (43, [.ref (0 + 1), .int x1, u2, u3, u4], []) x o) : ∀ (u4 : Value), k_Go X 5 110 (15, [.ref (0 + 1), .int x1, .int s.1, .int s.2.1, u4], []) s.2.2 o := by
  exact w_lp_ok (P := (fun (s : Int32 × Int32 × Hp) => ∀ (u4 : Value), k_Go X 5 110 (15, [.ref (0 + 1), .int x1, .int s.1, .int s.2.1, u4], []) s.2.2 o)) (Q := (fun (e : (Hp ⊕ Hp)) => (∀ x : Hp, e = (.inl x) → ∀ (u2 : Value) (u3 : Value) (u4 : Value), k_Go X 5 110 (27, [.ref (0 + 1), .int x1, u2, u3, u4], []) x o) ∧ (∀ x : Hp, e = (.inr x) → ∀ (u2 : Value) (u3 : Value) (u4 : Value), k_Go X 5 110 (43, [.ref (0 + 1), .int x1, u2, u3, u4], []) x o))) (fun s r hF hK hX => l_110_15_st hF hK (fun x hx => (hX _ hx).1 x rfl) (fun x hx => (hX _ hx).2 x rfl)) n s e hF ⟨hX0, hX1⟩
def q_110_43 (h : Hp) (x1 : Int32) : Option ((Int32 ⊕ Nat) × Hp) :=
  w_let (w_up h 0 17 0) fun hz10 =>
  some ((.inl ((hz10 0 12) - x1)), hz10)
theorem q_110_43_ok {X : List Int32}   {h : Hp} {x1 : Int32}  {r : (Int32 ⊕ Nat) × Hp} (hF : q_110_43 h x1 = some r)  : ∀ (u2 : Value) (u3 : Value) (u4 : Value), k_Go X 5 110 (43, [.ref (0 + 1), .int x1, u2, u3, u4], []) h (w_th r.1, r.2) := by
  intro u2 u3 u4
  unfold q_110_43 at hF
  refine kg_aload hk_110 rfl rfl rfl ?_
  refine kg_push (x := 0) hk_110 rfl (by decide) rfl ?_
  refine wf_let hF (fun hz10 hhz10 hF => ?_)
  refine kg_put hk_110 rfl wk_0_17 rfl (w_fitB rfl) hhz10 rfl ?_
  refine kg_aload hk_110 rfl rfl rfl ?_
  refine kg_get (v := .int (hz10 0 12)) hk_110 rfl wk_0_12 rfl rfl ?_
  refine kg_iload hk_110 rfl rfl rfl ?_
  refine kg_bin (z := ((hz10 0 12) - x1)) hk_110 rfl rfl rfl ?_
  have hF := Option.some.inj hF
  subst hF
  exact kg_iret hk_110 rfl (Or.inl rfl) rfl
def p_110 (h : Hp) : Option ((Int32 ⊕ Nat) × Hp) :=
  if (h 0 17) = 0 then
    (some ((.inr 1), h))
  else
    ((w_lp (fun (s : Int32 × Int32 × Hp) => l_110_15 s.1 s.2.1 s.2.2) w_N (((h 0 15) ||| (h 0 16)), 0, h)).bind <| (Sum.elim (fun yz8 =>
      (q_110_43 yz8 (h 0 12))) (fun yz9 =>
      (q_110_43 yz9 (h 0 12)))))
theorem p_110_ok {X : List Int32}  {h : Hp}   {r : (Int32 ⊕ Nat) × Hp} (hF : p_110 h = some r) : k_Ev X 5 110 [.ref (0 + 1)] h (w_th r.1, r.2) := by
  refine k_of hk_110 ?_
  show k_Go X 5 110 (0, [.ref (0 + 1), (.retAddr 0), (.retAddr 0), (.retAddr 0), (.retAddr 0)], []) h _
  unfold p_110 at hF
  refine kg_aload hk_110 rfl rfl rfl ?_
  refine kg_get (v := .int (h 0 17)) hk_110 rfl wk_0_17 rfl rfl ?_
  refine wf_if hF (fun cz1 hF => ?_) (fun cz1 hF => ?_)
  · refine kg_ifF hk_110 rfl (jc_F1 cz1) rfl ?_
    have hF := Option.some.inj hF
    subst hF
    exact kg_throw hk_110 rfl (Nat.not_lt.mpr (Nat.le_of_ble_eq_true rfl)) rfl
  · refine kg_ifT hk_110 rfl (jc_T1 cz1) ?_
    refine kg_aload hk_110 rfl rfl rfl ?_
    refine kg_get (v := .int (h 0 12)) hk_110 rfl wk_0_12 rfl rfl ?_
    refine kg_istore (L2 := [.ref (0 + 1), .int (h 0 12), (.retAddr 0), (.retAddr 0), (.retAddr 0)]) hk_110 rfl (Nat.le_of_ble_eq_true rfl) rfl rfl ?_
    refine kg_aload hk_110 rfl rfl rfl ?_
    refine kg_get (v := .int (h 0 15)) hk_110 rfl wk_0_15 rfl rfl ?_
    refine kg_aload hk_110 rfl rfl rfl ?_
    refine kg_get (v := .int (h 0 16)) hk_110 rfl wk_0_16 rfl rfl ?_
    refine kg_bin (z := ((h 0 15) ||| (h 0 16))) hk_110 rfl rfl rfl ?_
    refine kg_istore (L2 := [.ref (0 + 1), .int (h 0 12), .int ((h 0 15) ||| (h 0 16)), (.retAddr 0), (.retAddr 0)]) hk_110 rfl (Nat.le_of_ble_eq_true rfl) rfl rfl ?_
    refine kg_push (x := 0) hk_110 rfl (by decide) rfl ?_
    refine kg_istore (L2 := [.ref (0 + 1), .int (h 0 12), .int ((h 0 15) ||| (h 0 16)), .int 0, (.retAddr 0)]) hk_110 rfl (Nat.le_of_ble_eq_true rfl) rfl rfl ?_
    refine wf_bind hF (fun ez7 hez7 hF => ?_)
    refine l_110_15_ok hez7 ?_ ?_ _
    · intro yz8 hx
      subst hx
      refine wf_inl hF (fun hF => ?_)
      intro u2 u3 u4
      refine kg_goto hk_110 rfl ?_
      exact q_110_43_ok hF _ _ _
    · intro yz9 hx
      subst hx
      refine wf_inr hF (fun hF => ?_)
      intro u2 u3 u4
      exact q_110_43_ok hF _ _ _
-- NotebookWeir.state(I)I
theorem hk_111 : jP[111]? = some (jc_111, 2, [], []) := by rfl
def p_111 (h : Hp) (x1 : Int32) : Option ((Int32 ⊕ Nat) × Hp) :=
  if (v_125 h x1) = 0 then
    (some ((.inr 2), h))
  else
    ((p_131 h x1).bind fun vz2 =>
    some ((.inl vz2.1), vz2.2))
theorem p_111_ok {X : List Int32}  {h : Hp} {x1 : Int32}  {r : (Int32 ⊕ Nat) × Hp} (hF : p_111 h x1 = some r) : k_Ev X 6 111 [.ref (0 + 1), .int x1] h (w_th r.1, r.2) := by
  refine k_of hk_111 ?_
  show k_Go X 6 111 (0, [.ref (0 + 1), .int x1], []) h _
  unfold p_111 at hF
  refine kg_aload hk_111 rfl rfl rfl ?_
  refine kg_iload hk_111 rfl rfl rfl ?_
  refine kg_call (as := [.ref (0 + 1), .int x1]) (rest := []) hk_111 rfl (Or.inr (Or.inr (Or.inr ⟨Or.inl rfl, _, _, rfl, wc_0⟩))) rfl rfl rfl (Nat.not_lt.mpr (Nat.le_of_ble_eq_true rfl)) (v_125_ok) (by decide) rfl ?_
  refine wf_if hF (fun cz1 hF => ?_) (fun cz1 hF => ?_)
  · refine kg_ifF hk_111 rfl (jc_F1 cz1) rfl ?_
    have hF := Option.some.inj hF
    subst hF
    exact kg_throw hk_111 rfl (Nat.not_lt.mpr (Nat.le_of_ble_eq_true rfl)) rfl
  · refine kg_ifT hk_111 rfl (jc_T1 cz1) ?_
    refine kg_aload hk_111 rfl rfl rfl ?_
    refine kg_iload hk_111 rfl rfl rfl ?_
    refine wf_bind hF (fun vz2 hvz2 hF => ?_)
    refine kg_call (as := [.ref (0 + 1), .int x1]) (rest := []) hk_111 rfl (Or.inr (Or.inr (Or.inr ⟨Or.inl rfl, _, _, rfl, wc_0⟩))) rfl rfl rfl (Nat.not_lt.mpr (Nat.le_of_ble_eq_true rfl)) (p_131_ok hvz2) (by decide) rfl ?_
    have hF := Option.some.inj hF
    subst hF
    exact kg_iret hk_111 rfl (Or.inl rfl) rfl
-- NotebookWeir.needs(I)I
theorem hk_112 : jP[112]? = some (jc_112, 2, [], []) := by rfl
def p_112 (h : Hp) (x1 : Int32) : Option ((Int32 ⊕ Nat)) :=
  if (v_125 h x1) = 0 then
    (some (.inr 2))
  else
    (w_gd (w_ix x1 16) <|
    some (.inl (h 14 x1.toNatClampNeg)))
theorem p_112_ok {X : List Int32}  {h : Hp} {x1 : Int32}  {r : (Int32 ⊕ Nat)} (hF : p_112 h x1 = some r) : k_Ev X 1 112 [.ref (0 + 1), .int x1] h (w_th r, h) := by
  refine k_of hk_112 ?_
  show k_Go X 1 112 (0, [.ref (0 + 1), .int x1], []) h _
  unfold p_112 at hF
  refine kg_aload hk_112 rfl rfl rfl ?_
  refine kg_iload hk_112 rfl rfl rfl ?_
  refine kg_call (as := [.ref (0 + 1), .int x1]) (rest := []) hk_112 rfl (Or.inr (Or.inr (Or.inr ⟨Or.inl rfl, _, _, rfl, wc_0⟩))) rfl rfl rfl (Nat.not_lt.mpr (Nat.le_of_ble_eq_true rfl)) (v_125_ok) (by decide) rfl ?_
  refine wf_if hF (fun cz1 hF => ?_) (fun cz1 hF => ?_)
  · refine kg_ifF hk_112 rfl (jc_F1 cz1) rfl ?_
    have hF := Option.some.inj hF
    subst hF
    exact kg_throw hk_112 rfl (Nat.not_lt.mpr (Nat.le_of_ble_eq_true rfl)) rfl
  · refine kg_ifT hk_112 rfl (jc_T1 cz1) ?_
    refine kg_aload hk_112 rfl rfl rfl ?_
    refine kg_get (v := .ref (11 + 1)) hk_112 rfl wk_0_4 rfl rfl ?_
    refine kg_get (v := .ref (14 + 1)) hk_112 rfl wk_11_2 rfl rfl ?_
    refine kg_iload hk_112 rfl rfl rfl ?_
    refine wf_gd hF (fun gz2 hF => ?_)
    refine kg_ald (y := (h 14 x1.toNatClampNeg)) hk_112 rfl wc_14 gz2 rfl rfl ?_
    have hF := Option.some.inj hF
    subst hF
    exact kg_iret hk_112 rfl (Or.inl rfl) rfl
-- NotebookWeir.ring(I)I
theorem hk_113 : jP[113]? = some (jc_113, 2, [], []) := by rfl
def p_113 (h : Hp) (x1 : Int32) : Option ((Int32 ⊕ Nat)) :=
  if (v_125 h x1) = 0 then
    (some (.inr 2))
  else
    ((p_84 h x1).bind fun vz2 =>
    some (.inl vz2))
theorem p_113_ok {X : List Int32}  {h : Hp} {x1 : Int32}  {r : (Int32 ⊕ Nat)} (hF : p_113 h x1 = some r) : k_Ev X 2 113 [.ref (0 + 1), .int x1] h (w_th r, h) := by
  refine k_of hk_113 ?_
  show k_Go X 2 113 (0, [.ref (0 + 1), .int x1], []) h _
  unfold p_113 at hF
  refine kg_aload hk_113 rfl rfl rfl ?_
  refine kg_iload hk_113 rfl rfl rfl ?_
  refine kg_call (as := [.ref (0 + 1), .int x1]) (rest := []) hk_113 rfl (Or.inr (Or.inr (Or.inr ⟨Or.inl rfl, _, _, rfl, wc_0⟩))) rfl rfl rfl (Nat.not_lt.mpr (Nat.le_of_ble_eq_true rfl)) (v_125_ok) (by decide) rfl ?_
  refine wf_if hF (fun cz1 hF => ?_) (fun cz1 hF => ?_)
  · refine kg_ifF hk_113 rfl (jc_F1 cz1) rfl ?_
    have hF := Option.some.inj hF
    subst hF
    exact kg_throw hk_113 rfl (Nat.not_lt.mpr (Nat.le_of_ble_eq_true rfl)) rfl
  · refine kg_ifT hk_113 rfl (jc_T1 cz1) ?_
    refine kg_aload hk_113 rfl rfl rfl ?_
    refine kg_get (v := .ref (11 + 1)) hk_113 rfl wk_0_4 rfl rfl ?_
    refine kg_iload hk_113 rfl rfl rfl ?_
    refine wf_bind hF (fun vz2 hvz2 hF => ?_)
    refine kg_call (as := [.ref (11 + 1), .int x1]) (rest := []) hk_113 rfl (Or.inr (Or.inr (Or.inr ⟨Or.inl rfl, _, _, rfl, wc_11⟩))) rfl rfl rfl (Nat.not_lt.mpr (Nat.le_of_ble_eq_true rfl)) (p_84_ok hvz2) (by decide) rfl ?_
    have hF := Option.some.inj hF
    subst hF
    exact kg_iret hk_113 rfl (Or.inl rfl) rfl
-- NotebookWeir.isRunWhenAsked(I)Z
theorem hk_134 : jP[134]? = some (jc_134, 2, [], []) := by rfl
def p_134 (h : Hp) (x1 : Int32) : Option (Int32 × Hp) :=
  if (h 0 11) = 1 then
    ((p_131 h x1).bind fun vz2 =>
    some ((if vz2.1 = 1 then 1 else 0 : Int32), vz2.2))
  else
    (some (0, h))
theorem p_134_ok {X : List Int32}  {h : Hp} {x1 : Int32}  {r : Int32 × Hp} (hF : p_134 h x1 = some r) : k_Ev X 6 134 [.ref (0 + 1), .int x1] h (.inl (some (.int r.1)), r.2) := by
  refine k_of hk_134 ?_
  show k_Go X 6 134 (0, [.ref (0 + 1), .int x1], []) h _
  unfold p_134 at hF
  refine kg_aload hk_134 rfl rfl rfl ?_
  refine kg_get (v := .int (h 0 11)) hk_134 rfl wk_0_11 rfl rfl ?_
  refine kg_push (x := 1) hk_134 rfl (by decide) rfl ?_
  refine wf_if hF (fun cz1 hF => ?_) (fun cz1 hF => ?_)
  · refine kg_icF hk_134 rfl (jc_F1 cz1) rfl ?_
    refine kg_aload hk_134 rfl rfl rfl ?_
    refine kg_iload hk_134 rfl rfl rfl ?_
    refine wf_bind hF (fun vz2 hvz2 hF => ?_)
    refine kg_call (as := [.ref (0 + 1), .int x1]) (rest := []) hk_134 rfl (Or.inr (Or.inr (Or.inr ⟨Or.inl rfl, _, _, rfl, wc_0⟩))) rfl rfl rfl (Nat.not_lt.mpr (Nat.le_of_ble_eq_true rfl)) (p_131_ok hvz2) (by decide) rfl ?_
    refine kg_push (x := 1) hk_134 rfl (by decide) rfl ?_
    refine kv_mid (p := 12) (L := [.ref (0 + 1), .int x1]) (S := [.int (if vz2.1 = 1 then 1 else 0 : Int32)]) ?_ (fun hK => ?_)
    · have hF := Option.some.inj hF
      subst hF
      exact kg_iret hk_134 rfl (Or.inr (w_boi rfl rfl)) rfl
    · by_cases cz3 : vz2.1 = 1
      · have hK := kv_T cz3 hK
        refine kg_icF hk_134 rfl (jc_F1 cz3) rfl ?_
        refine kg_push (x := 1) hk_134 rfl (by decide) rfl ?_
        refine kg_goto hk_134 rfl ?_
        exact hK
      · have hK := kv_F cz3 hK
        refine kg_icT hk_134 rfl (jc_T1 cz3) ?_
        refine kg_push (x := 0) hk_134 rfl (by decide) rfl ?_
        exact hK
  · refine kg_icT hk_134 rfl (jc_T1 cz1) ?_
    refine kg_push (x := 0) hk_134 rfl (by decide) rfl ?_
    have hF := Option.some.inj hF
    subst hF
    exact kg_iret hk_134 rfl (Or.inr rfl) rfl
-- NotebookWeir.result(II)I
theorem hk_114 : jP[114]? = some (jc_114, 3, [], []) := by rfl
def q_114_13 (h : Hp) (x1 : Int32) (x2 : Int32) : Option ((Int32 ⊕ Nat) × Hp) :=
  (p_131 h x1).bind fun vz4 =>
  if vz4.1 = 0 then
    (w_gd (w_ix x1 16) <|
    w_gd (g_75 vz4.2 (64 * x1.toNatClampNeg + 59) 26 x2) <|
    if (v_75 vz4.2 (64 * x1.toNatClampNeg + 59) 26 x2) = 0 then
      (some ((.inr 1), vz4.2))
    else
      (w_gd (w_ix x1 16) <|
      w_gd (g_76 vz4.2 (64 * x1.toNatClampNeg + 59) 26 x2) <|
      some ((.inl (v_76 vz4.2 (64 * x1.toNatClampNeg + 59) 26 x2)), vz4.2)))
  else
    (some ((.inr 1), vz4.2))
theorem q_114_13_ok {X : List Int32}   {h : Hp} {x1 : Int32} {x2 : Int32}  {r : (Int32 ⊕ Nat) × Hp} (hF : q_114_13 h x1 x2 = some r)  : k_Go X 7 114 (13, [.ref (0 + 1), .int x1, .int x2], []) h (w_th r.1, r.2) := by
  unfold q_114_13 at hF
  refine kg_aload hk_114 rfl rfl rfl ?_
  refine kg_iload hk_114 rfl rfl rfl ?_
  refine wf_bind hF (fun vz4 hvz4 hF => ?_)
  refine kg_call (as := [.ref (0 + 1), .int x1]) (rest := []) hk_114 rfl (Or.inr (Or.inr (Or.inr ⟨Or.inl rfl, _, _, rfl, wc_0⟩))) rfl rfl rfl (Nat.not_lt.mpr (Nat.le_of_ble_eq_true rfl)) (p_131_ok hvz4) (by decide) rfl ?_
  refine wf_if hF (fun cz5 hF => ?_) (fun cz5 hF => ?_)
  · refine kg_ifF hk_114 rfl (jc_F1 cz5) rfl ?_
    refine kg_aload hk_114 rfl rfl rfl ?_
    refine kg_get (v := .ref (2 + 1)) hk_114 rfl wk_0_1 rfl rfl ?_
    refine kg_iload hk_114 rfl rfl rfl ?_
    refine wf_gd hF (fun gz6 hF => ?_)
    have hez7 := w_E we_61 wc_2 gz6
    refine kg_aald (y := (64 * x1.toNatClampNeg + 52)) hk_114 rfl gz6 hez7.1 rfl ?_
    refine kg_get (v := .ref ((64 * x1.toNatClampNeg + 59) + 1)) hk_114 rfl (wf_0_2 hez7.2) rfl rfl ?_
    refine kg_push (x := 26) hk_114 rfl (by decide) rfl ?_
    refine kg_iload hk_114 rfl rfl rfl ?_
    refine wf_gd hF (fun gz8 hF => ?_)
    refine kg_call (as := [.ref ((64 * x1.toNatClampNeg + 59) + 1), .int 26, .int x2]) (rest := []) hk_114 rfl (Or.inr (Or.inr (Or.inr ⟨Or.inl rfl, _, _, rfl, (wo_0_2 hez7.2)⟩))) rfl rfl rfl (Nat.not_lt.mpr (Nat.le_of_ble_eq_true rfl)) (v_75_ok (wo_0_2 hez7.2) gz8) (by decide) rfl ?_
    refine wf_if hF (fun cz9 hF => ?_) (fun cz9 hF => ?_)
    · refine kg_ifF hk_114 rfl (jc_F1 cz9) rfl ?_
      have hF := Option.some.inj hF
      subst hF
      exact kg_throw hk_114 rfl (Nat.not_lt.mpr (Nat.le_of_ble_eq_true rfl)) rfl
    · refine kg_ifT hk_114 rfl (jc_T1 cz9) ?_
      refine kg_aload hk_114 rfl rfl rfl ?_
      refine kg_get (v := .ref (2 + 1)) hk_114 rfl wk_0_1 rfl rfl ?_
      refine kg_iload hk_114 rfl rfl rfl ?_
      refine wf_gd hF (fun gz10 hF => ?_)
      have hez11 := w_E we_61 wc_2 gz10
      refine kg_aald (y := (64 * x1.toNatClampNeg + 52)) hk_114 rfl gz10 hez11.1 rfl ?_
      refine kg_get (v := .ref ((64 * x1.toNatClampNeg + 59) + 1)) hk_114 rfl (wf_0_2 hez11.2) rfl rfl ?_
      refine kg_push (x := 26) hk_114 rfl (by decide) rfl ?_
      refine kg_iload hk_114 rfl rfl rfl ?_
      refine wf_gd hF (fun gz12 hF => ?_)
      refine kg_call (as := [.ref ((64 * x1.toNatClampNeg + 59) + 1), .int 26, .int x2]) (rest := []) hk_114 rfl (Or.inr (Or.inr (Or.inr ⟨Or.inl rfl, _, _, rfl, (wo_0_2 hez11.2)⟩))) rfl rfl rfl (Nat.not_lt.mpr (Nat.le_of_ble_eq_true rfl)) (v_76_ok (wo_0_2 hez11.2) gz12) (by decide) rfl ?_
      have hF := Option.some.inj hF
      subst hF
      exact kg_iret hk_114 rfl (Or.inl rfl) rfl
  · refine kg_ifT hk_114 rfl (jc_T1 cz5) ?_
    have hF := Option.some.inj hF
    subst hF
    exact kg_throw hk_114 rfl (Nat.not_lt.mpr (Nat.le_of_ble_eq_true rfl)) rfl
def p_114 (h : Hp) (x1 : Int32) (x2 : Int32) : Option ((Int32 ⊕ Nat) × Hp) :=
  if (v_125 h x1) = 0 then
    (some ((.inr 2), h))
  else
    ((p_134 h x1).bind fun vz2 =>
    if vz2.1 = 0 then
      (q_114_13 vz2.2 x1 x2)
    else
      ((p_138 vz2.2 x1).bind fun vz13 =>
      q_114_13 vz13.2 x1 x2))
theorem p_114_ok {X : List Int32}  {h : Hp} {x1 : Int32} {x2 : Int32}  {r : (Int32 ⊕ Nat) × Hp} (hF : p_114 h x1 x2 = some r) : k_Ev X 7 114 [.ref (0 + 1), .int x1, .int x2] h (w_th r.1, r.2) := by
  refine k_of hk_114 ?_
  show k_Go X 7 114 (0, [.ref (0 + 1), .int x1, .int x2], []) h _
  unfold p_114 at hF
  refine kg_aload hk_114 rfl rfl rfl ?_
  refine kg_iload hk_114 rfl rfl rfl ?_
  refine kg_call (as := [.ref (0 + 1), .int x1]) (rest := []) hk_114 rfl (Or.inr (Or.inr (Or.inr ⟨Or.inl rfl, _, _, rfl, wc_0⟩))) rfl rfl rfl (Nat.not_lt.mpr (Nat.le_of_ble_eq_true rfl)) (v_125_ok) (by decide) rfl ?_
  refine wf_if hF (fun cz1 hF => ?_) (fun cz1 hF => ?_)
  · refine kg_ifF hk_114 rfl (jc_F1 cz1) rfl ?_
    have hF := Option.some.inj hF
    subst hF
    exact kg_throw hk_114 rfl (Nat.not_lt.mpr (Nat.le_of_ble_eq_true rfl)) rfl
  · refine kg_ifT hk_114 rfl (jc_T1 cz1) ?_
    refine kg_aload hk_114 rfl rfl rfl ?_
    refine kg_iload hk_114 rfl rfl rfl ?_
    refine wf_bind hF (fun vz2 hvz2 hF => ?_)
    refine kg_call (as := [.ref (0 + 1), .int x1]) (rest := []) hk_114 rfl (Or.inr (Or.inr (Or.inr ⟨Or.inl rfl, _, _, rfl, wc_0⟩))) rfl rfl rfl (Nat.not_lt.mpr (Nat.le_of_ble_eq_true rfl)) (p_134_ok hvz2) (by decide) rfl ?_
    refine wf_if hF (fun cz3 hF => ?_) (fun cz3 hF => ?_)
    · refine kg_ifT hk_114 rfl (jc_T0 cz3) ?_
      exact q_114_13_ok hF
    · refine kg_ifF hk_114 rfl (jc_F0 cz3) rfl ?_
      refine kg_aload hk_114 rfl rfl rfl ?_
      refine kg_iload hk_114 rfl rfl rfl ?_
      refine wf_bind hF (fun vz13 hvz13 hF => ?_)
      refine kg_call (as := [.ref (0 + 1), .int x1]) (rest := []) hk_114 rfl (Or.inr (Or.inr (Or.inr ⟨Or.inl rfl, _, _, rfl, wc_0⟩))) rfl rfl rfl (Nat.not_lt.mpr (Nat.le_of_ble_eq_true rfl)) (p_138_ok hvz13) (by decide) rfl ?_
      refine kg_pop hk_114 rfl rfl rfl ?_
      exact q_114_13_ok hF
-- NotebookWeir.runPlain()I
theorem hk_142 : jP[142]? = some (jc_142, 5, [], []) := by rfl
def q_142_30 (h : Hp) (x1 : Int32) (x2 : Int32) (x3 : Int32) (s0 : Int32) : Option ((Int32 × Int32 × Hp) ⊕ Int32 × Hp) :=
  if s0 = 0 then
    ((p_141 h x3 1).bind fun vz6 =>
    w_gd (w_ix x3 16) <|
    w_gd (w_ix x3 16) <|
    (p_53 vz6 (64 * x3.toNatClampNeg + 65) (64 * x3.toNatClampNeg + 53) 1 0).bind fun vz11 =>
    w_gd (w_ix x3 16) <|
    (p_16 vz11 (64 * x3.toNatClampNeg + 55) 45).bind fun vz14 =>
    if vz14.1 = 0 then
      (w_gd (w_ix x3 16) <|
      w_gd (w_ix x3 16) <|
      (p_17 vz14.2 (64 * x3.toNatClampNeg + 55) (64 * x3.toNatClampNeg + 62)).bind fun vz20 =>
      some (.inl ((x1 ||| (1 <<< (x3 &&& 31))), (x2 + 1), vz20)))
    else
      (some (.inl (x1, (x2 + 1), vz14.2))))
  else
    (some (.inl (x1, (x2 + 1), h)))
theorem q_142_30_ok {X : List Int32} {o : kO}  {h : Hp} {s0 : Int32} {x1 : Int32} {x2 : Int32} {x3 : Int32}  {r : (Int32 × Int32 × Hp) ⊕ Int32 × Hp} (hF : q_142_30 h x1 x2 x3 s0 = some r) (hK : ∀ s' : Int32 × Int32 × Hp, r = .inl s' → ∀ (u3 : Value) (u4 : Value), k_Go X 4 142 (4, [.ref (0 + 1), .int (s'.1), .int (s'.2.1), u3, u4], []) s'.2.2 o) (hX0 : ∀ e : Int32 × Hp, r = .inr e → (.inl (some (.int e.1)), e.2) = o) : ∀ (u4 : Value), k_Go X 4 142 (30, [.ref (0 + 1), .int x1, .int x2, .int x3, u4], [.int s0]) h o := by
  intro u4
  unfold q_142_30 at hF
  refine kg_istore (L2 := [.ref (0 + 1), .int x1, .int x2, .int x3, .int s0]) hk_142 rfl (Nat.le_of_ble_eq_true rfl) rfl rfl ?_
  refine kg_iload hk_142 rfl rfl rfl ?_
  refine wf_if hF (fun cz5 hF => ?_) (fun cz5 hF => ?_)
  · refine kg_ifF hk_142 rfl (jc_F1 cz5) rfl ?_
    refine kg_aload hk_142 rfl rfl rfl ?_
    refine kg_iload hk_142 rfl rfl rfl ?_
    refine kg_push (x := 1) hk_142 rfl (by decide) rfl ?_
    refine wf_bind hF (fun vz6 hvz6 hF => ?_)
    refine kg_call (as := [.ref (0 + 1), .int x3, .int 1]) (rest := []) hk_142 rfl (Or.inr (Or.inr (Or.inr ⟨Or.inl rfl, _, _, rfl, wc_0⟩))) rfl rfl rfl (Nat.not_lt.mpr (Nat.le_of_ble_eq_true rfl)) (p_141_ok hvz6) (by decide) rfl ?_
    refine kg_aload hk_142 rfl rfl rfl ?_
    refine kg_get (v := .ref (40 + 1)) hk_142 rfl wk_0_8 rfl rfl ?_
    refine kg_aload hk_142 rfl rfl rfl ?_
    refine kg_get (v := .ref (2 + 1)) hk_142 rfl wk_0_1 rfl rfl ?_
    refine kg_iload hk_142 rfl rfl rfl ?_
    refine wf_gd hF (fun gz7 hF => ?_)
    have hez8 := w_E we_61 wc_2 gz7
    refine kg_aald (y := (64 * x3.toNatClampNeg + 52)) hk_142 rfl gz7 hez8.1 rfl ?_
    refine kg_get (v := .ref ((64 * x3.toNatClampNeg + 65) + 1)) hk_142 rfl (wf_0_4 hez8.2) rfl rfl ?_
    refine kg_aload hk_142 rfl rfl rfl ?_
    refine kg_get (v := .ref (2 + 1)) hk_142 rfl wk_0_1 rfl rfl ?_
    refine kg_iload hk_142 rfl rfl rfl ?_
    refine wf_gd hF (fun gz9 hF => ?_)
    have hez10 := w_E we_61 wc_2 gz9
    refine kg_aald (y := (64 * x3.toNatClampNeg + 52)) hk_142 rfl gz9 hez10.1 rfl ?_
    refine kg_get (v := .ref ((64 * x3.toNatClampNeg + 53) + 1)) hk_142 rfl (wf_0_0 hez10.2) rfl rfl ?_
    refine kg_push (x := 1) hk_142 rfl (by decide) rfl ?_
    refine kg_push (x := 0) hk_142 rfl (by decide) rfl ?_
    refine wf_bind hF (fun vz11 hvz11 hF => ?_)
    refine kg_call (as := [.ref (40 + 1), .ref ((64 * x3.toNatClampNeg + 65) + 1), .ref ((64 * x3.toNatClampNeg + 53) + 1), .int 1, .int 0]) (rest := []) hk_142 rfl (Or.inr (Or.inr (Or.inr ⟨Or.inl rfl, _, _, rfl, wc_40⟩))) rfl rfl rfl (Nat.not_lt.mpr (Nat.le_of_ble_eq_true rfl)) (p_53_ok (wo_0_4 hez8.2) (wo_0_0 hez10.2) hvz11) (by decide) rfl ?_
    refine kg_aload hk_142 rfl rfl rfl ?_
    refine kg_get (v := .ref (28 + 1)) hk_142 rfl wk_0_7 rfl rfl ?_
    refine kg_aload hk_142 rfl rfl rfl ?_
    refine kg_get (v := .ref (2 + 1)) hk_142 rfl wk_0_1 rfl rfl ?_
    refine kg_iload hk_142 rfl rfl rfl ?_
    refine wf_gd hF (fun gz12 hF => ?_)
    have hez13 := w_E we_61 wc_2 gz12
    refine kg_aald (y := (64 * x3.toNatClampNeg + 52)) hk_142 rfl gz12 hez13.1 rfl ?_
    refine kg_get (v := .ref ((64 * x3.toNatClampNeg + 55) + 1)) hk_142 rfl (wf_0_1 hez13.2) rfl rfl ?_
    refine kg_aload hk_142 rfl rfl rfl ?_
    refine kg_get (v := .ref (45 + 1)) hk_142 rfl wk_0_9 rfl rfl ?_
    refine kg_aload hk_142 rfl rfl rfl ?_
    refine kg_get (v := .ref (40 + 1)) hk_142 rfl wk_0_8 rfl rfl ?_
    refine wf_bind hF (fun vz14 hvz14 hF => ?_)
    refine kg_call (as := [.ref (28 + 1), .ref ((64 * x3.toNatClampNeg + 55) + 1), .ref (45 + 1), .ref (40 + 1)]) (rest := []) hk_142 rfl (Or.inr (Or.inr (Or.inr ⟨Or.inl rfl, _, _, rfl, wc_28⟩))) rfl rfl rfl (Nat.not_lt.mpr (Nat.le_of_ble_eq_true rfl)) (p_16_ok (wo_0_1 hez13.2) wc_45 hvz14) (by decide) rfl ?_
    refine wf_if hF (fun cz15 hF => ?_) (fun cz15 hF => ?_)
    · refine kg_ifF hk_142 rfl (jc_F1 cz15) rfl ?_
      refine kg_aload hk_142 rfl rfl rfl ?_
      refine kg_get (v := .ref (28 + 1)) hk_142 rfl wk_0_7 rfl rfl ?_
      refine kg_aload hk_142 rfl rfl rfl ?_
      refine kg_get (v := .ref (2 + 1)) hk_142 rfl wk_0_1 rfl rfl ?_
      refine kg_iload hk_142 rfl rfl rfl ?_
      refine wf_gd hF (fun gz16 hF => ?_)
      have hez17 := w_E we_61 wc_2 gz16
      refine kg_aald (y := (64 * x3.toNatClampNeg + 52)) hk_142 rfl gz16 hez17.1 rfl ?_
      refine kg_get (v := .ref ((64 * x3.toNatClampNeg + 55) + 1)) hk_142 rfl (wf_0_1 hez17.2) rfl rfl ?_
      refine kg_aload hk_142 rfl rfl rfl ?_
      refine kg_get (v := .ref (2 + 1)) hk_142 rfl wk_0_1 rfl rfl ?_
      refine kg_iload hk_142 rfl rfl rfl ?_
      refine wf_gd hF (fun gz18 hF => ?_)
      have hez19 := w_E we_61 wc_2 gz18
      refine kg_aald (y := (64 * x3.toNatClampNeg + 52)) hk_142 rfl gz18 hez19.1 rfl ?_
      refine kg_get (v := .ref ((64 * x3.toNatClampNeg + 62) + 1)) hk_142 rfl (wf_0_3 hez19.2) rfl rfl ?_
      refine wf_bind hF (fun vz20 hvz20 hF => ?_)
      refine kg_call (as := [.ref (28 + 1), .ref ((64 * x3.toNatClampNeg + 55) + 1), .ref ((64 * x3.toNatClampNeg + 62) + 1)]) (rest := []) hk_142 rfl (Or.inr (Or.inr (Or.inr ⟨Or.inl rfl, _, _, rfl, wc_28⟩))) rfl rfl rfl (Nat.not_lt.mpr (Nat.le_of_ble_eq_true rfl)) (p_17_ok (wo_0_1 hez17.2) (wo_0_3 hez19.2) hvz20) (by decide) rfl ?_
      refine kg_iload hk_142 rfl rfl rfl ?_
      refine kg_push (x := 1) hk_142 rfl (by decide) rfl ?_
      refine kg_iload hk_142 rfl rfl rfl ?_
      refine kg_bin (z := (1 <<< (x3 &&& 31))) hk_142 rfl rfl rfl ?_
      refine kg_bin (z := (x1 ||| (1 <<< (x3 &&& 31)))) hk_142 rfl rfl rfl ?_
      refine kg_istore (L2 := [.ref (0 + 1), .int (x1 ||| (1 <<< (x3 &&& 31))), .int x2, .int x3, .int s0]) hk_142 rfl (Nat.le_of_ble_eq_true rfl) rfl rfl ?_
      refine kg_iinc (y := (x2 + 1)) (L2 := [.ref (0 + 1), .int (x1 ||| (1 <<< (x3 &&& 31))), .int (x2 + 1), .int x3, .int s0]) hk_142 rfl rfl rfl rfl rfl ?_
      refine kg_goto hk_142 rfl ?_
      have hF := Option.some.inj hF
      exact hK _ hF.symm _ _
    · refine kg_ifT hk_142 rfl (jc_T1 cz15) ?_
      refine kg_iinc (y := (x2 + 1)) (L2 := [.ref (0 + 1), .int x1, .int (x2 + 1), .int x3, .int s0]) hk_142 rfl rfl rfl rfl rfl ?_
      refine kg_goto hk_142 rfl ?_
      have hF := Option.some.inj hF
      exact hK _ hF.symm _ _
  · refine kg_ifT hk_142 rfl (jc_T1 cz5) ?_
    refine kg_iinc (y := (x2 + 1)) (L2 := [.ref (0 + 1), .int x1, .int (x2 + 1), .int x3, .int s0]) hk_142 rfl rfl rfl rfl rfl ?_
    refine kg_goto hk_142 rfl ?_
    have hF := Option.some.inj hF
    exact hK _ hF.symm _ _
def l_142_4 (x1 : Int32) (x2 : Int32) (h : Hp) : Option ((Int32 × Int32 × Hp) ⊕ Int32 × Hp) :=
  if x2 < (h 11 5) then
    (w_gd (w_ix x2 16) <|
    w_gd (w_ix (h 16 x2.toNatClampNeg) 16) <|
    q_142_30 h x1 x2 (h 16 x2.toNatClampNeg) (if (((h 14 (h 16 x2.toNatClampNeg).toNatClampNeg) &&& 65535) &&& (x1 ^^^ (-1))) = 0 then 0 else 1 : Int32))
  else
    (some (.inr (x1, h)))
theorem l_142_4_st {X : List Int32} {o : kO}  {h : Hp} {x1 : Int32} {x2 : Int32}  {r : (Int32 × Int32 × Hp) ⊕ Int32 × Hp} (hF : l_142_4 x1 x2 h = some r) (hK : ∀ s' : Int32 × Int32 × Hp, r = .inl s' → ∀ (u3 : Value) (u4 : Value), k_Go X 4 142 (4, [.ref (0 + 1), .int (s'.1), .int (s'.2.1), u3, u4], []) s'.2.2 o) (hX0 : ∀ e : Int32 × Hp, r = .inr e → (.inl (some (.int e.1)), e.2) = o) : ∀ (u3 : Value) (u4 : Value), k_Go X 4 142 (4, [.ref (0 + 1), .int x1, .int x2, u3, u4], []) h o := by
  intro u3 u4
  refine kg_iload hk_142 rfl rfl rfl ?_
  refine kg_aload hk_142 rfl rfl rfl ?_
  refine kg_get (v := .ref (11 + 1)) hk_142 rfl wk_0_4 rfl rfl ?_
  refine kg_get (v := .int (h 11 5)) hk_142 rfl wk_11_5 rfl rfl ?_
  refine wf_if hF (fun cz1 hF => ?_) (fun cz1 hF => ?_)
  · refine kg_icF hk_142 rfl (jc_F3 cz1) rfl ?_
    refine kg_aload hk_142 rfl rfl rfl ?_
    refine kg_get (v := .ref (11 + 1)) hk_142 rfl wk_0_4 rfl rfl ?_
    refine kg_get (v := .ref (16 + 1)) hk_142 rfl wk_11_4 rfl rfl ?_
    refine kg_iload hk_142 rfl rfl rfl ?_
    refine wf_gd hF (fun gz2 hF => ?_)
    refine kg_ald (y := (h 16 x2.toNatClampNeg)) hk_142 rfl wc_16 gz2 rfl rfl ?_
    refine kg_istore (L2 := [.ref (0 + 1), .int x1, .int x2, .int (h 16 x2.toNatClampNeg), u4]) hk_142 rfl (Nat.le_of_ble_eq_true rfl) rfl rfl ?_
    refine kg_aload hk_142 rfl rfl rfl ?_
    refine kg_get (v := .ref (11 + 1)) hk_142 rfl wk_0_4 rfl rfl ?_
    refine kg_get (v := .ref (14 + 1)) hk_142 rfl wk_11_2 rfl rfl ?_
    refine kg_iload hk_142 rfl rfl rfl ?_
    refine wf_gd hF (fun gz3 hF => ?_)
    refine kg_ald (y := (h 14 (h 16 x2.toNatClampNeg).toNatClampNeg)) hk_142 rfl wc_14 gz3 rfl rfl ?_
    refine kg_push (x := 65535) hk_142 rfl (by decide) rfl ?_
    refine kg_bin (z := ((h 14 (h 16 x2.toNatClampNeg).toNatClampNeg) &&& 65535)) hk_142 rfl rfl rfl ?_
    refine kg_iload hk_142 rfl rfl rfl ?_
    refine kg_push (x := (-1)) hk_142 rfl (by decide) rfl ?_
    refine kg_bin (z := (x1 ^^^ (-1))) hk_142 rfl rfl rfl ?_
    refine kg_bin (z := (((h 14 (h 16 x2.toNatClampNeg).toNatClampNeg) &&& 65535) &&& (x1 ^^^ (-1)))) hk_142 rfl rfl rfl ?_
    refine kv_mid (p := 30) (L := [.ref (0 + 1), .int x1, .int x2, .int (h 16 x2.toNatClampNeg), u4]) (S := [.int (if (((h 14 (h 16 x2.toNatClampNeg).toNatClampNeg) &&& 65535) &&& (x1 ^^^ (-1))) = 0 then 0 else 1 : Int32)]) ?_ (fun hK => ?_)
    · exact q_142_30_ok hF hK hX0 _
    · by_cases cz4 : (((h 14 (h 16 x2.toNatClampNeg).toNatClampNeg) &&& 65535) &&& (x1 ^^^ (-1))) = 0
      · have hK := kv_T cz4 hK
        refine kg_ifT hk_142 rfl (jc_T0 cz4) ?_
        refine kg_push (x := 0) hk_142 rfl (by decide) rfl ?_
        exact hK
      · have hK := kv_F cz4 hK
        refine kg_ifF hk_142 rfl (jc_F0 cz4) rfl ?_
        refine kg_push (x := 1) hk_142 rfl (by decide) rfl ?_
        refine kg_goto hk_142 rfl ?_
        exact hK
  · refine kg_icT hk_142 rfl (jc_T3 cz1) ?_
    refine kg_iload hk_142 rfl rfl rfl ?_
    have hF := Option.some.inj hF
    exact kg_iret hk_142 rfl (Or.inl rfl) (hX0 _ hF.symm)
theorem l_142_4_ok {X : List Int32} {o : kO}    {n : Nat} {s : Int32 × Int32 × Hp} {e : Int32 × Hp} (hF : w_lp (fun (s : Int32 × Int32 × Hp) => l_142_4 s.1 s.2.1 s.2.2) n s = some e) (hX0 : (.inl (some (.int e.1)), e.2) = o) : ∀ (u3 : Value) (u4 : Value), k_Go X 4 142 (4, [.ref (0 + 1), .int s.1, .int s.2.1, u3, u4], []) s.2.2 o := by
  exact w_lp_ok (P := (fun (s : Int32 × Int32 × Hp) => ∀ (u3 : Value) (u4 : Value), k_Go X 4 142 (4, [.ref (0 + 1), .int s.1, .int s.2.1, u3, u4], []) s.2.2 o)) (Q := (fun (e : Int32 × Hp) => ((.inl (some (.int e.1)), e.2) = o))) (fun s r hF hK hX => l_142_4_st hF hK (fun x hx => (hX _ hx))) n s e hF hX0
def p_142 (h : Hp) : Option (Int32 × Hp) :=
  w_lp (fun (s : Int32 × Int32 × Hp) => l_142_4 s.1 s.2.1 s.2.2) w_N (0, 0, h)
theorem p_142_ok {X : List Int32}  {h : Hp}   {r : Int32 × Hp} (hF : p_142 h = some r) : k_Ev X 4 142 [.ref (0 + 1)] h (.inl (some (.int r.1)), r.2) := by
  refine k_of hk_142 ?_
  show k_Go X 4 142 (0, [.ref (0 + 1), (.retAddr 0), (.retAddr 0), (.retAddr 0), (.retAddr 0)], []) h _
  unfold p_142 at hF
  refine kg_push (x := 0) hk_142 rfl (by decide) rfl ?_
  refine kg_istore (L2 := [.ref (0 + 1), .int 0, (.retAddr 0), (.retAddr 0), (.retAddr 0)]) hk_142 rfl (Nat.le_of_ble_eq_true rfl) rfl rfl ?_
  refine kg_push (x := 0) hk_142 rfl (by decide) rfl ?_
  refine kg_istore (L2 := [.ref (0 + 1), .int 0, .int 0, (.retAddr 0), (.retAddr 0)]) hk_142 rfl (Nat.le_of_ble_eq_true rfl) rfl rfl ?_
  exact l_142_4_ok hF rfl _ _
-- NotebookWeir.resultAnew(II)I
theorem hk_115 : jP[115]? = some (jc_115, 4, [], []) := by rfl
def p_115 (h : Hp) (x1 : Int32) (x2 : Int32) : Option ((Int32 ⊕ Nat) × Hp) :=
  if (v_125 h x1) = 0 then
    (some ((.inr 2), h))
  else
    ((p_142 h).bind fun vz2 =>
    if (v_126 vz2.1 x1) = 0 then
      (some ((.inr 1), vz2.2))
    else
      (w_gd (w_ix x1 16) <|
      w_gd (g_75 vz2.2 (64 * x1.toNatClampNeg + 62) 26 x2) <|
      if (v_75 vz2.2 (64 * x1.toNatClampNeg + 62) 26 x2) = 0 then
        (some ((.inr 1), vz2.2))
      else
        (w_gd (w_ix x1 16) <|
        w_gd (g_76 vz2.2 (64 * x1.toNatClampNeg + 62) 26 x2) <|
        some ((.inl (v_76 vz2.2 (64 * x1.toNatClampNeg + 62) 26 x2)), vz2.2))))
theorem p_115_ok {X : List Int32}  {h : Hp} {x1 : Int32} {x2 : Int32}  {r : (Int32 ⊕ Nat) × Hp} (hF : p_115 h x1 x2 = some r) : k_Ev X 5 115 [.ref (0 + 1), .int x1, .int x2] h (w_th r.1, r.2) := by
  refine k_of hk_115 ?_
  show k_Go X 5 115 (0, [.ref (0 + 1), .int x1, .int x2, (.retAddr 0)], []) h _
  unfold p_115 at hF
  refine kg_aload hk_115 rfl rfl rfl ?_
  refine kg_iload hk_115 rfl rfl rfl ?_
  refine kg_call (as := [.ref (0 + 1), .int x1]) (rest := []) hk_115 rfl (Or.inr (Or.inr (Or.inr ⟨Or.inl rfl, _, _, rfl, wc_0⟩))) rfl rfl rfl (Nat.not_lt.mpr (Nat.le_of_ble_eq_true rfl)) (v_125_ok) (by decide) rfl ?_
  refine wf_if hF (fun cz1 hF => ?_) (fun cz1 hF => ?_)
  · refine kg_ifF hk_115 rfl (jc_F1 cz1) rfl ?_
    have hF := Option.some.inj hF
    subst hF
    exact kg_throw hk_115 rfl (Nat.not_lt.mpr (Nat.le_of_ble_eq_true rfl)) rfl
  · refine kg_ifT hk_115 rfl (jc_T1 cz1) ?_
    refine kg_aload hk_115 rfl rfl rfl ?_
    refine wf_bind hF (fun vz2 hvz2 hF => ?_)
    refine kg_call (as := [.ref (0 + 1)]) (rest := []) hk_115 rfl (Or.inr (Or.inr (Or.inr ⟨Or.inl rfl, _, _, rfl, wc_0⟩))) rfl rfl rfl (Nat.not_lt.mpr (Nat.le_of_ble_eq_true rfl)) (p_142_ok hvz2) (by decide) rfl ?_
    refine kg_istore (L2 := [.ref (0 + 1), .int x1, .int x2, .int vz2.1]) hk_115 rfl (Nat.le_of_ble_eq_true rfl) rfl rfl ?_
    refine kg_iload hk_115 rfl rfl rfl ?_
    refine kg_iload hk_115 rfl rfl rfl ?_
    refine kg_call (as := [.int vz2.1, .int x1]) (rest := []) hk_115 rfl (Or.inl rfl) rfl rfl rfl (Nat.not_lt.mpr (Nat.le_of_ble_eq_true rfl)) (v_126_ok) (by decide) rfl ?_
    refine wf_if hF (fun cz3 hF => ?_) (fun cz3 hF => ?_)
    · refine kg_ifT hk_115 rfl (jc_T0 cz3) ?_
      have hF := Option.some.inj hF
      subst hF
      exact kg_throw hk_115 rfl (Nat.not_lt.mpr (Nat.le_of_ble_eq_true rfl)) rfl
    · refine kg_ifF hk_115 rfl (jc_F0 cz3) rfl ?_
      refine kg_aload hk_115 rfl rfl rfl ?_
      refine kg_get (v := .ref (2 + 1)) hk_115 rfl wk_0_1 rfl rfl ?_
      refine kg_iload hk_115 rfl rfl rfl ?_
      refine wf_gd hF (fun gz4 hF => ?_)
      have hez5 := w_E we_61 wc_2 gz4
      refine kg_aald (y := (64 * x1.toNatClampNeg + 52)) hk_115 rfl gz4 hez5.1 rfl ?_
      refine kg_get (v := .ref ((64 * x1.toNatClampNeg + 62) + 1)) hk_115 rfl (wf_0_3 hez5.2) rfl rfl ?_
      refine kg_push (x := 26) hk_115 rfl (by decide) rfl ?_
      refine kg_iload hk_115 rfl rfl rfl ?_
      refine wf_gd hF (fun gz6 hF => ?_)
      refine kg_call (as := [.ref ((64 * x1.toNatClampNeg + 62) + 1), .int 26, .int x2]) (rest := []) hk_115 rfl (Or.inr (Or.inr (Or.inr ⟨Or.inl rfl, _, _, rfl, (wo_0_3 hez5.2)⟩))) rfl rfl rfl (Nat.not_lt.mpr (Nat.le_of_ble_eq_true rfl)) (v_75_ok (wo_0_3 hez5.2) gz6) (by decide) rfl ?_
      refine wf_if hF (fun cz7 hF => ?_) (fun cz7 hF => ?_)
      · refine kg_ifF hk_115 rfl (jc_F1 cz7) rfl ?_
        have hF := Option.some.inj hF
        subst hF
        exact kg_throw hk_115 rfl (Nat.not_lt.mpr (Nat.le_of_ble_eq_true rfl)) rfl
      · refine kg_ifT hk_115 rfl (jc_T1 cz7) ?_
        refine kg_aload hk_115 rfl rfl rfl ?_
        refine kg_get (v := .ref (2 + 1)) hk_115 rfl wk_0_1 rfl rfl ?_
        refine kg_iload hk_115 rfl rfl rfl ?_
        refine wf_gd hF (fun gz8 hF => ?_)
        have hez9 := w_E we_61 wc_2 gz8
        refine kg_aald (y := (64 * x1.toNatClampNeg + 52)) hk_115 rfl gz8 hez9.1 rfl ?_
        refine kg_get (v := .ref ((64 * x1.toNatClampNeg + 62) + 1)) hk_115 rfl (wf_0_3 hez9.2) rfl rfl ?_
        refine kg_push (x := 26) hk_115 rfl (by decide) rfl ?_
        refine kg_iload hk_115 rfl rfl rfl ?_
        refine wf_gd hF (fun gz10 hF => ?_)
        refine kg_call (as := [.ref ((64 * x1.toNatClampNeg + 62) + 1), .int 26, .int x2]) (rest := []) hk_115 rfl (Or.inr (Or.inr (Or.inr ⟨Or.inl rfl, _, _, rfl, (wo_0_3 hez9.2)⟩))) rfl rfl rfl (Nat.not_lt.mpr (Nat.le_of_ble_eq_true rfl)) (v_76_ok (wo_0_3 hez9.2) gz10) (by decide) rfl ?_
        have hF := Option.some.inj hF
        subst hF
        exact kg_iret hk_115 rfl (Or.inl rfl) rfl
-- NotebookWeir.hasValue(III)Z
theorem hk_143 : jP[143]? = some (jc_143, 4, [], []) := by rfl
def p_143 (h : Hp) (x1 : Int32) (x2 : Int32) (x3 : Int32) : Option (Int32 × Hp) :=
  if (v_125 h x1) = 0 then
    (some ((if x1 = (-1) then 0 else (if x3 = (-1) then 1 else 0 : Int32) : Int32), h))
  else
    ((p_131 h x1).bind fun vz4 =>
    w_gd ((if vz4.1 = 0 then (w_ix x1 16) && (g_75 vz4.2 (64 * x1.toNatClampNeg + 59) x2 x3) else true)) <|
    some ((if vz4.1 = 0 then (if (v_75 vz4.2 (64 * x1.toNatClampNeg + 59) x2 x3) = 0 then 0 else 1 : Int32) else 0 : Int32), vz4.2))
theorem p_143_ok {X : List Int32}  {h : Hp} {x1 : Int32} {x2 : Int32} {x3 : Int32}  {r : Int32 × Hp} (hF : p_143 h x1 x2 x3 = some r) : k_Ev X 6 143 [.ref (0 + 1), .int x1, .int x2, .int x3] h (.inl (some (.int r.1)), r.2) := by
  refine k_of hk_143 ?_
  show k_Go X 6 143 (0, [.ref (0 + 1), .int x1, .int x2, .int x3], []) h _
  unfold p_143 at hF
  refine kg_aload hk_143 rfl rfl rfl ?_
  refine kg_iload hk_143 rfl rfl rfl ?_
  refine kg_call (as := [.ref (0 + 1), .int x1]) (rest := []) hk_143 rfl (Or.inr (Or.inr (Or.inr ⟨Or.inl rfl, _, _, rfl, wc_0⟩))) rfl rfl rfl (Nat.not_lt.mpr (Nat.le_of_ble_eq_true rfl)) (v_125_ok) (by decide) rfl ?_
  refine wf_if hF (fun cz1 hF => ?_) (fun cz1 hF => ?_)
  · refine kg_ifT hk_143 rfl (jc_T0 cz1) ?_
    refine kg_iload hk_143 rfl rfl rfl ?_
    refine kg_push (x := (-1)) hk_143 rfl (by decide) rfl ?_
    refine kv_mid (p := 30) (L := [.ref (0 + 1), .int x1, .int x2, .int x3]) (S := [.int (if x1 = (-1) then 0 else (if x3 = (-1) then 1 else 0 : Int32) : Int32)]) ?_ (fun hK => ?_)
    · have hF := Option.some.inj hF
      subst hF
      exact kg_iret hk_143 rfl (Or.inr (w_boi rfl (w_boi rfl rfl))) rfl
    · by_cases cz2 : x1 = (-1)
      · have hK := kv_T cz2 hK
        refine kg_icT hk_143 rfl (jc_T0 cz2) ?_
        refine kg_push (x := 0) hk_143 rfl (by decide) rfl ?_
        exact hK
      · have hK := kv_F cz2 hK
        refine kg_icF hk_143 rfl (jc_F0 cz2) rfl ?_
        refine kg_iload hk_143 rfl rfl rfl ?_
        refine kg_push (x := (-1)) hk_143 rfl (by decide) rfl ?_
        by_cases cz3 : x3 = (-1)
        · have hK := kv_T cz3 hK
          refine kg_icF hk_143 rfl (jc_F1 cz3) rfl ?_
          refine kg_push (x := 1) hk_143 rfl (by decide) rfl ?_
          refine kg_goto hk_143 rfl ?_
          exact hK
        · have hK := kv_F cz3 hK
          refine kg_icT hk_143 rfl (jc_T1 cz3) ?_
          refine kg_push (x := 0) hk_143 rfl (by decide) rfl ?_
          exact hK
  · refine kg_ifF hk_143 rfl (jc_F0 cz1) rfl ?_
    refine kg_aload hk_143 rfl rfl rfl ?_
    refine kg_iload hk_143 rfl rfl rfl ?_
    refine wf_bind hF (fun vz4 hvz4 hF => ?_)
    refine kg_call (as := [.ref (0 + 1), .int x1]) (rest := []) hk_143 rfl (Or.inr (Or.inr (Or.inr ⟨Or.inl rfl, _, _, rfl, wc_0⟩))) rfl rfl rfl (Nat.not_lt.mpr (Nat.le_of_ble_eq_true rfl)) (p_131_ok hvz4) (by decide) rfl ?_
    refine wf_gd hF (fun gz10 hF => ?_)
    refine kv_mid (p := 20) (L := [.ref (0 + 1), .int x1, .int x2, .int x3]) (S := [.int (if vz4.1 = 0 then (if (v_75 vz4.2 (64 * x1.toNatClampNeg + 59) x2 x3) = 0 then 0 else 1 : Int32) else 0 : Int32)]) ?_ (fun hK => ?_)
    · have hF := Option.some.inj hF
      subst hF
      exact kg_iret hk_143 rfl (Or.inr (w_boi (w_boi rfl rfl) rfl)) rfl
    · have hg := gz10
      by_cases cz5 : vz4.1 = 0
      · have hg := wv_T cz5 hg
        have hK := kv_T cz5 hK
        have gz6 := wb_1 hg
        have hg := wb_2 hg
        have gz8 := hg
        refine kg_ifF hk_143 rfl (jc_F1 cz5) rfl ?_
        refine kg_aload hk_143 rfl rfl rfl ?_
        refine kg_get (v := .ref (2 + 1)) hk_143 rfl wk_0_1 rfl rfl ?_
        refine kg_iload hk_143 rfl rfl rfl ?_
        have hez7 := w_E we_61 wc_2 gz6
        refine kg_aald (y := (64 * x1.toNatClampNeg + 52)) hk_143 rfl gz6 hez7.1 rfl ?_
        refine kg_get (v := .ref ((64 * x1.toNatClampNeg + 59) + 1)) hk_143 rfl (wf_0_2 hez7.2) rfl rfl ?_
        refine kg_iload hk_143 rfl rfl rfl ?_
        refine kg_iload hk_143 rfl rfl rfl ?_
        refine kg_call (as := [.ref ((64 * x1.toNatClampNeg + 59) + 1), .int x2, .int x3]) (rest := []) hk_143 rfl (Or.inr (Or.inr (Or.inr ⟨Or.inl rfl, _, _, rfl, (wo_0_2 hez7.2)⟩))) rfl rfl rfl (Nat.not_lt.mpr (Nat.le_of_ble_eq_true rfl)) (v_75_ok (wo_0_2 hez7.2) gz8) (by decide) rfl ?_
        by_cases cz9 : (v_75 vz4.2 (64 * x1.toNatClampNeg + 59) x2 x3) = 0
        · have hK := kv_T cz9 hK
          refine kg_ifT hk_143 rfl (jc_T0 cz9) ?_
          refine kg_push (x := 0) hk_143 rfl (by decide) rfl ?_
          exact hK
        · have hK := kv_F cz9 hK
          refine kg_ifF hk_143 rfl (jc_F0 cz9) rfl ?_
          refine kg_push (x := 1) hk_143 rfl (by decide) rfl ?_
          refine kg_goto hk_143 rfl ?_
          exact hK
      · have hK := kv_F cz5 hK
        refine kg_ifT hk_143 rfl (jc_T1 cz5) ?_
        refine kg_push (x := 0) hk_143 rfl (by decide) rfl ?_
        exact hK
-- NotebookWeir.value(CI)I
theorem hk_116 : jP[116]? = some (jc_116, 5, [], []) := by rfl
def q_116_25 (h : Hp) (x2 : Int32) (x3 : Int32) (x4 : Int32) : Option ((Int32 ⊕ Nat) × Hp) :=
  (p_143 h x4 x3 x2).bind fun vz4 =>
  if vz4.1 = 0 then
    (some ((.inr 1), vz4.2))
  else
    (w_gd ((if (v_125 vz4.2 x4) = 0 then g_93 vz4.2 (x4 - 16) else (w_ix x4 16) && (g_76 vz4.2 (64 * x4.toNatClampNeg + 59) x3 x2))) <|
    some ((.inl (if (v_125 vz4.2 x4) = 0 then (v_93 vz4.2 (x4 - 16)) else (v_76 vz4.2 (64 * x4.toNatClampNeg + 59) x3 x2) : Int32)), vz4.2))
theorem q_116_25_ok {X : List Int32}   {h : Hp} {x2 : Int32} {x3 : Int32} {x4 : Int32}  {r : (Int32 ⊕ Nat) × Hp} (hF : q_116_25 h x2 x3 x4 = some r)  : ∀ (u1 : Value), k_Go X 7 116 (25, [.ref (0 + 1), u1, .int x2, .int x3, .int x4], []) h (w_th r.1, r.2) := by
  intro u1
  unfold q_116_25 at hF
  refine kg_aload hk_116 rfl rfl rfl ?_
  refine kg_iload hk_116 rfl rfl rfl ?_
  refine kg_iload hk_116 rfl rfl rfl ?_
  refine kg_iload hk_116 rfl rfl rfl ?_
  refine wf_bind hF (fun vz4 hvz4 hF => ?_)
  refine kg_call (as := [.ref (0 + 1), .int x4, .int x3, .int x2]) (rest := []) hk_116 rfl (Or.inr (Or.inr (Or.inr ⟨Or.inl rfl, _, _, rfl, wc_0⟩))) rfl rfl rfl (Nat.not_lt.mpr (Nat.le_of_ble_eq_true rfl)) (p_143_ok hvz4) (by decide) rfl ?_
  refine wf_if hF (fun cz5 hF => ?_) (fun cz5 hF => ?_)
  · refine kg_ifF hk_116 rfl (jc_F1 cz5) rfl ?_
    have hF := Option.some.inj hF
    subst hF
    exact kg_throw hk_116 rfl (Nat.not_lt.mpr (Nat.le_of_ble_eq_true rfl)) rfl
  · refine kg_ifT hk_116 rfl (jc_T1 cz5) ?_
    refine kg_aload hk_116 rfl rfl rfl ?_
    refine kg_iload hk_116 rfl rfl rfl ?_
    refine kg_call (as := [.ref (0 + 1), .int x4]) (rest := []) hk_116 rfl (Or.inr (Or.inr (Or.inr ⟨Or.inl rfl, _, _, rfl, wc_0⟩))) rfl rfl rfl (Nat.not_lt.mpr (Nat.le_of_ble_eq_true rfl)) (v_125_ok) (by decide) rfl ?_
    refine wf_gd hF (fun gz11 hF => ?_)
    refine kv_mid (p := 51) (L := [.ref (0 + 1), u1, .int x2, .int x3, .int x4]) (S := [.int (if (v_125 vz4.2 x4) = 0 then (v_93 vz4.2 (x4 - 16)) else (v_76 vz4.2 (64 * x4.toNatClampNeg + 59) x3 x2) : Int32)]) ?_ (fun hK => ?_)
    · have hF := Option.some.inj hF
      subst hF
      exact kg_iret hk_116 rfl (Or.inl rfl) rfl
    · have hg := gz11
      by_cases cz6 : (v_125 vz4.2 x4) = 0
      · have hg := wv_T cz6 hg
        have hK := kv_T cz6 hK
        have gz7 := hg
        refine kg_ifT hk_116 rfl (jc_T0 cz6) ?_
        refine kg_aload hk_116 rfl rfl rfl ?_
        refine kg_get (v := .ref (4 + 1)) hk_116 rfl wk_0_3 rfl rfl ?_
        refine kg_iload hk_116 rfl rfl rfl ?_
        refine kg_push (x := 16) hk_116 rfl (by decide) rfl ?_
        refine kg_bin (z := (x4 - 16)) hk_116 rfl rfl rfl ?_
        refine kg_call (as := [.ref (4 + 1), .int (x4 - 16)]) (rest := []) hk_116 rfl (Or.inr (Or.inr (Or.inr ⟨Or.inl rfl, _, _, rfl, wc_4⟩))) rfl rfl rfl (Nat.not_lt.mpr (Nat.le_of_ble_eq_true rfl)) (v_93_ok gz7) (by decide) rfl ?_
        exact hK
      · have hg := wv_F cz6 hg
        have hK := kv_F cz6 hK
        have gz8 := wb_1 hg
        have hg := wb_2 hg
        have gz10 := hg
        refine kg_ifF hk_116 rfl (jc_F0 cz6) rfl ?_
        refine kg_aload hk_116 rfl rfl rfl ?_
        refine kg_get (v := .ref (2 + 1)) hk_116 rfl wk_0_1 rfl rfl ?_
        refine kg_iload hk_116 rfl rfl rfl ?_
        have hez9 := w_E we_61 wc_2 gz8
        refine kg_aald (y := (64 * x4.toNatClampNeg + 52)) hk_116 rfl gz8 hez9.1 rfl ?_
        refine kg_get (v := .ref ((64 * x4.toNatClampNeg + 59) + 1)) hk_116 rfl (wf_0_2 hez9.2) rfl rfl ?_
        refine kg_iload hk_116 rfl rfl rfl ?_
        refine kg_iload hk_116 rfl rfl rfl ?_
        refine kg_call (as := [.ref ((64 * x4.toNatClampNeg + 59) + 1), .int x3, .int x2]) (rest := []) hk_116 rfl (Or.inr (Or.inr (Or.inr ⟨Or.inl rfl, _, _, rfl, (wo_0_2 hez9.2)⟩))) rfl rfl rfl (Nat.not_lt.mpr (Nat.le_of_ble_eq_true rfl)) (v_76_ok (wo_0_2 hez9.2) gz10) (by decide) rfl ?_
        refine kg_goto hk_116 rfl ?_
        exact hK
def p_116 (h : Hp) (x1 : Int32) (x2 : Int32) : Option ((Int32 ⊕ Nat) × Hp) :=
  if (v_123 x1) = 0 then
    (some ((.inr 0), h))
  else
    ((p_82 h (x1 - 97)).bind fun vz2 =>
    if (v_125 h vz2) = 0 then
      (q_116_25 h x2 (x1 - 97) vz2)
    else
      ((p_134 h vz2).bind fun vz12 =>
      if vz12.1 = 0 then
        (q_116_25 vz12.2 x2 (x1 - 97) vz2)
      else
        ((p_138 vz12.2 vz2).bind fun vz14 =>
        q_116_25 vz14.2 x2 (x1 - 97) vz2)))
theorem p_116_ok {X : List Int32}  {h : Hp} {x1 : Int32} {x2 : Int32}  {r : (Int32 ⊕ Nat) × Hp} (hF : p_116 h x1 x2 = some r) : k_Ev X 7 116 [.ref (0 + 1), .int x1, .int x2] h (w_th r.1, r.2) := by
  refine k_of hk_116 ?_
  show k_Go X 7 116 (0, [.ref (0 + 1), .int x1, .int x2, (.retAddr 0), (.retAddr 0)], []) h _
  unfold p_116 at hF
  refine kg_iload hk_116 rfl rfl rfl ?_
  refine kg_call (as := [.int x1]) (rest := []) hk_116 rfl (Or.inl rfl) rfl rfl rfl (Nat.not_lt.mpr (Nat.le_of_ble_eq_true rfl)) (v_123_ok) (by decide) rfl ?_
  refine wf_if hF (fun cz1 hF => ?_) (fun cz1 hF => ?_)
  · refine kg_ifF hk_116 rfl (jc_F1 cz1) rfl ?_
    have hF := Option.some.inj hF
    subst hF
    exact kg_throw hk_116 rfl (Nat.not_lt.mpr (Nat.le_of_ble_eq_true rfl)) rfl
  · refine kg_ifT hk_116 rfl (jc_T1 cz1) ?_
    refine kg_iload hk_116 rfl rfl rfl ?_
    refine kg_push (x := 97) hk_116 rfl (by decide) rfl ?_
    refine kg_bin (z := (x1 - 97)) hk_116 rfl rfl rfl ?_
    refine kg_istore (L2 := [.ref (0 + 1), .int x1, .int x2, .int (x1 - 97), (.retAddr 0)]) hk_116 rfl (Nat.le_of_ble_eq_true rfl) rfl rfl ?_
    refine kg_aload hk_116 rfl rfl rfl ?_
    refine kg_get (v := .ref (11 + 1)) hk_116 rfl wk_0_4 rfl rfl ?_
    refine kg_iload hk_116 rfl rfl rfl ?_
    refine wf_bind hF (fun vz2 hvz2 hF => ?_)
    refine kg_call (as := [.ref (11 + 1), .int (x1 - 97)]) (rest := []) hk_116 rfl (Or.inr (Or.inr (Or.inr ⟨Or.inl rfl, _, _, rfl, wc_11⟩))) rfl rfl rfl (Nat.not_lt.mpr (Nat.le_of_ble_eq_true rfl)) (p_82_ok hvz2) (by decide) rfl ?_
    refine kg_istore (L2 := [.ref (0 + 1), .int x1, .int x2, .int (x1 - 97), .int vz2]) hk_116 rfl (Nat.le_of_ble_eq_true rfl) rfl rfl ?_
    refine kg_aload hk_116 rfl rfl rfl ?_
    refine kg_iload hk_116 rfl rfl rfl ?_
    refine kg_call (as := [.ref (0 + 1), .int vz2]) (rest := []) hk_116 rfl (Or.inr (Or.inr (Or.inr ⟨Or.inl rfl, _, _, rfl, wc_0⟩))) rfl rfl rfl (Nat.not_lt.mpr (Nat.le_of_ble_eq_true rfl)) (v_125_ok) (by decide) rfl ?_
    refine wf_if hF (fun cz3 hF => ?_) (fun cz3 hF => ?_)
    · refine kg_ifT hk_116 rfl (jc_T0 cz3) ?_
      exact q_116_25_ok hF _
    · refine kg_ifF hk_116 rfl (jc_F0 cz3) rfl ?_
      refine kg_aload hk_116 rfl rfl rfl ?_
      refine kg_iload hk_116 rfl rfl rfl ?_
      refine wf_bind hF (fun vz12 hvz12 hF => ?_)
      refine kg_call (as := [.ref (0 + 1), .int vz2]) (rest := []) hk_116 rfl (Or.inr (Or.inr (Or.inr ⟨Or.inl rfl, _, _, rfl, wc_0⟩))) rfl rfl rfl (Nat.not_lt.mpr (Nat.le_of_ble_eq_true rfl)) (p_134_ok hvz12) (by decide) rfl ?_
      refine wf_if hF (fun cz13 hF => ?_) (fun cz13 hF => ?_)
      · refine kg_ifT hk_116 rfl (jc_T0 cz13) ?_
        exact q_116_25_ok hF _
      · refine kg_ifF hk_116 rfl (jc_F0 cz13) rfl ?_
        refine kg_aload hk_116 rfl rfl rfl ?_
        refine kg_iload hk_116 rfl rfl rfl ?_
        refine wf_bind hF (fun vz14 hvz14 hF => ?_)
        refine kg_call (as := [.ref (0 + 1), .int vz2]) (rest := []) hk_116 rfl (Or.inr (Or.inr (Or.inr ⟨Or.inl rfl, _, _, rfl, wc_0⟩))) rfl rfl rfl (Nat.not_lt.mpr (Nat.le_of_ble_eq_true rfl)) (p_138_ok hvz14) (by decide) rfl ?_
        refine kg_pop hk_116 rfl rfl rfl ?_
        exact q_116_25_ok hF _
-- NotebookWeir.error(I)I
theorem hk_117 : jP[117]? = some (jc_117, 2, [], []) := by rfl
def q_117_13 (h : Hp) (x1 : Int32) : Option ((Int32 ⊕ Nat) × Hp) :=
  (p_131 h x1).bind fun vz4 =>
  w_gd ((if vz4.1 = 2 then (w_ix x1 16) && (w_ix x1 16) else true)) <|
  some ((.inl (if vz4.1 = 2 then ((100 * (vz4.2 (64 * x1.toNatClampNeg + 52) 11)) + (vz4.2 (64 * x1.toNatClampNeg + 52) 12)) else 0 : Int32)), vz4.2)
theorem q_117_13_ok {X : List Int32}   {h : Hp} {x1 : Int32}  {r : (Int32 ⊕ Nat) × Hp} (hF : q_117_13 h x1 = some r)  : k_Go X 7 117 (13, [.ref (0 + 1), .int x1], []) h (w_th r.1, r.2) := by
  unfold q_117_13 at hF
  refine kg_aload hk_117 rfl rfl rfl ?_
  refine kg_iload hk_117 rfl rfl rfl ?_
  refine wf_bind hF (fun vz4 hvz4 hF => ?_)
  refine kg_call (as := [.ref (0 + 1), .int x1]) (rest := []) hk_117 rfl (Or.inr (Or.inr (Or.inr ⟨Or.inl rfl, _, _, rfl, wc_0⟩))) rfl rfl rfl (Nat.not_lt.mpr (Nat.le_of_ble_eq_true rfl)) (p_131_ok hvz4) (by decide) rfl ?_
  refine kg_push (x := 2) hk_117 rfl (by decide) rfl ?_
  refine wf_gd hF (fun gz10 hF => ?_)
  refine kv_mid (p := 33) (L := [.ref (0 + 1), .int x1]) (S := [.int (if vz4.1 = 2 then ((100 * (vz4.2 (64 * x1.toNatClampNeg + 52) 11)) + (vz4.2 (64 * x1.toNatClampNeg + 52) 12)) else 0 : Int32)]) ?_ (fun hK => ?_)
  · have hF := Option.some.inj hF
    subst hF
    exact kg_iret hk_117 rfl (Or.inl rfl) rfl
  · have hg := gz10
    by_cases cz5 : vz4.1 = 2
    · have hg := wv_T cz5 hg
      have hK := kv_T cz5 hK
      have gz6 := wb_1 hg
      have hg := wb_2 hg
      have gz8 := hg
      refine kg_icF hk_117 rfl (jc_F1 cz5) rfl ?_
      refine kg_push (x := 100) hk_117 rfl (by decide) rfl ?_
      refine kg_aload hk_117 rfl rfl rfl ?_
      refine kg_get (v := .ref (2 + 1)) hk_117 rfl wk_0_1 rfl rfl ?_
      refine kg_iload hk_117 rfl rfl rfl ?_
      have hez7 := w_E we_61 wc_2 gz6
      refine kg_aald (y := (64 * x1.toNatClampNeg + 52)) hk_117 rfl gz6 hez7.1 rfl ?_
      refine kg_get (v := .int (vz4.2 (64 * x1.toNatClampNeg + 52) 11)) hk_117 rfl (wf_0_11 hez7.2) rfl rfl ?_
      refine kg_bin (z := (100 * (vz4.2 (64 * x1.toNatClampNeg + 52) 11))) hk_117 rfl rfl rfl ?_
      refine kg_aload hk_117 rfl rfl rfl ?_
      refine kg_get (v := .ref (2 + 1)) hk_117 rfl wk_0_1 rfl rfl ?_
      refine kg_iload hk_117 rfl rfl rfl ?_
      have hez9 := w_E we_61 wc_2 gz8
      refine kg_aald (y := (64 * x1.toNatClampNeg + 52)) hk_117 rfl gz8 hez9.1 rfl ?_
      refine kg_get (v := .int (vz4.2 (64 * x1.toNatClampNeg + 52) 12)) hk_117 rfl (wf_0_12 hez9.2) rfl rfl ?_
      refine kg_bin (z := ((100 * (vz4.2 (64 * x1.toNatClampNeg + 52) 11)) + (vz4.2 (64 * x1.toNatClampNeg + 52) 12))) hk_117 rfl rfl rfl ?_
      refine kg_goto hk_117 rfl ?_
      exact hK
    · have hK := kv_F cz5 hK
      refine kg_icT hk_117 rfl (jc_T1 cz5) ?_
      refine kg_push (x := 0) hk_117 rfl (by decide) rfl ?_
      exact hK
def p_117 (h : Hp) (x1 : Int32) : Option ((Int32 ⊕ Nat) × Hp) :=
  if (v_125 h x1) = 0 then
    (some ((.inr 2), h))
  else
    ((p_134 h x1).bind fun vz2 =>
    if vz2.1 = 0 then
      (q_117_13 vz2.2 x1)
    else
      ((p_138 vz2.2 x1).bind fun vz11 =>
      q_117_13 vz11.2 x1))
theorem p_117_ok {X : List Int32}  {h : Hp} {x1 : Int32}  {r : (Int32 ⊕ Nat) × Hp} (hF : p_117 h x1 = some r) : k_Ev X 7 117 [.ref (0 + 1), .int x1] h (w_th r.1, r.2) := by
  refine k_of hk_117 ?_
  show k_Go X 7 117 (0, [.ref (0 + 1), .int x1], []) h _
  unfold p_117 at hF
  refine kg_aload hk_117 rfl rfl rfl ?_
  refine kg_iload hk_117 rfl rfl rfl ?_
  refine kg_call (as := [.ref (0 + 1), .int x1]) (rest := []) hk_117 rfl (Or.inr (Or.inr (Or.inr ⟨Or.inl rfl, _, _, rfl, wc_0⟩))) rfl rfl rfl (Nat.not_lt.mpr (Nat.le_of_ble_eq_true rfl)) (v_125_ok) (by decide) rfl ?_
  refine wf_if hF (fun cz1 hF => ?_) (fun cz1 hF => ?_)
  · refine kg_ifF hk_117 rfl (jc_F1 cz1) rfl ?_
    have hF := Option.some.inj hF
    subst hF
    exact kg_throw hk_117 rfl (Nat.not_lt.mpr (Nat.le_of_ble_eq_true rfl)) rfl
  · refine kg_ifT hk_117 rfl (jc_T1 cz1) ?_
    refine kg_aload hk_117 rfl rfl rfl ?_
    refine kg_iload hk_117 rfl rfl rfl ?_
    refine wf_bind hF (fun vz2 hvz2 hF => ?_)
    refine kg_call (as := [.ref (0 + 1), .int x1]) (rest := []) hk_117 rfl (Or.inr (Or.inr (Or.inr ⟨Or.inl rfl, _, _, rfl, wc_0⟩))) rfl rfl rfl (Nat.not_lt.mpr (Nat.le_of_ble_eq_true rfl)) (p_134_ok hvz2) (by decide) rfl ?_
    refine wf_if hF (fun cz3 hF => ?_) (fun cz3 hF => ?_)
    · refine kg_ifT hk_117 rfl (jc_T0 cz3) ?_
      exact q_117_13_ok hF
    · refine kg_ifF hk_117 rfl (jc_F0 cz3) rfl ?_
      refine kg_aload hk_117 rfl rfl rfl ?_
      refine kg_iload hk_117 rfl rfl rfl ?_
      refine wf_bind hF (fun vz11 hvz11 hF => ?_)
      refine kg_call (as := [.ref (0 + 1), .int x1]) (rest := []) hk_117 rfl (Or.inr (Or.inr (Or.inr ⟨Or.inl rfl, _, _, rfl, wc_0⟩))) rfl rfl rfl (Nat.not_lt.mpr (Nat.le_of_ble_eq_true rfl)) (p_138_ok hvz11) (by decide) rfl ?_
      refine kg_pop hk_117 rfl rfl rfl ?_
      exact q_117_13_ok hF
-- NotebookWeir.order(I)I
theorem hk_118 : jP[118]? = some (jc_118, 2, [], []) := by rfl
def p_118 (h : Hp) (x1 : Int32) : Option ((Int32 ⊕ Nat)) :=
  if x1 < 0 then
    (some (.inr 2))
  else
    (w_gd ((if x1 < (h 11 5) then w_ix x1 16 else true)) <|
    some (.inl (if x1 < (h 11 5) then (h 16 x1.toNatClampNeg) else (-1) : Int32)))
theorem p_118_ok {X : List Int32}  {h : Hp} {x1 : Int32}  {r : (Int32 ⊕ Nat)} (hF : p_118 h x1 = some r) : k_Ev X 0 118 [.ref (0 + 1), .int x1] h (w_th r, h) := by
  refine k_of hk_118 ?_
  show k_Go X 0 118 (0, [.ref (0 + 1), .int x1], []) h _
  unfold p_118 at hF
  refine kg_iload hk_118 rfl rfl rfl ?_
  refine wf_if hF (fun cz1 hF => ?_) (fun cz1 hF => ?_)
  · refine kg_ifF hk_118 rfl (jc_F3 cz1) rfl ?_
    have hF := Option.some.inj hF
    subst hF
    exact kg_throw hk_118 rfl (Nat.not_lt.mpr (Nat.le_of_ble_eq_true rfl)) rfl
  · refine kg_ifT hk_118 rfl (jc_T3 cz1) ?_
    refine kg_iload hk_118 rfl rfl rfl ?_
    refine kg_aload hk_118 rfl rfl rfl ?_
    refine kg_get (v := .ref (11 + 1)) hk_118 rfl wk_0_4 rfl rfl ?_
    refine kg_get (v := .int (h 11 5)) hk_118 rfl wk_11_5 rfl rfl ?_
    refine wf_gd hF (fun gz4 hF => ?_)
    refine kv_mid (p := 15) (L := [.ref (0 + 1), .int x1]) (S := [.int (if x1 < (h 11 5) then (h 16 x1.toNatClampNeg) else (-1) : Int32)]) ?_ (fun hK => ?_)
    · have hF := Option.some.inj hF
      subst hF
      exact kg_iret hk_118 rfl (Or.inl rfl) rfl
    · have hg := gz4
      by_cases cz2 : x1 < (h 11 5)
      · have hg := wv_T cz2 hg
        have hK := kv_T cz2 hK
        have gz3 := hg
        refine kg_icF hk_118 rfl (jc_F3 cz2) rfl ?_
        refine kg_aload hk_118 rfl rfl rfl ?_
        refine kg_get (v := .ref (11 + 1)) hk_118 rfl wk_0_4 rfl rfl ?_
        refine kg_get (v := .ref (16 + 1)) hk_118 rfl wk_11_4 rfl rfl ?_
        refine kg_iload hk_118 rfl rfl rfl ?_
        refine kg_ald (y := (h 16 x1.toNatClampNeg)) hk_118 rfl wc_16 gz3 rfl rfl ?_
        refine kg_goto hk_118 rfl ?_
        exact hK
      · have hK := kv_F cz2 hK
        refine kg_icT hk_118 rfl (jc_T3 cz2) ?_
        refine kg_push (x := (-1)) hk_118 rfl (by decide) rfl ?_
        exact hK
-- NotebookWeir.runs()I
theorem hk_119 : jP[119]? = some (jc_119, 1, [], []) := by rfl
def v_119 (h : Hp)  : Int32 := (h 0 12)
theorem v_119_ok {X : List Int32} {h : Hp}   : k_Ev X 0 119 [.ref (0 + 1)] h (.inl (some (.int (v_119 h))), h) := by
  refine k_of hk_119 ?_
  show k_Go X 0 119 (0, [.ref (0 + 1)], []) h _
  generalize hv : v_119 h = z
  unfold v_119 at hv
  refine kg_aload hk_119 rfl rfl rfl ?_
  refine kg_get (v := .int (h 0 12)) hk_119 rfl wk_0_12 rfl rfl ?_
  exact kg_iret hk_119 rfl (Or.inl rfl) (by rw [hv])
-- NotebookWeir.found()I
theorem hk_120 : jP[120]? = some (jc_120, 1, [], []) := by rfl
def v_120 (h : Hp)  : Int32 := (h 0 13)
theorem v_120_ok {X : List Int32} {h : Hp}   : k_Ev X 0 120 [.ref (0 + 1)] h (.inl (some (.int (v_120 h))), h) := by
  refine k_of hk_120 ?_
  show k_Go X 0 120 (0, [.ref (0 + 1)], []) h _
  generalize hv : v_120 h = z
  unfold v_120 at hv
  refine kg_aload hk_120 rfl rfl rfl ?_
  refine kg_get (v := .int (h 0 13)) hk_120 rfl wk_0_13 rfl rfl ?_
  exact kg_iret hk_120 rfl (Or.inl rfl) (by rw [hv])
-- NotebookWeirModel.thrown()I
theorem hk_145 : jP[145]? = some (jc_145, 1, [], []) := by rfl
def v_145 (h : Hp)  : Int32 := (h 1076 79)
theorem v_145_ok {X : List Int32} {h : Hp}   : k_Ev X 0 145 [.ref (1076 + 1)] h (.inl (some (.int (v_145 h))), h) := by
  refine k_of hk_145 ?_
  show k_Go X 0 145 (0, [.ref (1076 + 1)], []) h _
  generalize hv : v_145 h = z
  unfold v_145 at hv
  refine kg_aload hk_145 rfl rfl rfl ?_
  refine kg_get (v := .int (h 1076 79)) hk_145 rfl wk_1076_79 rfl rfl ?_
  exact kg_iret hk_145 rfl (Or.inl rfl) (by rw [hv])
-- NotebookWeirModel.goes(ZZZ)Z
theorem hk_146 : jP[146]? = some (jc_146, 4, [], []) := by rfl
def q_146_14 (h : Hp) (s0 : Int32) : Option (Int32 × Hp) :=
  w_let (w_up h 1076 79 s0) fun hz4 =>
  some ((if (hz4 1076 79) = 0 then 1 else 0 : Int32), hz4)
theorem q_146_14_ok {X : List Int32}   {h : Hp} {s0 : Int32}  {r : Int32 × Hp} (hF : q_146_14 h s0 = some r)  : ∀ (u1 : Value) (u2 : Value) (u3 : Value), k_Go X 0 146 (14, [.ref (1076 + 1), u1, u2, u3], [.int s0, .ref (1076 + 1)]) h (.inl (some (.int r.1)), r.2) := by
  intro u1 u2 u3
  unfold q_146_14 at hF
  refine wf_let hF (fun hz4 hhz4 hF => ?_)
  refine kg_put hk_146 rfl wk_1076_79 rfl rfl hhz4 rfl ?_
  refine kg_aload hk_146 rfl rfl rfl ?_
  refine kg_get (v := .int (hz4 1076 79)) hk_146 rfl wk_1076_79 rfl rfl ?_
  refine kv_mid (p := 21) (L := [.ref (1076 + 1), u1, u2, u3]) (S := [.int (if (hz4 1076 79) = 0 then 1 else 0 : Int32)]) ?_ (fun hK => ?_)
  · have hF := Option.some.inj hF
    subst hF
    exact kg_iret hk_146 rfl (Or.inr (w_boi rfl rfl)) rfl
  · by_cases cz5 : (hz4 1076 79) = 0
    · have hK := kv_T cz5 hK
      refine kg_ifF hk_146 rfl (jc_F1 cz5) rfl ?_
      refine kg_push (x := 1) hk_146 rfl (by decide) rfl ?_
      refine kg_goto hk_146 rfl ?_
      exact hK
    · have hK := kv_F cz5 hK
      refine kg_ifT hk_146 rfl (jc_T1 cz5) ?_
      refine kg_push (x := 0) hk_146 rfl (by decide) rfl ?_
      exact hK
def p_146 (h : Hp) (x1 : Int32) (x2 : Int32) (x3 : Int32) : Option (Int32 × Hp) :=
  q_146_14 h (if x1 = 0 then 1 else (if x2 = 0 then 2 else (if x3 = 0 then 3 else 0 : Int32) : Int32) : Int32)
theorem p_146_ok {X : List Int32}  {h : Hp} {x1 : Int32} {x2 : Int32} {x3 : Int32}  {r : Int32 × Hp} (hF : p_146 h x1 x2 x3 = some r) : k_Ev X 0 146 [.ref (1076 + 1), .int x1, .int x2, .int x3] h (.inl (some (.int r.1)), r.2) := by
  refine k_of hk_146 ?_
  show k_Go X 0 146 (0, [.ref (1076 + 1), .int x1, .int x2, .int x3], []) h _
  unfold p_146 at hF
  refine kg_aload hk_146 rfl rfl rfl ?_
  refine kg_iload hk_146 rfl rfl rfl ?_
  refine kv_mid (p := 14) (L := [.ref (1076 + 1), .int x1, .int x2, .int x3]) (S := [.int (if x1 = 0 then 1 else (if x2 = 0 then 2 else (if x3 = 0 then 3 else 0 : Int32) : Int32) : Int32), .ref (1076 + 1)]) ?_ (fun hK => ?_)
  · exact q_146_14_ok hF _ _ _
  · by_cases cz1 : x1 = 0
    · have hK := kv_T cz1 hK
      refine kg_ifF hk_146 rfl (jc_F1 cz1) rfl ?_
      refine kg_push (x := 1) hk_146 rfl (by decide) rfl ?_
      refine kg_goto hk_146 rfl ?_
      exact hK
    · have hK := kv_F cz1 hK
      refine kg_ifT hk_146 rfl (jc_T1 cz1) ?_
      refine kg_iload hk_146 rfl rfl rfl ?_
      by_cases cz2 : x2 = 0
      · have hK := kv_T cz2 hK
        refine kg_ifF hk_146 rfl (jc_F1 cz2) rfl ?_
        refine kg_push (x := 2) hk_146 rfl (by decide) rfl ?_
        refine kg_goto hk_146 rfl ?_
        exact hK
      · have hK := kv_F cz2 hK
        refine kg_ifT hk_146 rfl (jc_T1 cz2) ?_
        refine kg_iload hk_146 rfl rfl rfl ?_
        by_cases cz3 : x3 = 0
        · have hK := kv_T cz3 hK
          refine kg_ifF hk_146 rfl (jc_F1 cz3) rfl ?_
          refine kg_push (x := 3) hk_146 rfl (by decide) rfl ?_
          refine kg_goto hk_146 rfl ?_
          exact hK
        · have hK := kv_F cz3 hK
          refine kg_ifT hk_146 rfl (jc_T1 cz3) ?_
          refine kg_push (x := 0) hk_146 rfl (by decide) rfl ?_
          exact hK
