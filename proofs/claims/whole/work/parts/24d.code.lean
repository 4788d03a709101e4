/-! ===== the methods as functions over the flat heap, and that the interpreter does what they say (printed by wip/whole/dec.py) ===== -/
-- NotebookWeir$Reader.readNames()I
theorem hk_51 : jP[51]? = some (jc_51, 4, [], []) := by rfl
def l_51_4 (x1 : Int32) (x2 : Int32) (h : Hp) : Option ((Int32 × Int32 × Hp) ⊕ Int32 × Hp) :=
  if x2 < 5 then
    ((p_37 h).bind fun vz2 =>
    if vz2.1 = (-1) then
      (some (.inr ((-1), vz2.2)))
    else
      (if (x2 + 1) = 5 then
        (some (.inr ((x1 ||| (1 <<< (vz2.1 &&& 31))), vz2.2)))
      else
        ((p_36 vz2.2 44).bind fun vz5 =>
        if vz5.1 = 0 then
          (some (.inr ((x1 ||| (1 <<< (vz2.1 &&& 31))), vz5.2)))
        else
          (some (.inl ((x1 ||| (1 <<< (vz2.1 &&& 31))), (x2 + 1), vz5.2))))))
  else
    (some (.inr (x1, h)))
theorem l_51_4_st {X : List Int32} {o : kO}  {h : Hp} {x1 : Int32} {x2 : Int32}  {r : (Int32 × Int32 × Hp) ⊕ Int32 × Hp} (hF : l_51_4 x1 x2 h = some r) (hK : ∀ s' : Int32 × Int32 × Hp, r = .inl s' → ∀ (u3 : Value), k_Go X 2 51 (4, [.ref (17 + 1), .int (s'.1), .int (s'.2.1), u3], []) s'.2.2 o) (hX0 : ∀ e : Int32 × Hp, r = .inr e → (.inl (some (.int e.1)), e.2) = o) : ∀ (u3 : Value), k_Go X 2 51 (4, [.ref (17 + 1), .int x1, .int x2, u3], []) h o := by
  intro u3
  refine kg_iload hk_51 rfl rfl rfl ?_
  refine kg_push (x := 5) hk_51 rfl (by decide) rfl ?_
  refine wf_if hF (fun cz1 hF => ?_) (fun cz1 hF => ?_)
  · refine kg_icF hk_51 rfl (jc_F3 cz1) rfl ?_
    refine kg_aload hk_51 rfl rfl rfl ?_
    refine wf_bind hF (fun vz2 hvz2 hF => ?_)
    refine kg_call (as := [.ref (17 + 1)]) (rest := []) hk_51 rfl (Or.inr (Or.inr (Or.inr ⟨Or.inl rfl, _, _, rfl, wc_17⟩))) rfl rfl rfl (Nat.not_lt.mpr (Nat.le_of_ble_eq_true rfl)) (p_37_ok hvz2) (by decide) rfl ?_
    refine kg_istore (L2 := [.ref (17 + 1), .int x1, .int x2, .int vz2.1]) hk_51 rfl (Nat.le_of_ble_eq_true rfl) rfl rfl ?_
    refine kg_iload hk_51 rfl rfl rfl ?_
    refine kg_push (x := (-1)) hk_51 rfl (by decide) rfl ?_
    refine wf_if hF (fun cz3 hF => ?_) (fun cz3 hF => ?_)
    · refine kg_icF hk_51 rfl (jc_F1 cz3) rfl ?_
      refine kg_push (x := (-1)) hk_51 rfl (by decide) rfl ?_
      have hF := Option.some.inj hF
      exact kg_iret hk_51 rfl (Or.inl rfl) (hX0 _ hF.symm)
    · refine kg_icT hk_51 rfl (jc_T1 cz3) ?_
      refine kg_iload hk_51 rfl rfl rfl ?_
      refine kg_push (x := 1) hk_51 rfl (by decide) rfl ?_
      refine kg_iload hk_51 rfl rfl rfl ?_
      refine kg_bin (z := (1 <<< (vz2.1 &&& 31))) hk_51 rfl rfl rfl ?_
      refine kg_bin (z := (x1 ||| (1 <<< (vz2.1 &&& 31)))) hk_51 rfl rfl rfl ?_
      refine kg_istore (L2 := [.ref (17 + 1), .int (x1 ||| (1 <<< (vz2.1 &&& 31))), .int x2, .int vz2.1]) hk_51 rfl (Nat.le_of_ble_eq_true rfl) rfl rfl ?_
      refine kg_iload hk_51 rfl rfl rfl ?_
      refine kg_push (x := 1) hk_51 rfl (by decide) rfl ?_
      refine kg_bin (z := (x2 + 1)) hk_51 rfl rfl rfl ?_
      refine kg_push (x := 5) hk_51 rfl (by decide) rfl ?_
      refine wf_if hF (fun cz4 hF => ?_) (fun cz4 hF => ?_)
      · refine kg_icT hk_51 rfl (jc_T0 cz4) ?_
        refine kg_iload hk_51 rfl rfl rfl ?_
        have hF := Option.some.inj hF
        exact kg_iret hk_51 rfl (Or.inl rfl) (hX0 _ hF.symm)
      · refine kg_icF hk_51 rfl (jc_F0 cz4) rfl ?_
        refine kg_aload hk_51 rfl rfl rfl ?_
        refine kg_push (x := 44) hk_51 rfl (by decide) rfl ?_
        refine wf_bind hF (fun vz5 hvz5 hF => ?_)
        refine kg_call (as := [.ref (17 + 1), .int 44]) (rest := []) hk_51 rfl (Or.inr (Or.inr (Or.inr ⟨Or.inl rfl, _, _, rfl, wc_17⟩))) rfl rfl rfl (Nat.not_lt.mpr (Nat.le_of_ble_eq_true rfl)) (p_36_ok hvz5) (by decide) rfl ?_
        refine wf_if hF (fun cz6 hF => ?_) (fun cz6 hF => ?_)
        · refine kg_ifF hk_51 rfl (jc_F1 cz6) rfl ?_
          refine kg_iload hk_51 rfl rfl rfl ?_
          have hF := Option.some.inj hF
          exact kg_iret hk_51 rfl (Or.inl rfl) (hX0 _ hF.symm)
        · refine kg_ifT hk_51 rfl (jc_T1 cz6) ?_
          refine kg_iinc (y := (x2 + 1)) (L2 := [.ref (17 + 1), .int (x1 ||| (1 <<< (vz2.1 &&& 31))), .int (x2 + 1), .int vz2.1]) hk_51 rfl rfl rfl rfl rfl ?_
          refine kg_goto hk_51 rfl ?_
          have hF := Option.some.inj hF
          exact hK _ hF.symm _
  · refine kg_icT hk_51 rfl (jc_T3 cz1) ?_
    refine kg_iload hk_51 rfl rfl rfl ?_
    have hF := Option.some.inj hF
    exact kg_iret hk_51 rfl (Or.inl rfl) (hX0 _ hF.symm)
theorem l_51_4_ok {X : List Int32} {o : kO}    {n : Nat} {s : Int32 × Int32 × Hp} {e : Int32 × Hp} (hF : w_lp (fun (s : Int32 × Int32 × Hp) => l_51_4 s.1 s.2.1 s.2.2) n s = some e) (hX0 : (.inl (some (.int e.1)), e.2) = o) : ∀ (u3 : Value), k_Go X 2 51 (4, [.ref (17 + 1), .int s.1, .int s.2.1, u3], []) s.2.2 o := by
  exact w_lp_ok (P := (fun (s : Int32 × Int32 × Hp) => ∀ (u3 : Value), k_Go X 2 51 (4, [.ref (17 + 1), .int s.1, .int s.2.1, u3], []) s.2.2 o)) (Q := (fun (e : Int32 × Hp) => ((.inl (some (.int e.1)), e.2) = o))) (fun s r hF hK hX => l_51_4_st hF hK (fun x hx => (hX _ hx))) n s e hF hX0
def p_51 (h : Hp) : Option (Int32 × Hp) :=
  w_lp (fun (s : Int32 × Int32 × Hp) => l_51_4 s.1 s.2.1 s.2.2) w_N (0, 0, h)
theorem p_51_ok {X : List Int32}  {h : Hp}   {r : Int32 × Hp} (hF : p_51 h = some r) : k_Ev X 2 51 [.ref (17 + 1)] h (.inl (some (.int r.1)), r.2) := by
  refine k_of hk_51 ?_
  show k_Go X 2 51 (0, [.ref (17 + 1), (.retAddr 0), (.retAddr 0), (.retAddr 0)], []) h _
  unfold p_51 at hF
  refine kg_push (x := 0) hk_51 rfl (by decide) rfl ?_
  refine kg_istore (L2 := [.ref (17 + 1), .int 0, (.retAddr 0), (.retAddr 0)]) hk_51 rfl (Nat.le_of_ble_eq_true rfl) rfl rfl ?_
  refine kg_push (x := 0) hk_51 rfl (by decide) rfl ?_
  refine kg_istore (L2 := [.ref (17 + 1), .int 0, .int 0, (.retAddr 0)]) hk_51 rfl (Nat.le_of_ble_eq_true rfl) rfl rfl ?_
  exact l_51_4_ok hF rfl _
-- NotebookWeir$Reader.readClauses()Z
theorem hk_50 : jP[50]? = some (jc_50, 5, [], []) := by rfl
def q_50_27 (h : Hp) (x1 : Int32) (x2 : Int32) (x3 : Int32) (s0 : Int32) : Option ((Int32 × Int32 × Hp) ⊕ ((Int32 × Hp) ⊕ Int32 × Hp)) :=
  if s0 = (-1) then
    (some (.inr (.inr (0, h))))
  else
    (w_gd ((h 17 1) == 24) <|
    (p_10 h 24 x3 s0 (h 17 3)).bind fun vz9 =>
    w_gd ((vz9 17 1) == 24) <|
    w_let (w_up vz9 24 5 ((vz9 24 5) ||| (1 <<< (x3 &&& 31)))) fun hz11 =>
    (p_36 hz11 59).bind fun vz12 =>
    if vz12.1 = 0 then
      (some (.inr (.inl ((x1 ||| s0), vz12.2))))
    else
      (some (.inl ((x1 ||| s0), (x2 + 1), vz12.2))))
theorem q_50_27_ok {X : List Int32} {o : kO}  {h : Hp} {s0 : Int32} {x1 : Int32} {x2 : Int32} {x3 : Int32}  {r : (Int32 × Int32 × Hp) ⊕ ((Int32 × Hp) ⊕ Int32 × Hp)} (hF : q_50_27 h x1 x2 x3 s0 = some r) (hK : ∀ s' : Int32 × Int32 × Hp, r = .inl s' → ∀ (u3 : Value) (u4 : Value), k_Go X 3 50 (4, [.ref (17 + 1), .int (s'.1), .int (s'.2.1), u3, u4], []) s'.2.2 o) (hX0 : ∀ x : Int32 × Hp, r = .inr (.inl x) → ∀ (u2 : Value) (u3 : Value) (u4 : Value), k_Go X 3 50 (57, [.ref (17 + 1), .int x.1, u2, u3, u4], []) x.2 o) (hX1 : ∀ x : Int32 × Hp, r = .inr (.inr x) → (.inl (some (.int x.1)), x.2) = o) : ∀ (u4 : Value), k_Go X 3 50 (27, [.ref (17 + 1), .int x1, .int x2, .int x3, u4], [.int s0]) h o := by
  intro u4
  unfold q_50_27 at hF
  refine kg_istore (L2 := [.ref (17 + 1), .int x1, .int x2, .int x3, .int s0]) hk_50 rfl (Nat.le_of_ble_eq_true rfl) rfl rfl ?_
  refine kg_iload hk_50 rfl rfl rfl ?_
  refine kg_push (x := (-1)) hk_50 rfl (by decide) rfl ?_
  refine wf_if hF (fun cz7 hF => ?_) (fun cz7 hF => ?_)
  · refine kg_icF hk_50 rfl (jc_F1 cz7) rfl ?_
    refine kg_push (x := 0) hk_50 rfl (by decide) rfl ?_
    have hF := Option.some.inj hF
    exact kg_iret hk_50 rfl (Or.inr rfl) (hX1 _ hF.symm)
  · refine kg_icT hk_50 rfl (jc_T1 cz7) ?_
    refine kg_aload hk_50 rfl rfl rfl ?_
    refine wf_gd hF (fun gz8 hF => ?_)
    refine kg_get (v := .ref (24 + 1)) hk_50 rfl wk_17_1 (by rw [beq_iff_eq.mp gz8]; rfl) rfl ?_
    refine kg_iload hk_50 rfl rfl rfl ?_
    refine kg_iload hk_50 rfl rfl rfl ?_
    refine kg_aload hk_50 rfl rfl rfl ?_
    refine kg_get (v := .int (h 17 3)) hk_50 rfl wk_17_3 rfl rfl ?_
    refine wf_bind hF (fun vz9 hvz9 hF => ?_)
    refine kg_call (as := [.ref (24 + 1), .int x3, .int s0, .int (h 17 3)]) (rest := []) hk_50 rfl (Or.inr (Or.inr (Or.inr ⟨Or.inl rfl, _, _, rfl, wc_24⟩))) rfl rfl rfl (Nat.not_lt.mpr (Nat.le_of_ble_eq_true rfl)) (p_10_ok wc_24 hvz9) (by decide) rfl ?_
    refine kg_iload hk_50 rfl rfl rfl ?_
    refine kg_iload hk_50 rfl rfl rfl ?_
    refine kg_bin (z := (x1 ||| s0)) hk_50 rfl rfl rfl ?_
    refine kg_istore (L2 := [.ref (17 + 1), .int (x1 ||| s0), .int x2, .int x3, .int s0]) hk_50 rfl (Nat.le_of_ble_eq_true rfl) rfl rfl ?_
    refine kg_aload hk_50 rfl rfl rfl ?_
    refine wf_gd hF (fun gz10 hF => ?_)
    refine kg_get (v := .ref (24 + 1)) hk_50 rfl wk_17_1 (by rw [beq_iff_eq.mp gz10]; rfl) rfl ?_
    refine kg_dup hk_50 rfl rfl rfl ?_
    refine kg_get (v := .int (vz9 24 5)) hk_50 rfl wk_24_5 rfl rfl ?_
    refine kg_push (x := 1) hk_50 rfl (by decide) rfl ?_
    refine kg_iload hk_50 rfl rfl rfl ?_
    refine kg_bin (z := (1 <<< (x3 &&& 31))) hk_50 rfl rfl rfl ?_
    refine kg_bin (z := ((vz9 24 5) ||| (1 <<< (x3 &&& 31)))) hk_50 rfl rfl rfl ?_
    refine wf_let hF (fun hz11 hhz11 hF => ?_)
    refine kg_put hk_50 rfl wk_24_5 rfl rfl hhz11 rfl ?_
    refine kg_aload hk_50 rfl rfl rfl ?_
    refine kg_push (x := 59) hk_50 rfl (by decide) rfl ?_
    refine wf_bind hF (fun vz12 hvz12 hF => ?_)
    refine kg_call (as := [.ref (17 + 1), .int 59]) (rest := []) hk_50 rfl (Or.inr (Or.inr (Or.inr ⟨Or.inl rfl, _, _, rfl, wc_17⟩))) rfl rfl rfl (Nat.not_lt.mpr (Nat.le_of_ble_eq_true rfl)) (p_36_ok hvz12) (by decide) rfl ?_
    refine wf_if hF (fun cz13 hF => ?_) (fun cz13 hF => ?_)
    · refine kg_ifF hk_50 rfl (jc_F1 cz13) rfl ?_
      have hF := Option.some.inj hF
      exact hX0 _ hF.symm _ _ _
    · refine kg_ifT hk_50 rfl (jc_T1 cz13) ?_
      refine kg_iinc (y := (x2 + 1)) (L2 := [.ref (17 + 1), .int (x1 ||| s0), .int (x2 + 1), .int x3, .int s0]) hk_50 rfl rfl rfl rfl rfl ?_
      refine kg_goto hk_50 rfl ?_
      have hF := Option.some.inj hF
      exact hK _ hF.symm _ _
def l_50_4 (x1 : Int32) (x2 : Int32) (h : Hp) : Option ((Int32 × Int32 × Hp) ⊕ ((Int32 × Hp) ⊕ Int32 × Hp)) :=
  if x2 < 40 then
    (w_let (w_up h 17 3 (h 17 2)) fun hz2 =>
    (p_37 hz2).bind fun vz3 =>
    if vz3.1 = (-1) then
      (some (.inr (.inr (0, vz3.2))))
    else
      ((p_36 vz3.2 58).bind fun vz5 =>
      if vz5.1 = 0 then
        (q_50_27 vz5.2 x1 x2 vz3.1 0)
      else
        ((p_51 vz5.2).bind fun vz14 =>
        q_50_27 vz14.2 x1 x2 vz3.1 vz14.1)))
  else
    (some (.inr (.inr (0, h))))
theorem l_50_4_st {X : List Int32} {o : kO}  {h : Hp} {x1 : Int32} {x2 : Int32}  {r : (Int32 × Int32 × Hp) ⊕ ((Int32 × Hp) ⊕ Int32 × Hp)} (hF : l_50_4 x1 x2 h = some r) (hK : ∀ s' : Int32 × Int32 × Hp, r = .inl s' → ∀ (u3 : Value) (u4 : Value), k_Go X 3 50 (4, [.ref (17 + 1), .int (s'.1), .int (s'.2.1), u3, u4], []) s'.2.2 o) (hX0 : ∀ x : Int32 × Hp, r = .inr (.inl x) → ∀ (u2 : Value) (u3 : Value) (u4 : Value), k_Go X 3 50 (57, [.ref (17 + 1), .int x.1, u2, u3, u4], []) x.2 o) (hX1 : ∀ x : Int32 × Hp, r = .inr (.inr x) → (.inl (some (.int x.1)), x.2) = o) : ∀ (u3 : Value) (u4 : Value), k_Go X 3 50 (4, [.ref (17 + 1), .int x1, .int x2, u3, u4], []) h o := by
  intro u3 u4
  refine kg_iload hk_50 rfl rfl rfl ?_
  refine kg_push (x := 40) hk_50 rfl (by decide) rfl ?_
  refine wf_if hF (fun cz1 hF => ?_) (fun cz1 hF => ?_)
  · refine kg_icF hk_50 rfl (jc_F3 cz1) rfl ?_
    refine kg_aload hk_50 rfl rfl rfl ?_
    refine kg_aload hk_50 rfl rfl rfl ?_
    refine kg_get (v := .int (h 17 2)) hk_50 rfl wk_17_2 rfl rfl ?_
    refine wf_let hF (fun hz2 hhz2 hF => ?_)
    refine kg_put hk_50 rfl wk_17_3 rfl rfl hhz2 rfl ?_
    refine kg_aload hk_50 rfl rfl rfl ?_
    refine wf_bind hF (fun vz3 hvz3 hF => ?_)
    refine kg_call (as := [.ref (17 + 1)]) (rest := []) hk_50 rfl (Or.inr (Or.inr (Or.inr ⟨Or.inl rfl, _, _, rfl, wc_17⟩))) rfl rfl rfl (Nat.not_lt.mpr (Nat.le_of_ble_eq_true rfl)) (p_37_ok hvz3) (by decide) rfl ?_
    refine kg_istore (L2 := [.ref (17 + 1), .int x1, .int x2, .int vz3.1, u4]) hk_50 rfl (Nat.le_of_ble_eq_true rfl) rfl rfl ?_
    refine kg_iload hk_50 rfl rfl rfl ?_
    refine kg_push (x := (-1)) hk_50 rfl (by decide) rfl ?_
    refine wf_if hF (fun cz4 hF => ?_) (fun cz4 hF => ?_)
    · refine kg_icF hk_50 rfl (jc_F1 cz4) rfl ?_
      refine kg_push (x := 0) hk_50 rfl (by decide) rfl ?_
      have hF := Option.some.inj hF
      exact kg_iret hk_50 rfl (Or.inr rfl) (hX1 _ hF.symm)
    · refine kg_icT hk_50 rfl (jc_T1 cz4) ?_
      refine kg_aload hk_50 rfl rfl rfl ?_
      refine kg_push (x := 58) hk_50 rfl (by decide) rfl ?_
      refine wf_bind hF (fun vz5 hvz5 hF => ?_)
      refine kg_call (as := [.ref (17 + 1), .int 58]) (rest := []) hk_50 rfl (Or.inr (Or.inr (Or.inr ⟨Or.inl rfl, _, _, rfl, wc_17⟩))) rfl rfl rfl (Nat.not_lt.mpr (Nat.le_of_ble_eq_true rfl)) (p_36_ok hvz5) (by decide) rfl ?_
      refine wf_if hF (fun cz6 hF => ?_) (fun cz6 hF => ?_)
      · refine kg_ifT hk_50 rfl (jc_T0 cz6) ?_
        refine kg_push (x := 0) hk_50 rfl (by decide) rfl ?_
        exact q_50_27_ok hF hK hX0 hX1 _
      · refine kg_ifF hk_50 rfl (jc_F0 cz6) rfl ?_
        refine kg_aload hk_50 rfl rfl rfl ?_
        refine wf_bind hF (fun vz14 hvz14 hF => ?_)
        refine kg_call (as := [.ref (17 + 1)]) (rest := []) hk_50 rfl (Or.inr (Or.inr (Or.inr ⟨Or.inl rfl, _, _, rfl, wc_17⟩))) rfl rfl rfl (Nat.not_lt.mpr (Nat.le_of_ble_eq_true rfl)) (p_51_ok hvz14) (by decide) rfl ?_
        refine kg_goto hk_50 rfl ?_
        exact q_50_27_ok hF hK hX0 hX1 _
  · refine kg_icT hk_50 rfl (jc_T3 cz1) ?_
    refine kg_push (x := 0) hk_50 rfl (by decide) rfl ?_
    have hF := Option.some.inj hF
    exact kg_iret hk_50 rfl (Or.inr rfl) (hX1 _ hF.symm)
theorem l_50_4_ok {X : List Int32} {o : kO}    {n : Nat} {s : Int32 × Int32 × Hp} {e : ((Int32 × Hp) ⊕ Int32 × Hp)} (hF : w_lp (fun (s : Int32 × Int32 × Hp) => l_50_4 s.1 s.2.1 s.2.2) n s = some e) (hX0 : ∀ x : Int32 × Hp, e = (.inl x) → ∀ (u2 : Value) (u3 : Value) (u4 : Value), k_Go X 3 50 (57, [.ref (17 + 1), .int x.1, u2, u3, u4], []) x.2 o) (hX1 : ∀ x : Int32 × Hp, e = (.inr x) → (.inl (some (.int x.1)), x.2) = o) : ∀ (u3 : Value) (u4 : Value), k_Go X 3 50 (4, [.ref (17 + 1), .int s.1, .int s.2.1, u3, u4], []) s.2.2 o := by
  exact w_lp_ok (P := (fun (s : Int32 × Int32 × Hp) => ∀ (u3 : Value) (u4 : Value), k_Go X 3 50 (4, [.ref (17 + 1), .int s.1, .int s.2.1, u3, u4], []) s.2.2 o)) (Q := (fun (e : ((Int32 × Hp) ⊕ Int32 × Hp)) => (∀ x : Int32 × Hp, e = (.inl x) → ∀ (u2 : Value) (u3 : Value) (u4 : Value), k_Go X 3 50 (57, [.ref (17 + 1), .int x.1, u2, u3, u4], []) x.2 o) ∧ (∀ x : Int32 × Hp, e = (.inr x) → (.inl (some (.int x.1)), x.2) = o))) (fun s r hF hK hX => l_50_4_st hF hK (fun x hx => (hX _ hx).1 x rfl) (fun x hx => (hX _ hx).2 x rfl)) n s e hF ⟨hX0, hX1⟩
def p_50 (h : Hp) : Option (Int32 × Hp) :=
  (w_lp (fun (s : Int32 × Int32 × Hp) => l_50_4 s.1 s.2.1 s.2.2) w_N (0, 0, h)).bind <| (Sum.elim (fun yz16 =>
    (w_gd ((yz16.2 17 1) == 24) <|
    w_gd ((yz16.2 17 1) == 24) <|
    w_let (w_up yz16.2 24 7 (yz16.1 &&& ((yz16.2 24 5) ^^^ (-1)))) fun hz20 =>
    some (1, hz20))) (fun yz17 =>
    (some yz17)))
theorem p_50_ok {X : List Int32}  {h : Hp}   {r : Int32 × Hp} (hF : p_50 h = some r) : k_Ev X 3 50 [.ref (17 + 1)] h (.inl (some (.int r.1)), r.2) := by
  refine k_of hk_50 ?_
  show k_Go X 3 50 (0, [.ref (17 + 1), (.retAddr 0), (.retAddr 0), (.retAddr 0), (.retAddr 0)], []) h _
  unfold p_50 at hF
  refine kg_push (x := 0) hk_50 rfl (by decide) rfl ?_
  refine kg_istore (L2 := [.ref (17 + 1), .int 0, (.retAddr 0), (.retAddr 0), (.retAddr 0)]) hk_50 rfl (Nat.le_of_ble_eq_true rfl) rfl rfl ?_
  refine kg_push (x := 0) hk_50 rfl (by decide) rfl ?_
  refine kg_istore (L2 := [.ref (17 + 1), .int 0, .int 0, (.retAddr 0), (.retAddr 0)]) hk_50 rfl (Nat.le_of_ble_eq_true rfl) rfl rfl ?_
  refine wf_bind hF (fun ez15 hez15 hF => ?_)
  refine l_50_4_ok hez15 ?_ ?_ _ _
  · intro yz16 hx
    subst hx
    refine wf_inl hF (fun hF => ?_)
    intro u2 u3 u4
    refine kg_aload hk_50 rfl rfl rfl ?_
    refine wf_gd hF (fun gz18 hF => ?_)
    refine kg_get (v := .ref (24 + 1)) hk_50 rfl wk_17_1 (by rw [beq_iff_eq.mp gz18]; rfl) rfl ?_
    refine kg_iload hk_50 rfl rfl rfl ?_
    refine kg_aload hk_50 rfl rfl rfl ?_
    refine wf_gd hF (fun gz19 hF => ?_)
    refine kg_get (v := .ref (24 + 1)) hk_50 rfl wk_17_1 (by rw [beq_iff_eq.mp gz19]; rfl) rfl ?_
    refine kg_get (v := .int (yz16.2 24 5)) hk_50 rfl wk_24_5 rfl rfl ?_
    refine kg_push (x := (-1)) hk_50 rfl (by decide) rfl ?_
    refine kg_bin (z := ((yz16.2 24 5) ^^^ (-1))) hk_50 rfl rfl rfl ?_
    refine kg_bin (z := (yz16.1 &&& ((yz16.2 24 5) ^^^ (-1)))) hk_50 rfl rfl rfl ?_
    refine wf_let hF (fun hz20 hhz20 hF => ?_)
    refine kg_put hk_50 rfl wk_24_7 rfl rfl hhz20 rfl ?_
    refine kg_push (x := 1) hk_50 rfl (by decide) rfl ?_
    have hF := Option.some.inj hF
    subst hF
    exact kg_iret hk_50 rfl (Or.inr rfl) rfl
  · intro yz17 hx
    subst hx
    refine wf_inr hF (fun hF => ?_)
    have hF := Option.some.inj hF
    subst hF
    rfl
-- NotebookWeir$Reader.read(LNotebookWeir$Text;ILNotebookWeir$Code;)I
theorem hk_35 : jP[35]? = some (jc_35, 5, [], []) := by rfl
def q_35_33 (h : Hp) (s0 : Int32) : Option (Int32 × Hp) :=
  if s0 = 0 then
    (some ((h 17 2), h))
  else
    (w_gd (w_tag (h 17 0).toNatClampNeg == 7 && 7 != 999) <|
    some ((if (h 17 2) < (h ((h 17 0).toNatClampNeg) 1) then (h 17 2) else (-1) : Int32), h))
theorem q_35_33_ok {X : List Int32}   {h : Hp} {s0 : Int32}  {r : Int32 × Hp} (hF : q_35_33 h s0 = some r)  : ∀ (u1 : Value) (u2 : Value) (u3 : Value) (u4 : Value), k_Go X 256 35 (33, [.ref (17 + 1), u1, u2, u3, u4], [.int s0]) h (.inl (some (.int r.1)), r.2) := by
  intro u1 u2 u3 u4
  unfold q_35_33 at hF
  refine kg_istore (L2 := [.ref (17 + 1), u1, u2, u3, .int s0]) hk_35 rfl (Nat.le_of_ble_eq_true rfl) rfl rfl ?_
  refine kg_iload hk_35 rfl rfl rfl ?_
  refine wf_if hF (fun cz10 hF => ?_) (fun cz10 hF => ?_)
  · refine kg_ifT hk_35 rfl (jc_T0 cz10) ?_
    refine kg_aload hk_35 rfl rfl rfl ?_
    refine kg_get (v := .int (h 17 2)) hk_35 rfl wk_17_2 rfl rfl ?_
    have hF := Option.some.inj hF
    subst hF
    exact kg_iret hk_35 rfl (Or.inl rfl) rfl
  · refine kg_ifF hk_35 rfl (jc_F0 cz10) rfl ?_
    refine kg_aload hk_35 rfl rfl rfl ?_
    refine kg_get (v := .int (h 17 2)) hk_35 rfl wk_17_2 rfl rfl ?_
    refine kg_aload hk_35 rfl rfl rfl ?_
    refine wf_gd hF (fun gz11 hF => ?_)
    refine kg_get (v := .ref (((h 17 0).toNatClampNeg) + 1)) hk_35 rfl wk_17_0 rfl rfl ?_
    refine kg_get (v := .int (h ((h 17 0).toNatClampNeg) 1)) hk_35 rfl (wf_7_1 (w_tagE gz11)) rfl rfl ?_
    refine kv_mid (p := 46) (L := [.ref (17 + 1), u1, u2, u3, .int s0]) (S := [.int (if (h 17 2) < (h ((h 17 0).toNatClampNeg) 1) then (h 17 2) else (-1) : Int32)]) ?_ (fun hK => ?_)
    · have hF := Option.some.inj hF
      subst hF
      exact kg_iret hk_35 rfl (Or.inl rfl) rfl
    · by_cases cz12 : (h 17 2) < (h ((h 17 0).toNatClampNeg) 1)
      · have hK := kv_T cz12 hK
        refine kg_icT hk_35 rfl (jc_T2 cz12) ?_
        refine kg_aload hk_35 rfl rfl rfl ?_
        refine kg_get (v := .int (h 17 2)) hk_35 rfl wk_17_2 rfl rfl ?_
        exact hK
      · have hK := kv_F cz12 hK
        refine kg_icF hk_35 rfl (jc_F2 cz12) rfl ?_
        refine kg_push (x := (-1)) hk_35 rfl (by decide) rfl ?_
        refine kg_goto hk_35 rfl ?_
        exact hK
def p_35 (h : Hp) (q1 : Nat) (x2 : Int32) : Option (Int32 × Hp) :=
  w_let (w_up h 17 0 (Int32.ofNat q1)) fun hz1 =>
  w_let (w_up hz1 17 1 (Int32.ofNat 24)) fun hz2 =>
  w_gd ((hz2 17 1) == 24) <|
  (p_8 hz2 24 x2).bind fun vz4 =>
  w_let (w_up vz4 17 2 0) fun hz5 =>
  w_let (w_up hz5 17 3 0) fun hz6 =>
  w_let (w_up hz6 17 4 0) fun hz7 =>
  if x2 = 1 then
    ((p_48 hz7).bind fun vz9 =>
    q_35_33 vz9.2 vz9.1)
  else
    (if x2 = 2 then
      ((p_50 hz7).bind fun vz14 =>
      q_35_33 vz14.2 vz14.1)
    else
      ((p_39 hz7).bind fun vz15 =>
      q_35_33 vz15.2 vz15.1))
theorem p_35_ok {X : List Int32}  {h : Hp} {q1 : Nat} {x2 : Int32} (t1 : w_ob q1 7) {r : Int32 × Hp} (hF : p_35 h q1 x2 = some r) : k_Ev X 256 35 [.ref (17 + 1), .ref (q1 + 1), .int x2, .ref (24 + 1)] h (.inl (some (.int r.1)), r.2) := by
  refine k_of hk_35 ?_
  show k_Go X 256 35 (0, [.ref (17 + 1), .ref (q1 + 1), .int x2, .ref (24 + 1), (.retAddr 0)], []) h _
  unfold p_35 at hF
  refine kg_aload hk_35 rfl rfl rfl ?_
  refine kg_aload hk_35 rfl rfl rfl ?_
  refine wf_let hF (fun hz1 hhz1 hF => ?_)
  refine kg_put hk_35 rfl wk_17_0 (w_mr t1) rfl hhz1 rfl ?_
  refine kg_aload hk_35 rfl rfl rfl ?_
  refine kg_aload hk_35 rfl rfl rfl ?_
  refine wf_let hF (fun hz2 hhz2 hF => ?_)
  refine kg_put hk_35 rfl wk_17_1 rfl rfl hhz2 rfl ?_
  refine kg_aload hk_35 rfl rfl rfl ?_
  refine wf_gd hF (fun gz3 hF => ?_)
  refine kg_get (v := .ref (24 + 1)) hk_35 rfl wk_17_1 (by rw [beq_iff_eq.mp gz3]; rfl) rfl ?_
  refine kg_iload hk_35 rfl rfl rfl ?_
  refine wf_bind hF (fun vz4 hvz4 hF => ?_)
  refine kg_call (as := [.ref (24 + 1), .int x2]) (rest := []) hk_35 rfl (Or.inr (Or.inr (Or.inr ⟨Or.inl rfl, _, _, rfl, wc_24⟩))) rfl rfl rfl (Nat.not_lt.mpr (Nat.le_of_ble_eq_true rfl)) (p_8_ok wc_24 hvz4) (by decide) rfl ?_
  refine kg_aload hk_35 rfl rfl rfl ?_
  refine kg_push (x := 0) hk_35 rfl (by decide) rfl ?_
  refine wf_let hF (fun hz5 hhz5 hF => ?_)
  refine kg_put hk_35 rfl wk_17_2 rfl rfl hhz5 rfl ?_
  refine kg_aload hk_35 rfl rfl rfl ?_
  refine kg_push (x := 0) hk_35 rfl (by decide) rfl ?_
  refine wf_let hF (fun hz6 hhz6 hF => ?_)
  refine kg_put hk_35 rfl wk_17_3 rfl rfl hhz6 rfl ?_
  refine kg_aload hk_35 rfl rfl rfl ?_
  refine kg_push (x := 0) hk_35 rfl (by decide) rfl ?_
  refine wf_let hF (fun hz7 hhz7 hF => ?_)
  refine kg_put hk_35 rfl wk_17_4 rfl rfl hhz7 rfl ?_
  refine kg_iload hk_35 rfl rfl rfl ?_
  refine kg_push (x := 1) hk_35 rfl (by decide) rfl ?_
  refine wf_if hF (fun cz8 hF => ?_) (fun cz8 hF => ?_)
  · refine kg_icF hk_35 rfl (jc_F1 cz8) rfl ?_
    refine kg_aload hk_35 rfl rfl rfl ?_
    refine wf_bind hF (fun vz9 hvz9 hF => ?_)
    refine kg_call (as := [.ref (17 + 1)]) (rest := []) hk_35 rfl (Or.inr (Or.inr (Or.inr ⟨Or.inl rfl, _, _, rfl, wc_17⟩))) rfl rfl rfl (Nat.not_lt.mpr (Nat.le_of_ble_eq_true rfl)) (p_48_ok hvz9) (by decide) rfl ?_
    refine kg_goto hk_35 rfl ?_
    exact q_35_33_ok hF _ _ _ _
  · refine kg_icT hk_35 rfl (jc_T1 cz8) ?_
    refine kg_iload hk_35 rfl rfl rfl ?_
    refine kg_push (x := 2) hk_35 rfl (by decide) rfl ?_
    refine wf_if hF (fun cz13 hF => ?_) (fun cz13 hF => ?_)
    · refine kg_icF hk_35 rfl (jc_F1 cz13) rfl ?_
      refine kg_aload hk_35 rfl rfl rfl ?_
      refine wf_bind hF (fun vz14 hvz14 hF => ?_)
      refine kg_call (as := [.ref (17 + 1)]) (rest := []) hk_35 rfl (Or.inr (Or.inr (Or.inr ⟨Or.inl rfl, _, _, rfl, wc_17⟩))) rfl rfl rfl (Nat.not_lt.mpr (Nat.le_of_ble_eq_true rfl)) (p_50_ok hvz14) (by decide) rfl ?_
      refine kg_goto hk_35 rfl ?_
      exact q_35_33_ok hF _ _ _ _
    · refine kg_icT hk_35 rfl (jc_T1 cz13) ?_
      refine kg_aload hk_35 rfl rfl rfl ?_
      refine wf_bind hF (fun vz15 hvz15 hF => ?_)
      refine kg_call (as := [.ref (17 + 1)]) (rest := []) hk_35 rfl (Or.inr (Or.inr (Or.inr ⟨Or.inl rfl, _, _, rfl, wc_17⟩))) rfl rfl rfl (Nat.not_lt.mpr (Nat.le_of_ble_eq_true rfl)) (p_39_ok hvz15) (by decide) rfl ?_
      exact q_35_33_ok hF _ _ _ _
-- NotebookWeir$Source.begin(LNotebookWeir$Draws;LNotebookWeir$Text;ZZ)V
theorem hk_53 : jP[53]? = some (jc_53, 5, [], []) := by rfl
def q_53_12 (h : Hp) (q1 : Nat) (q2 : Nat) (x4 : Int32) (s0 : Int32) : Option (Hp) :=
  w_let (w_up h 40 4 s0) fun hz2 =>
  w_let (w_up hz2 40 2 (Int32.ofNat q1)) fun hz3 =>
  w_let (w_up hz3 40 3 0) fun hz4 =>
  w_gd (w_bo x4) <|
  w_let (w_up hz4 40 5 x4) fun hz5 =>
  if x4 = 0 then
    (some hz5)
  else
    ((p_61 hz5 (q1 + 1) q2).bind fun vz8 =>
    w_let (w_up vz8 q1 2 0) fun hz9 =>
    some hz9)
theorem q_53_12_ok {X : List Int32}   {h : Hp} {q1 : Nat} {q2 : Nat} {s0 : Int32} {x4 : Int32} (t1 : w_ob q1 2) (t2 : w_ob q2 7) {r : Hp} (hF : q_53_12 h q1 q2 x4 s0 = some r)  : ∀ (u3 : Value), k_Go X 1 53 (12, [.ref (40 + 1), .ref (q1 + 1), .ref (q2 + 1), u3, .int x4], [.int s0, .ref (40 + 1)]) h (.inl none, r) := by
  intro u3
  unfold q_53_12 at hF
  refine wf_let hF (fun hz2 hhz2 hF => ?_)
  refine kg_put hk_53 rfl wk_40_4 rfl rfl hhz2 rfl ?_
  refine kg_aload hk_53 rfl rfl rfl ?_
  refine kg_aload hk_53 rfl rfl rfl ?_
  refine wf_let hF (fun hz3 hhz3 hF => ?_)
  refine kg_put hk_53 rfl wk_40_2 (w_mr t1) rfl hhz3 rfl ?_
  refine kg_aload hk_53 rfl rfl rfl ?_
  refine kg_push (x := 0) hk_53 rfl (by decide) rfl ?_
  refine wf_let hF (fun hz4 hhz4 hF => ?_)
  refine kg_put hk_53 rfl wk_40_3 rfl rfl hhz4 rfl ?_
  refine kg_aload hk_53 rfl rfl rfl ?_
  refine kg_iload hk_53 rfl rfl rfl ?_
  refine wf_gd hF (fun gz6 hF => ?_)
  refine wf_let hF (fun hz5 hhz5 hF => ?_)
  refine kg_put hk_53 rfl wk_40_5 rfl (w_fitB gz6) hhz5 rfl ?_
  refine kg_iload hk_53 rfl rfl rfl ?_
  refine wf_if hF (fun cz7 hF => ?_) (fun cz7 hF => ?_)
  · refine kg_ifT hk_53 rfl (jc_T0 cz7) ?_
    have hF := Option.some.inj hF
    subst hF
    exact kg_ret hk_53 rfl rfl
  · refine kg_ifF hk_53 rfl (jc_F0 cz7) rfl ?_
    refine kg_aload hk_53 rfl rfl rfl ?_
    refine kg_get (v := .ref ((q1 + 1) + 1)) hk_53 rfl (wf_2_0 t1) rfl rfl ?_
    refine kg_aload hk_53 rfl rfl rfl ?_
    refine wf_bind hF (fun vz8 hvz8 hF => ?_)
    refine kg_call (as := [.ref ((q1 + 1) + 1), .ref (q2 + 1)]) (rest := []) hk_53 rfl (Or.inr (Or.inr (Or.inr ⟨Or.inl rfl, _, _, rfl, (wo_2_0 t1)⟩))) rfl rfl rfl (Nat.not_lt.mpr (Nat.le_of_ble_eq_true rfl)) (p_61_ok (wo_2_0 t1) t2 hvz8) (by decide) rfl ?_
    refine kg_aload hk_53 rfl rfl rfl ?_
    refine kg_push (x := 0) hk_53 rfl (by decide) rfl ?_
    refine wf_let hF (fun hz9 hhz9 hF => ?_)
    refine kg_put hk_53 rfl (wf_2_2 t1) rfl rfl hhz9 rfl ?_
    have hF := Option.some.inj hF
    subst hF
    exact kg_ret hk_53 rfl rfl
def q_53_11 (h : Hp) (q1 : Nat) (q2 : Nat) (x4 : Int32) : Option (Hp) :=
  q_53_12 h q1 q2 x4 0
theorem q_53_11_ok {X : List Int32}   {h : Hp} {q1 : Nat} {q2 : Nat} {x4 : Int32} (t1 : w_ob q1 2) (t2 : w_ob q2 7) {r : Hp} (hF : q_53_11 h q1 q2 x4 = some r)  : ∀ (u3 : Value), k_Go X 1 53 (11, [.ref (40 + 1), .ref (q1 + 1), .ref (q2 + 1), u3, .int x4], [.ref (40 + 1)]) h (.inl none, r) := by
  intro u3
  unfold q_53_11 at hF
  refine kg_push (x := 0) hk_53 rfl (by decide) rfl ?_
  exact q_53_12_ok t1 t2 hF _
def p_53 (h : Hp) (q1 : Nat) (q2 : Nat) (x3 : Int32) (x4 : Int32) : Option (Hp) :=
  if x3 = 0 then
    (q_53_11 h q1 q2 x4)
  else
    ((p_60 h (q1 + 1) q2).bind fun vz10 =>
    q_53_12 h q1 q2 x4 (if vz10 = 0 then 0 else (h q1 2) : Int32))
theorem p_53_ok {X : List Int32}  {h : Hp} {q1 : Nat} {q2 : Nat} {x3 : Int32} {x4 : Int32} (t1 : w_ob q1 2) (t2 : w_ob q2 7) {r : Hp} (hF : p_53 h q1 q2 x3 x4 = some r) : k_Ev X 1 53 [.ref (40 + 1), .ref (q1 + 1), .ref (q2 + 1), .int x3, .int x4] h (.inl none, r) := by
  refine k_of hk_53 ?_
  show k_Go X 1 53 (0, [.ref (40 + 1), .ref (q1 + 1), .ref (q2 + 1), .int x3, .int x4], []) h _
  unfold p_53 at hF
  refine kg_aload hk_53 rfl rfl rfl ?_
  refine kg_iload hk_53 rfl rfl rfl ?_
  refine wf_if hF (fun cz1 hF => ?_) (fun cz1 hF => ?_)
  · refine kg_ifT hk_53 rfl (jc_T0 cz1) ?_
    exact q_53_11_ok t1 t2 hF _
  · refine kg_ifF hk_53 rfl (jc_F0 cz1) rfl ?_
    refine kg_aload hk_53 rfl rfl rfl ?_
    refine kg_get (v := .ref ((q1 + 1) + 1)) hk_53 rfl (wf_2_0 t1) rfl rfl ?_
    refine kg_aload hk_53 rfl rfl rfl ?_
    refine wf_bind hF (fun vz10 hvz10 hF => ?_)
    refine kg_call (as := [.ref ((q1 + 1) + 1), .ref (q2 + 1)]) (rest := [.ref (40 + 1)]) hk_53 rfl (Or.inr (Or.inr (Or.inr ⟨Or.inl rfl, _, _, rfl, (wo_2_0 t1)⟩))) rfl rfl rfl (Nat.not_lt.mpr (Nat.le_of_ble_eq_true rfl)) (p_60_ok (wo_2_0 t1) t2 hvz10) (by decide) rfl ?_
    refine kv_mid (p := 12) (L := [.ref (40 + 1), .ref (q1 + 1), .ref (q2 + 1), .int x3, .int x4]) (S := [.int (if vz10 = 0 then 0 else (h q1 2) : Int32), .ref (40 + 1)]) ?_ (fun hK => ?_)
    · exact q_53_12_ok t1 t2 hF _
    · by_cases cz11 : vz10 = 0
      · have hK := kv_T cz11 hK
        refine kg_ifT hk_53 rfl (jc_T0 cz11) ?_
        refine kg_push (x := 0) hk_53 rfl (by decide) rfl ?_
        exact hK
      · have hK := kv_F cz11 hK
        refine kg_ifF hk_53 rfl (jc_F0 cz11) rfl ?_
        refine kg_aload hk_53 rfl rfl rfl ?_
        refine kg_get (v := .int (h q1 2)) hk_53 rfl (wf_2_2 t1) rfl rfl ?_
        refine kg_goto hk_53 rfl ?_
        exact hK
-- NotebookWeir$Text.add(C)Z
theorem hk_56 : jP[56]? = some (jc_56, 2, [], []) := by rfl
def p_56 (h : Hp) (q0 : Nat) (x1 : Int32) : Option (Int32 × Hp) :=
  if (h q0 1) < 40 then
    (w_gd (w_ix (h q0 1) 40) <|
    w_let (w_up h (q0 + 1) ((h q0 1).toNatClampNeg) (j_nar 51 x1)) fun hz3 =>
    w_let (w_up hz3 q0 1 ((hz3 q0 1) + 1)) fun hz4 =>
    some (1, hz4))
  else
    (some (0, h))
theorem p_56_ok {X : List Int32}  {h : Hp} {q0 : Nat} {x1 : Int32} (t0 : w_ob q0 7) {r : Int32 × Hp} (hF : p_56 h q0 x1 = some r) : k_Ev X 0 56 [.ref (q0 + 1), .int x1] h (.inl (some (.int r.1)), r.2) := by
  refine k_of hk_56 ?_
  show k_Go X 0 56 (0, [.ref (q0 + 1), .int x1], []) h _
  unfold p_56 at hF
  refine kg_aload hk_56 rfl rfl rfl ?_
  refine kg_get (v := .int (h q0 1)) hk_56 rfl (wf_7_1 t0) rfl rfl ?_
  refine kg_push (x := 40) hk_56 rfl (by decide) rfl ?_
  refine wf_if hF (fun cz1 hF => ?_) (fun cz1 hF => ?_)
  · refine kg_icT hk_56 rfl (jc_T2 cz1) ?_
    refine kg_aload hk_56 rfl rfl rfl ?_
    refine kg_get (v := .ref ((q0 + 1) + 1)) hk_56 rfl (wf_7_0 t0) rfl rfl ?_
    refine kg_aload hk_56 rfl rfl rfl ?_
    refine kg_get (v := .int (h q0 1)) hk_56 rfl (wf_7_1 t0) rfl rfl ?_
    refine kg_iload hk_56 rfl rfl rfl ?_
    refine wf_gd hF (fun gz2 hF => ?_)
    refine wf_let hF (fun hz3 hhz3 hF => ?_)
    refine kg_ast hk_56 rfl (wo_7_0 t0) gz2 hhz3 rfl ?_
    refine kg_aload hk_56 rfl rfl rfl ?_
    refine kg_dup hk_56 rfl rfl rfl ?_
    refine kg_get (v := .int (hz3 q0 1)) hk_56 rfl (wf_7_1 t0) rfl rfl ?_
    refine kg_push (x := 1) hk_56 rfl (by decide) rfl ?_
    refine kg_bin (z := ((hz3 q0 1) + 1)) hk_56 rfl rfl rfl ?_
    refine wf_let hF (fun hz4 hhz4 hF => ?_)
    refine kg_put hk_56 rfl (wf_7_1 t0) rfl rfl hhz4 rfl ?_
    refine kg_push (x := 1) hk_56 rfl (by decide) rfl ?_
    have hF := Option.some.inj hF
    subst hF
    exact kg_iret hk_56 rfl (Or.inr rfl) rfl
  · refine kg_icF hk_56 rfl (jc_F2 cz1) rfl ?_
    refine kg_push (x := 0) hk_56 rfl (by decide) rfl ?_
    have hF := Option.some.inj hF
    subst hF
    exact kg_iret hk_56 rfl (Or.inr rfl) rfl
-- NotebookWeir$Text.clear()V
theorem hk_57 : jP[57]? = some (jc_57, 1, [], []) := by rfl
def p_57 (h : Hp) (q0 : Nat) : Option (Hp) :=
  w_let (w_up h q0 1 0) fun hz1 =>
  some hz1
theorem p_57_ok {X : List Int32}  {h : Hp} {q0 : Nat} (t0 : w_ob q0 7) {r : Hp} (hF : p_57 h q0 = some r) : k_Ev X 0 57 [.ref (q0 + 1)] h (.inl none, r) := by
  refine k_of hk_57 ?_
  show k_Go X 0 57 (0, [.ref (q0 + 1)], []) h _
  unfold p_57 at hF
  refine kg_aload hk_57 rfl rfl rfl ?_
  refine kg_push (x := 0) hk_57 rfl (by decide) rfl ?_
  refine wf_let hF (fun hz1 hhz1 hF => ?_)
  refine kg_put hk_57 rfl (wf_7_1 t0) rfl rfl hhz1 rfl ?_
  have hF := Option.some.inj hF
  subst hF
  exact kg_ret hk_57 rfl rfl
-- NotebookWeir$Values.areNumbersAlone()Z
theorem hk_74 : jP[74]? = some (jc_74, 2, [], []) := by rfl
def l_74_2 (h : Hp) (q0 : Nat) (x1 : Int32) : Option ((Int32) ⊕ Int32) :=
  if x1 < 27 then
    (w_gd (w_ix x1 27) <|
    if (h (q0 + 1) x1.toNatClampNeg) < 2 then
      (some (.inl (x1 + 1)))
    else
      (some (.inr 0)))
  else
    (some (.inr 1))
theorem l_74_2_st {X : List Int32} {o : kO}  {h : Hp} {q0 : Nat} {x1 : Int32} (t0 : w_ob q0 8) {r : (Int32) ⊕ Int32} (hF : l_74_2 h q0 x1 = some r) (hK : ∀ s' : Int32, r = .inl s' → k_Go X 0 74 (2, [.ref (q0 + 1), .int (s')], []) h o) (hX0 : ∀ e : Int32, r = .inr e → (.inl (some (.int e)), h) = o) : k_Go X 0 74 (2, [.ref (q0 + 1), .int x1], []) h o := by
  refine kg_iload hk_74 rfl rfl rfl ?_
  refine kg_push (x := 27) hk_74 rfl (by decide) rfl ?_
  refine wf_if hF (fun cz1 hF => ?_) (fun cz1 hF => ?_)
  · refine kg_icF hk_74 rfl (jc_F3 cz1) rfl ?_
    refine kg_aload hk_74 rfl rfl rfl ?_
    refine kg_get (v := .ref ((q0 + 1) + 1)) hk_74 rfl (wf_8_0 t0) rfl rfl ?_
    refine kg_iload hk_74 rfl rfl rfl ?_
    refine wf_gd hF (fun gz2 hF => ?_)
    refine kg_ald (y := (h (q0 + 1) x1.toNatClampNeg)) hk_74 rfl (wo_8_0 t0) gz2 rfl rfl ?_
    refine kg_push (x := 2) hk_74 rfl (by decide) rfl ?_
    refine wf_if hF (fun cz3 hF => ?_) (fun cz3 hF => ?_)
    · refine kg_icT hk_74 rfl (jc_T2 cz3) ?_
      refine kg_iinc (y := (x1 + 1)) (L2 := [.ref (q0 + 1), .int (x1 + 1)]) hk_74 rfl rfl rfl rfl rfl ?_
      refine kg_goto hk_74 rfl ?_
      have hF := Option.some.inj hF
      exact hK _ hF.symm
    · refine kg_icF hk_74 rfl (jc_F2 cz3) rfl ?_
      refine kg_push (x := 0) hk_74 rfl (by decide) rfl ?_
      have hF := Option.some.inj hF
      exact kg_iret hk_74 rfl (Or.inr rfl) (hX0 _ hF.symm)
  · refine kg_icT hk_74 rfl (jc_T3 cz1) ?_
    refine kg_push (x := 1) hk_74 rfl (by decide) rfl ?_
    have hF := Option.some.inj hF
    exact kg_iret hk_74 rfl (Or.inr rfl) (hX0 _ hF.symm)
theorem l_74_2_ok {X : List Int32} {o : kO}  {h : Hp} {q0 : Nat} (t0 : w_ob q0 8) {n : Nat} {s : Int32} {e : Int32} (hF : w_lp (fun (s : Int32) => l_74_2 h q0 s) n s = some e) (hX0 : (.inl (some (.int e)), h) = o) : k_Go X 0 74 (2, [.ref (q0 + 1), .int s], []) h o := by
  exact w_lp_ok (P := (fun (s : Int32) => k_Go X 0 74 (2, [.ref (q0 + 1), .int s], []) h o)) (Q := (fun (e : Int32) => ((.inl (some (.int e)), h) = o))) (fun s r hF hK hX => l_74_2_st t0 hF hK (fun x hx => (hX _ hx))) n s e hF hX0
def p_74 (h : Hp) (q0 : Nat) : Option (Int32) :=
  w_lp (fun (s : Int32) => l_74_2 h q0 s) w_N 0
theorem p_74_ok {X : List Int32}  {h : Hp} {q0 : Nat} (t0 : w_ob q0 8) {r : Int32} (hF : p_74 h q0 = some r) : k_Ev X 0 74 [.ref (q0 + 1)] h (.inl (some (.int r)), h) := by
  refine k_of hk_74 ?_
  show k_Go X 0 74 (0, [.ref (q0 + 1), (.retAddr 0)], []) h _
  unfold p_74 at hF
  refine kg_push (x := 0) hk_74 rfl (by decide) rfl ?_
  refine kg_istore (L2 := [.ref (q0 + 1), .int 0]) hk_74 rfl (Nat.le_of_ble_eq_true rfl) rfl rfl ?_
  exact l_74_2_ok t0 hF rfl
-- NotebookWeir$Values.answers(II)Z
theorem hk_75 : jP[75]? = some (jc_75, 3, [], []) := by rfl
def v_75 (h : Hp) (q0 : Nat) (x1 : Int32) (x2 : Int32) : Int32 := (if x2 = (-1) then (if (v_63 h q0 x1) = 0 then 0 else 1 : Int32) else (if x2 < 0 then 0 else (if x2 < (v_65 h q0 x1) then 1 else 0 : Int32) : Int32) : Int32)
def g_75 (h : Hp) (q0 : Nat) (x1 : Int32) (x2 : Int32) : Bool := (if x2 = (-1) then g_63 q0 x1 else (if x2 < 0 then true else g_65 h q0 x1))
theorem v_75_bo (h : Hp) (q0 : Nat) (x1 : Int32) (x2 : Int32) : w_bo (v_75 h q0 x1 x2) = true := by
  unfold v_75
  exact (w_boi (w_boi rfl rfl) (w_boi rfl (w_boi rfl rfl)))
theorem v_75_ok {X : List Int32} {h : Hp} {q0 : Nat} {x1 : Int32} {x2 : Int32} (t0 : w_ob q0 8) (hg : g_75 h q0 x1 x2 = true) : k_Ev X 1 75 [.ref (q0 + 1), .int x1, .int x2] h (.inl (some (.int (v_75 h q0 x1 x2))), h) := by
  refine k_of hk_75 ?_
  show k_Go X 1 75 (0, [.ref (q0 + 1), .int x1, .int x2], []) h _
  generalize hv : v_75 h q0 x1 x2 = z
  unfold v_75 at hv
  unfold g_75 at hg
  refine kg_iload hk_75 rfl rfl rfl ?_
  refine kg_push (x := (-1)) hk_75 rfl (by decide) rfl ?_
  by_cases cz1 : x2 = (-1)
  · have hg := wv_T cz1 hg
    have hv := wv_T cz1 hv
    have gz2 := hg
    refine kg_icF hk_75 rfl (jc_F1 cz1) rfl ?_
    refine kg_aload hk_75 rfl rfl rfl ?_
    refine kg_iload hk_75 rfl rfl rfl ?_
    refine kg_call (as := [.ref (q0 + 1), .int x1]) (rest := []) hk_75 rfl (Or.inr (Or.inr (Or.inr ⟨Or.inl rfl, _, _, rfl, t0⟩))) rfl rfl rfl (Nat.not_lt.mpr (Nat.le_of_ble_eq_true rfl)) (v_63_ok t0 gz2) (by decide) rfl ?_
    refine kv_mid (p := 10) (L := [.ref (q0 + 1), .int x1, .int x2]) (S := [.int (if (v_63 h q0 x1) = 0 then 0 else 1 : Int32)]) ?_ (fun hK => ?_)
    · exact kg_iret hk_75 rfl (Or.inr (w_boi rfl rfl)) (by rw [hv])
    · by_cases cz3 : (v_63 h q0 x1) = 0
      · have hK := kv_T cz3 hK
        refine kg_ifT hk_75 rfl (jc_T0 cz3) ?_
        refine kg_push (x := 0) hk_75 rfl (by decide) rfl ?_
        exact hK
      · have hK := kv_F cz3 hK
        refine kg_ifF hk_75 rfl (jc_F0 cz3) rfl ?_
        refine kg_push (x := 1) hk_75 rfl (by decide) rfl ?_
        refine kg_goto hk_75 rfl ?_
        exact hK
  · have hg := wv_F cz1 hg
    have hv := wv_F cz1 hv
    have gz7 := hg
    refine kg_icT hk_75 rfl (jc_T1 cz1) ?_
    refine kg_iload hk_75 rfl rfl rfl ?_
    refine kv_mid (p := 21) (L := [.ref (q0 + 1), .int x1, .int x2]) (S := [.int (if x2 < 0 then 0 else (if x2 < (v_65 h q0 x1) then 1 else 0 : Int32) : Int32)]) ?_ (fun hK => ?_)
    · exact kg_iret hk_75 rfl (Or.inr (w_boi rfl (w_boi rfl rfl))) (by rw [hv])
    · have hg := gz7
      by_cases cz4 : x2 < 0
      · have hK := kv_T cz4 hK
        refine kg_ifT hk_75 rfl (jc_T2 cz4) ?_
        refine kg_push (x := 0) hk_75 rfl (by decide) rfl ?_
        exact hK
      · have hg := wv_F cz4 hg
        have hK := kv_F cz4 hK
        have gz5 := hg
        refine kg_ifF hk_75 rfl (jc_F2 cz4) rfl ?_
        refine kg_iload hk_75 rfl rfl rfl ?_
        refine kg_aload hk_75 rfl rfl rfl ?_
        refine kg_iload hk_75 rfl rfl rfl ?_
        refine kg_call (as := [.ref (q0 + 1), .int x1]) (rest := [.int x2]) hk_75 rfl (Or.inr (Or.inr (Or.inr ⟨Or.inl rfl, _, _, rfl, t0⟩))) rfl rfl rfl (Nat.not_lt.mpr (Nat.le_of_ble_eq_true rfl)) (v_65_ok t0 gz5) (by decide) rfl ?_
        by_cases cz6 : x2 < (v_65 h q0 x1)
        · have hK := kv_T cz6 hK
          refine kg_icF hk_75 rfl (jc_F3 cz6) rfl ?_
          refine kg_push (x := 1) hk_75 rfl (by decide) rfl ?_
          refine kg_goto hk_75 rfl ?_
          exact hK
        · have hK := kv_F cz6 hK
          refine kg_icT hk_75 rfl (jc_T3 cz6) ?_
          refine kg_push (x := 0) hk_75 rfl (by decide) rfl ?_
          exact hK
-- NotebookWeir$Values.answer(II)I
theorem hk_76 : jP[76]? = some (jc_76, 3, [], []) := by rfl
def v_76 (h : Hp) (q0 : Nat) (x1 : Int32) (x2 : Int32) : Int32 := (if x2 = (-1) then (if (v_64 h q0 x1) = 0 then (v_65 h q0 x1) else (v_66 h q0 x1 (if x2 = (-1) then 0 else x2 : Int32)) : Int32) else (v_66 h q0 x1 (if x2 = (-1) then 0 else x2 : Int32)) : Int32)
def g_76 (h : Hp) (q0 : Nat) (x1 : Int32) (x2 : Int32) : Bool := (if x2 = (-1) then (g_64 q0 x1) && ((if (v_64 h q0 x1) = 0 then g_65 h q0 x1 else g_66 q0 x1 (if x2 = (-1) then 0 else x2 : Int32))) else g_66 q0 x1 (if x2 = (-1) then 0 else x2 : Int32))
theorem v_76_ok {X : List Int32} {h : Hp} {q0 : Nat} {x1 : Int32} {x2 : Int32} (t0 : w_ob q0 8) (hg : g_76 h q0 x1 x2 = true) : k_Ev X 1 76 [.ref (q0 + 1), .int x1, .int x2] h (.inl (some (.int (v_76 h q0 x1 x2))), h) := by
  refine k_of hk_76 ?_
  show k_Go X 1 76 (0, [.ref (q0 + 1), .int x1, .int x2], []) h _
  generalize hv : v_76 h q0 x1 x2 = z
  unfold v_76 at hv
  unfold g_76 at hg
  refine kg_iload hk_76 rfl rfl rfl ?_
  refine kg_push (x := (-1)) hk_76 rfl (by decide) rfl ?_
  by_cases cz1 : x2 = (-1)
  · have hg := wv_T cz1 hg
    have hv := wv_T cz1 hv
    have gz2 := wb_1 hg
    have hg := wb_2 hg
    refine kg_icF hk_76 rfl (jc_F1 cz1) rfl ?_
    refine kg_aload hk_76 rfl rfl rfl ?_
    refine kg_iload hk_76 rfl rfl rfl ?_
    refine kg_call (as := [.ref (q0 + 1), .int x1]) (rest := []) hk_76 rfl (Or.inr (Or.inr (Or.inr ⟨Or.inl rfl, _, _, rfl, t0⟩))) rfl rfl rfl (Nat.not_lt.mpr (Nat.le_of_ble_eq_true rfl)) (v_64_ok t0 gz2) (by decide) rfl ?_
    by_cases cz3 : (v_64 h q0 x1) = 0
    · have hg := wv_T cz3 hg
      have hv := wv_T cz3 hv
      have gz4 := hg
      refine kg_ifF hk_76 rfl (jc_F1 cz3) rfl ?_
      refine kg_aload hk_76 rfl rfl rfl ?_
      refine kg_iload hk_76 rfl rfl rfl ?_
      refine kg_call (as := [.ref (q0 + 1), .int x1]) (rest := []) hk_76 rfl (Or.inr (Or.inr (Or.inr ⟨Or.inl rfl, _, _, rfl, t0⟩))) rfl rfl rfl (Nat.not_lt.mpr (Nat.le_of_ble_eq_true rfl)) (v_65_ok t0 gz4) (by decide) rfl ?_
      exact kg_iret hk_76 rfl (Or.inl rfl) (by rw [hv])
    · have hg := wv_F cz3 hg
      have hv := wv_F cz3 hv
      have gz6 := hg
      refine kg_ifT hk_76 rfl (jc_T1 cz3) ?_
      refine kg_aload hk_76 rfl rfl rfl ?_
      refine kg_iload hk_76 rfl rfl rfl ?_
      refine kg_iload hk_76 rfl rfl rfl ?_
      refine kg_push (x := (-1)) hk_76 rfl (by decide) rfl ?_
      refine kv_mid (p := 19) (L := [.ref (q0 + 1), .int x1, .int x2]) (S := [.int (if x2 = (-1) then 0 else x2 : Int32), .int x1, .ref (q0 + 1)]) ?_ (fun hK => ?_)
      · refine kg_call (as := [.ref (q0 + 1), .int x1, .int (if x2 = (-1) then 0 else x2 : Int32)]) (rest := []) hk_76 rfl (Or.inr (Or.inr (Or.inr ⟨Or.inl rfl, _, _, rfl, t0⟩))) rfl rfl rfl (Nat.not_lt.mpr (Nat.le_of_ble_eq_true rfl)) (v_66_ok t0 gz6) (by decide) rfl ?_
        exact kg_iret hk_76 rfl (Or.inl rfl) (by rw [hv])
      · by_cases cz5 : x2 = (-1)
        · have hK := kv_T cz5 hK
          refine kg_icF hk_76 rfl (jc_F1 cz5) rfl ?_
          refine kg_push (x := 0) hk_76 rfl (by decide) rfl ?_
          refine kg_goto hk_76 rfl ?_
          exact hK
        · have hK := kv_F cz5 hK
          refine kg_icT hk_76 rfl (jc_T1 cz5) ?_
          refine kg_iload hk_76 rfl rfl rfl ?_
          exact hK
  · have hg := wv_F cz1 hg
    have hv := wv_F cz1 hv
    have gz8 := hg
    refine kg_icT hk_76 rfl (jc_T1 cz1) ?_
    refine kg_aload hk_76 rfl rfl rfl ?_
    refine kg_iload hk_76 rfl rfl rfl ?_
    refine kg_iload hk_76 rfl rfl rfl ?_
    refine kg_push (x := (-1)) hk_76 rfl (by decide) rfl ?_
    refine kv_mid (p := 19) (L := [.ref (q0 + 1), .int x1, .int x2]) (S := [.int (if x2 = (-1) then 0 else x2 : Int32), .int x1, .ref (q0 + 1)]) ?_ (fun hK => ?_)
    · refine kg_call (as := [.ref (q0 + 1), .int x1, .int (if x2 = (-1) then 0 else x2 : Int32)]) (rest := []) hk_76 rfl (Or.inr (Or.inr (Or.inr ⟨Or.inl rfl, _, _, rfl, t0⟩))) rfl rfl rfl (Nat.not_lt.mpr (Nat.le_of_ble_eq_true rfl)) (v_66_ok t0 gz8) (by decide) rfl ?_
      exact kg_iret hk_76 rfl (Or.inl rfl) (by rw [hv])
    · by_cases cz7 : x2 = (-1)
      · have hK := kv_T cz7 hK
        refine kg_icF hk_76 rfl (jc_F1 cz7) rfl ?_
        refine kg_push (x := 0) hk_76 rfl (by decide) rfl ?_
        refine kg_goto hk_76 rfl ?_
        exact hK
      · have hK := kv_F cz7 hK
        refine kg_icT hk_76 rfl (jc_T1 cz7) ?_
        refine kg_iload hk_76 rfl rfl rfl ?_
        exact hK
-- NotebookWeir$Web.noteName(I[LNotebookWeir$Cell;LNotebookWeir$Widgets;)V
theorem hk_79 : jP[79]? = some (jc_79, 5, [], []) := by rfl
def q_79_34 (h : Hp) (x1 : Int32) (x4 : Int32) (s0 : Int32) (s1 : Int32) (s2 : Int32) : Option ((Int32 × Hp) ⊕ Hp) :=
  w_gd (w_ix s2 26) <|
  w_let (w_up h 12 s2.toNatClampNeg (s1 ||| s0)) fun hz11 =>
  w_gd (w_ix x1 26) <|
  w_gd (w_ix x4 16) <|
  w_gd (w_ix x1 26) <|
  w_let (w_up hz11 13 x1.toNatClampNeg ((hz11 13 x1.toNatClampNeg) ||| (if (v_126 (hz11 (64 * x4.toNatClampNeg + 55) 6) x1) = 0 then 0 else (1 <<< (x4 &&& 31)) : Int32))) fun hz17 =>
  some (.inl ((x4 + 1), hz17))
theorem q_79_34_ok {X : List Int32} {o : kO}  {h : Hp} {s0 : Int32} {s1 : Int32} {s2 : Int32} {x1 : Int32} {x4 : Int32}  {r : (Int32 × Hp) ⊕ Hp} (hF : q_79_34 h x1 x4 s0 s1 s2 = some r) (hK : ∀ s' : Int32 × Hp, r = .inl s' → k_Go X 1 79 (12, [.ref (11 + 1), .int x1, .ref (2 + 1), .ref (4 + 1), .int (s'.1)], []) s'.2 o) (hX0 : ∀ e : Hp, r = .inr e → ∀ (u2 : Value) (u4 : Value), k_Go X 1 79 (58, [.ref (11 + 1), .int x1, u2, .ref (4 + 1), u4], []) e o) : k_Go X 1 79 (34, [.ref (11 + 1), .int x1, .ref (2 + 1), .ref (4 + 1), .int x4], [.int s0, .int s1, .int s2, .ref (12 + 1)]) h o := by
  unfold q_79_34 at hF
  refine kg_bin (z := (s1 ||| s0)) hk_79 rfl rfl rfl ?_
  refine wf_gd hF (fun gz10 hF => ?_)
  refine wf_let hF (fun hz11 hhz11 hF => ?_)
  refine kg_ast hk_79 rfl wc_12 gz10 hhz11 rfl ?_
  refine kg_aload hk_79 rfl rfl rfl ?_
  refine kg_get (v := .ref (13 + 1)) hk_79 rfl wk_11_1 rfl rfl ?_
  refine kg_iload hk_79 rfl rfl rfl ?_
  refine kg_dup2 hk_79 rfl ⟨rfl, rfl⟩ rfl ?_
  refine wf_gd hF (fun gz12 hF => ?_)
  refine kg_ald (y := (hz11 13 x1.toNatClampNeg)) hk_79 rfl wc_13 gz12 rfl rfl ?_
  refine kg_aload hk_79 rfl rfl rfl ?_
  refine kg_iload hk_79 rfl rfl rfl ?_
  refine wf_gd hF (fun gz13 hF => ?_)
  have hez14 := w_E we_61 wc_2 gz13
  refine kg_aald (y := (64 * x4.toNatClampNeg + 52)) hk_79 rfl gz13 hez14.1 rfl ?_
  refine kg_get (v := .ref ((64 * x4.toNatClampNeg + 55) + 1)) hk_79 rfl (wf_0_1 hez14.2) rfl rfl ?_
  refine kg_get (v := .int (hz11 (64 * x4.toNatClampNeg + 55) 6)) hk_79 rfl (wf_1_6 (wo_0_1 hez14.2)) rfl rfl ?_
  refine kg_iload hk_79 rfl rfl rfl ?_
  refine kg_call (as := [.int (hz11 (64 * x4.toNatClampNeg + 55) 6), .int x1]) (rest := [.int (hz11 13 x1.toNatClampNeg), .int x1, .ref (13 + 1)]) hk_79 rfl (Or.inr (Or.inl rfl)) rfl rfl rfl (Nat.not_lt.mpr (Nat.le_of_ble_eq_true rfl)) (v_126_ok) (by decide) rfl ?_
  refine kv_mid (p := 54) (L := [.ref (11 + 1), .int x1, .ref (2 + 1), .ref (4 + 1), .int x4]) (S := [.int (if (v_126 (hz11 (64 * x4.toNatClampNeg + 55) 6) x1) = 0 then 0 else (1 <<< (x4 &&& 31)) : Int32), .int (hz11 13 x1.toNatClampNeg), .int x1, .ref (13 + 1)]) ?_ (fun hK => ?_)
  · refine kg_bin (z := ((hz11 13 x1.toNatClampNeg) ||| (if (v_126 (hz11 (64 * x4.toNatClampNeg + 55) 6) x1) = 0 then 0 else (1 <<< (x4 &&& 31)) : Int32))) hk_79 rfl rfl rfl ?_
    refine wf_gd hF (fun gz16 hF => ?_)
    refine wf_let hF (fun hz17 hhz17 hF => ?_)
    refine kg_ast hk_79 rfl wc_13 gz16 hhz17 rfl ?_
    refine kg_iinc (y := (x4 + 1)) (L2 := [.ref (11 + 1), .int x1, .ref (2 + 1), .ref (4 + 1), .int (x4 + 1)]) hk_79 rfl rfl rfl rfl rfl ?_
    refine kg_goto hk_79 rfl ?_
    have hF := Option.some.inj hF
    exact hK _ hF.symm
  · by_cases cz15 : (v_126 (hz11 (64 * x4.toNatClampNeg + 55) 6) x1) = 0
    · have hK := kv_T cz15 hK
      refine kg_ifT hk_79 rfl (jc_T0 cz15) ?_
      refine kg_push (x := 0) hk_79 rfl (by decide) rfl ?_
      exact hK
    · have hK := kv_F cz15 hK
      refine kg_ifF hk_79 rfl (jc_F0 cz15) rfl ?_
      refine kg_push (x := 1) hk_79 rfl (by decide) rfl ?_
      refine kg_iload hk_79 rfl rfl rfl ?_
      refine kg_bin (z := (1 <<< (x4 &&& 31))) hk_79 rfl rfl rfl ?_
      refine kg_goto hk_79 rfl ?_
      exact hK
def l_79_12 (x1 : Int32) (x4 : Int32) (h : Hp) : Option ((Int32 × Hp) ⊕ Hp) :=
  if x4 < (h 11 8) then
    (w_gd (w_ix x1 26) <|
    w_gd (w_ix x4 16) <|
    q_79_34 h x1 x4 (if (v_126 (h (64 * x4.toNatClampNeg + 55) 5) x1) = 0 then 0 else (1 <<< (x4 &&& 31)) : Int32) (h 12 x1.toNatClampNeg) x1)
  else
    (some (.inr h))
theorem l_79_12_st {X : List Int32} {o : kO}  {h : Hp} {x1 : Int32} {x4 : Int32}  {r : (Int32 × Hp) ⊕ Hp} (hF : l_79_12 x1 x4 h = some r) (hK : ∀ s' : Int32 × Hp, r = .inl s' → k_Go X 1 79 (12, [.ref (11 + 1), .int x1, .ref (2 + 1), .ref (4 + 1), .int (s'.1)], []) s'.2 o) (hX0 : ∀ e : Hp, r = .inr e → ∀ (u2 : Value) (u4 : Value), k_Go X 1 79 (58, [.ref (11 + 1), .int x1, u2, .ref (4 + 1), u4], []) e o) : k_Go X 1 79 (12, [.ref (11 + 1), .int x1, .ref (2 + 1), .ref (4 + 1), .int x4], []) h o := by
  refine kg_iload hk_79 rfl rfl rfl ?_
  refine kg_aload hk_79 rfl rfl rfl ?_
  refine kg_get (v := .int (h 11 8)) hk_79 rfl wk_11_8 rfl rfl ?_
  refine wf_if hF (fun cz5 hF => ?_) (fun cz5 hF => ?_)
  · refine kg_icF hk_79 rfl (jc_F3 cz5) rfl ?_
    refine kg_aload hk_79 rfl rfl rfl ?_
    refine kg_get (v := .ref (12 + 1)) hk_79 rfl wk_11_0 rfl rfl ?_
    refine kg_iload hk_79 rfl rfl rfl ?_
    refine kg_dup2 hk_79 rfl ⟨rfl, rfl⟩ rfl ?_
    refine wf_gd hF (fun gz6 hF => ?_)
    refine kg_ald (y := (h 12 x1.toNatClampNeg)) hk_79 rfl wc_12 gz6 rfl rfl ?_
    refine kg_aload hk_79 rfl rfl rfl ?_
    refine kg_iload hk_79 rfl rfl rfl ?_
    refine wf_gd hF (fun gz7 hF => ?_)
    have hez8 := w_E we_61 wc_2 gz7
    refine kg_aald (y := (64 * x4.toNatClampNeg + 52)) hk_79 rfl gz7 hez8.1 rfl ?_
    refine kg_get (v := .ref ((64 * x4.toNatClampNeg + 55) + 1)) hk_79 rfl (wf_0_1 hez8.2) rfl rfl ?_
    refine kg_get (v := .int (h (64 * x4.toNatClampNeg + 55) 5)) hk_79 rfl (wf_1_5 (wo_0_1 hez8.2)) rfl rfl ?_
    refine kg_iload hk_79 rfl rfl rfl ?_
    refine kg_call (as := [.int (h (64 * x4.toNatClampNeg + 55) 5), .int x1]) (rest := [.int (h 12 x1.toNatClampNeg), .int x1, .ref (12 + 1)]) hk_79 rfl (Or.inr (Or.inl rfl)) rfl rfl rfl (Nat.not_lt.mpr (Nat.le_of_ble_eq_true rfl)) (v_126_ok) (by decide) rfl ?_
    refine kv_mid (p := 34) (L := [.ref (11 + 1), .int x1, .ref (2 + 1), .ref (4 + 1), .int x4]) (S := [.int (if (v_126 (h (64 * x4.toNatClampNeg + 55) 5) x1) = 0 then 0 else (1 <<< (x4 &&& 31)) : Int32), .int (h 12 x1.toNatClampNeg), .int x1, .ref (12 + 1)]) ?_ (fun hK => ?_)
    · exact q_79_34_ok hF hK hX0
    · by_cases cz9 : (v_126 (h (64 * x4.toNatClampNeg + 55) 5) x1) = 0
      · have hK := kv_T cz9 hK
        refine kg_ifT hk_79 rfl (jc_T0 cz9) ?_
        refine kg_push (x := 0) hk_79 rfl (by decide) rfl ?_
        exact hK
      · have hK := kv_F cz9 hK
        refine kg_ifF hk_79 rfl (jc_F0 cz9) rfl ?_
        refine kg_push (x := 1) hk_79 rfl (by decide) rfl ?_
        refine kg_iload hk_79 rfl rfl rfl ?_
        refine kg_bin (z := (1 <<< (x4 &&& 31))) hk_79 rfl rfl rfl ?_
        refine kg_goto hk_79 rfl ?_
        exact hK
  · refine kg_icT hk_79 rfl (jc_T3 cz5) ?_
    have hF := Option.some.inj hF
    exact hX0 _ hF.symm _ _
theorem l_79_12_ok {X : List Int32} {o : kO}  {x1 : Int32}  {n : Nat} {s : Int32 × Hp} {e : Hp} (hF : w_lp (fun (s : Int32 × Hp) => l_79_12 x1 s.1 s.2) n s = some e) (hX0 : ∀ (u2 : Value) (u4 : Value), k_Go X 1 79 (58, [.ref (11 + 1), .int x1, u2, .ref (4 + 1), u4], []) e o) : k_Go X 1 79 (12, [.ref (11 + 1), .int x1, .ref (2 + 1), .ref (4 + 1), .int s.1], []) s.2 o := by
  exact w_lp_ok (P := (fun (s : Int32 × Hp) => k_Go X 1 79 (12, [.ref (11 + 1), .int x1, .ref (2 + 1), .ref (4 + 1), .int s.1], []) s.2 o)) (Q := (fun (e : Hp) => (∀ (u2 : Value) (u4 : Value), k_Go X 1 79 (58, [.ref (11 + 1), .int x1, u2, .ref (4 + 1), u4], []) e o))) (fun s r hF hK hX => l_79_12_st hF hK (fun x hx => (hX _ hx))) n s e hF hX0
def l_79_60 (x1 : Int32) (x4 : Int32) (h : Hp) : Option ((Int32 × Hp) ⊕ Hp) :=
  if x4 < (h 4 7) then
    (w_gd (w_ix x1 26) <|
    w_gd (w_ix x4 4) <|
    w_gd (w_ix x1 26) <|
    w_let (w_up h 12 x1.toNatClampNeg ((h 12 x1.toNatClampNeg) ||| (if (h 5 x4.toNatClampNeg) = x1 then (1 <<< ((16 + x4) &&& 31)) else 0 : Int32))) fun hz24 =>
    some (.inl ((x4 + 1), hz24)))
  else
    (some (.inr h))
theorem l_79_60_st {X : List Int32} {o : kO}  {h : Hp} {x1 : Int32} {x4 : Int32}  {r : (Int32 × Hp) ⊕ Hp} (hF : l_79_60 x1 x4 h = some r) (hK : ∀ s' : Int32 × Hp, r = .inl s' → ∀ (u2 : Value), k_Go X 1 79 (60, [.ref (11 + 1), .int x1, u2, .ref (4 + 1), .int (s'.1)], []) s'.2 o) (hX0 : ∀ e : Hp, r = .inr e → ∀ (u2 : Value) (u3 : Value) (u4 : Value), k_Go X 1 79 (86, [.ref (11 + 1), .int x1, u2, u3, u4], []) e o) : ∀ (u2 : Value), k_Go X 1 79 (60, [.ref (11 + 1), .int x1, u2, .ref (4 + 1), .int x4], []) h o := by
  intro u2
  refine kg_iload hk_79 rfl rfl rfl ?_
  refine kg_aload hk_79 rfl rfl rfl ?_
  refine kg_get (v := .int (h 4 7)) hk_79 rfl wk_4_7 rfl rfl ?_
  refine wf_if hF (fun cz19 hF => ?_) (fun cz19 hF => ?_)
  · refine kg_icF hk_79 rfl (jc_F3 cz19) rfl ?_
    refine kg_aload hk_79 rfl rfl rfl ?_
    refine kg_get (v := .ref (12 + 1)) hk_79 rfl wk_11_0 rfl rfl ?_
    refine kg_iload hk_79 rfl rfl rfl ?_
    refine kg_dup2 hk_79 rfl ⟨rfl, rfl⟩ rfl ?_
    refine wf_gd hF (fun gz20 hF => ?_)
    refine kg_ald (y := (h 12 x1.toNatClampNeg)) hk_79 rfl wc_12 gz20 rfl rfl ?_
    refine kg_aload hk_79 rfl rfl rfl ?_
    refine kg_get (v := .ref (5 + 1)) hk_79 rfl wk_4_0 rfl rfl ?_
    refine kg_iload hk_79 rfl rfl rfl ?_
    refine wf_gd hF (fun gz21 hF => ?_)
    refine kg_ald (y := (h 5 x4.toNatClampNeg)) hk_79 rfl wc_5 gz21 rfl rfl ?_
    refine kg_iload hk_79 rfl rfl rfl ?_
    refine kv_mid (p := 82) (L := [.ref (11 + 1), .int x1, u2, .ref (4 + 1), .int x4]) (S := [.int (if (h 5 x4.toNatClampNeg) = x1 then (1 <<< ((16 + x4) &&& 31)) else 0 : Int32), .int (h 12 x1.toNatClampNeg), .int x1, .ref (12 + 1)]) ?_ (fun hK => ?_)
    · refine kg_bin (z := ((h 12 x1.toNatClampNeg) ||| (if (h 5 x4.toNatClampNeg) = x1 then (1 <<< ((16 + x4) &&& 31)) else 0 : Int32))) hk_79 rfl rfl rfl ?_
      refine wf_gd hF (fun gz23 hF => ?_)
      refine wf_let hF (fun hz24 hhz24 hF => ?_)
      refine kg_ast hk_79 rfl wc_12 gz23 hhz24 rfl ?_
      refine kg_iinc (y := (x4 + 1)) (L2 := [.ref (11 + 1), .int x1, u2, .ref (4 + 1), .int (x4 + 1)]) hk_79 rfl rfl rfl rfl rfl ?_
      refine kg_goto hk_79 rfl ?_
      have hF := Option.some.inj hF
      exact hK _ hF.symm _
    · by_cases cz22 : (h 5 x4.toNatClampNeg) = x1
      · have hK := kv_T cz22 hK
        refine kg_icF hk_79 rfl (jc_F1 cz22) rfl ?_
        refine kg_push (x := 1) hk_79 rfl (by decide) rfl ?_
        refine kg_push (x := 16) hk_79 rfl (by decide) rfl ?_
        refine kg_iload hk_79 rfl rfl rfl ?_
        refine kg_bin (z := (16 + x4)) hk_79 rfl rfl rfl ?_
        refine kg_bin (z := (1 <<< ((16 + x4) &&& 31))) hk_79 rfl rfl rfl ?_
        refine kg_goto hk_79 rfl ?_
        exact hK
      · have hK := kv_F cz22 hK
        refine kg_icT hk_79 rfl (jc_T1 cz22) ?_
        refine kg_push (x := 0) hk_79 rfl (by decide) rfl ?_
        exact hK
  · refine kg_icT hk_79 rfl (jc_T3 cz19) ?_
    have hF := Option.some.inj hF
    exact hX0 _ hF.symm _ _ _
theorem l_79_60_ok {X : List Int32} {o : kO}  {x1 : Int32}  {n : Nat} {s : Int32 × Hp} {e : Hp} (hF : w_lp (fun (s : Int32 × Hp) => l_79_60 x1 s.1 s.2) n s = some e) (hX0 : ∀ (u2 : Value) (u3 : Value) (u4 : Value), k_Go X 1 79 (86, [.ref (11 + 1), .int x1, u2, u3, u4], []) e o) : ∀ (u2 : Value), k_Go X 1 79 (60, [.ref (11 + 1), .int x1, u2, .ref (4 + 1), .int s.1], []) s.2 o := by
  exact w_lp_ok (P := (fun (s : Int32 × Hp) => ∀ (u2 : Value), k_Go X 1 79 (60, [.ref (11 + 1), .int x1, u2, .ref (4 + 1), .int s.1], []) s.2 o)) (Q := (fun (e : Hp) => (∀ (u2 : Value) (u3 : Value) (u4 : Value), k_Go X 1 79 (86, [.ref (11 + 1), .int x1, u2, u3, u4], []) e o))) (fun s r hF hK hX => l_79_60_st hF hK (fun x hx => (hX _ hx))) n s e hF hX0
def p_79 (h : Hp) (x1 : Int32) : Option (Hp) :=
  w_gd (w_ix x1 26) <|
  w_let (w_up h 12 x1.toNatClampNeg 0) fun hz2 =>
  w_gd (w_ix x1 26) <|
  w_let (w_up hz2 13 x1.toNatClampNeg 0) fun hz4 =>
  (w_lp (fun (s : Int32 × Hp) => l_79_12 x1 s.1 s.2) w_N (0, hz4)).bind fun ez18 =>
  (w_lp (fun (s : Int32 × Hp) => l_79_60 x1 s.1 s.2) w_N (0, ez18)).bind fun ez25 =>
  w_gd (w_ix x1 26) <|
  (p_267 ez25 (ez25 12 x1.toNatClampNeg)).bind fun vz27 =>
  if vz27 ≤ 1 then
    (some ez25)
  else
    (w_gd (w_ix x1 26) <|
    w_let (w_up ez25 11 6 ((ez25 11 6) ||| ((ez25 12 x1.toNatClampNeg) &&& 65535))) fun hz30 =>
    some hz30)
theorem p_79_ok {X : List Int32}  {h : Hp} {x1 : Int32}  {r : Hp} (hF : p_79 h x1 = some r) : k_Ev X 1 79 [.ref (11 + 1), .int x1, .ref (2 + 1), .ref (4 + 1)] h (.inl none, r) := by
  refine k_of hk_79 ?_
  show k_Go X 1 79 (0, [.ref (11 + 1), .int x1, .ref (2 + 1), .ref (4 + 1), (.retAddr 0)], []) h _
  unfold p_79 at hF
  refine kg_aload hk_79 rfl rfl rfl ?_
  refine kg_get (v := .ref (12 + 1)) hk_79 rfl wk_11_0 rfl rfl ?_
  refine kg_iload hk_79 rfl rfl rfl ?_
  refine kg_push (x := 0) hk_79 rfl (by decide) rfl ?_
  refine wf_gd hF (fun gz1 hF => ?_)
  refine wf_let hF (fun hz2 hhz2 hF => ?_)
  refine kg_ast hk_79 rfl wc_12 gz1 hhz2 rfl ?_
  refine kg_aload hk_79 rfl rfl rfl ?_
  refine kg_get (v := .ref (13 + 1)) hk_79 rfl wk_11_1 rfl rfl ?_
  refine kg_iload hk_79 rfl rfl rfl ?_
  refine kg_push (x := 0) hk_79 rfl (by decide) rfl ?_
  refine wf_gd hF (fun gz3 hF => ?_)
  refine wf_let hF (fun hz4 hhz4 hF => ?_)
  refine kg_ast hk_79 rfl wc_13 gz3 hhz4 rfl ?_
  refine kg_push (x := 0) hk_79 rfl (by decide) rfl ?_
  refine kg_istore (L2 := [.ref (11 + 1), .int x1, .ref (2 + 1), .ref (4 + 1), .int 0]) hk_79 rfl (Nat.le_of_ble_eq_true rfl) rfl rfl ?_
  refine wf_bind hF (fun ez18 hez18 hF => ?_)
  refine l_79_12_ok hez18 ?_
  intro u2 u4
  refine kg_push (x := 0) hk_79 rfl (by decide) rfl ?_
  refine kg_istore (L2 := [.ref (11 + 1), .int x1, u2, .ref (4 + 1), .int 0]) hk_79 rfl (Nat.le_of_ble_eq_true rfl) rfl rfl ?_
  refine wf_bind hF (fun ez25 hez25 hF => ?_)
  refine l_79_60_ok hez25 ?_ _
  intro u2 u3 u4
  refine kg_aload hk_79 rfl rfl rfl ?_
  refine kg_get (v := .ref (12 + 1)) hk_79 rfl wk_11_0 rfl rfl ?_
  refine kg_iload hk_79 rfl rfl rfl ?_
  refine wf_gd hF (fun gz26 hF => ?_)
  refine kg_ald (y := (ez25 12 x1.toNatClampNeg)) hk_79 rfl wc_12 gz26 rfl rfl ?_
  refine wf_bind hF (fun vz27 hvz27 hF => ?_)
  refine kg_call (as := [.int (ez25 12 x1.toNatClampNeg)]) (rest := []) hk_79 rfl (Or.inl rfl) rfl rfl rfl (Nat.not_lt.mpr (Nat.le_of_ble_eq_true rfl)) (p_267_ok hvz27) (by decide) rfl ?_
  refine kg_push (x := 1) hk_79 rfl (by decide) rfl ?_
  refine wf_if hF (fun cz28 hF => ?_) (fun cz28 hF => ?_)
  · refine kg_icT hk_79 rfl (jc_T5 cz28) ?_
    have hF := Option.some.inj hF
    subst hF
    exact kg_ret hk_79 rfl rfl
  · refine kg_icF hk_79 rfl (jc_F5 cz28) rfl ?_
    refine kg_aload hk_79 rfl rfl rfl ?_
    refine kg_dup hk_79 rfl rfl rfl ?_
    refine kg_get (v := .int (ez25 11 6)) hk_79 rfl wk_11_6 rfl rfl ?_
    refine kg_aload hk_79 rfl rfl rfl ?_
    refine kg_get (v := .ref (12 + 1)) hk_79 rfl wk_11_0 rfl rfl ?_
    refine kg_iload hk_79 rfl rfl rfl ?_
    refine wf_gd hF (fun gz29 hF => ?_)
    refine kg_ald (y := (ez25 12 x1.toNatClampNeg)) hk_79 rfl wc_12 gz29 rfl rfl ?_
    refine kg_push (x := 65535) hk_79 rfl (by decide) rfl ?_
    refine kg_bin (z := ((ez25 12 x1.toNatClampNeg) &&& 65535)) hk_79 rfl rfl rfl ?_
    refine kg_bin (z := ((ez25 11 6) ||| ((ez25 12 x1.toNatClampNeg) &&& 65535))) hk_79 rfl rfl rfl ?_
    refine wf_let hF (fun hz30 hhz30 hF => ?_)
    refine kg_put hk_79 rfl wk_11_6 rfl rfl hhz30 rfl ?_
    have hF := Option.some.inj hF
    subst hF
    exact kg_ret hk_79 rfl rfl
-- NotebookWeir.greatest(I)I
theorem hk_127 : jP[127]? = some (jc_127, 2, [], []) := by rfl
def l_127_2 (h : Hp) (x0 : Int32) (x1 : Int32) : Option ((Int32) ⊕ Int32) :=
  if x1 < 0 then
    (some (.inr (-1)))
  else
    (if (v_126 x0 x1) = 0 then
      (some (.inl (x1 + (-1))))
    else
      (some (.inr x1)))
theorem l_127_2_st {X : List Int32} {o : kO}  {h : Hp} {x0 : Int32} {x1 : Int32}  {r : (Int32) ⊕ Int32} (hF : l_127_2 h x0 x1 = some r) (hK : ∀ s' : Int32, r = .inl s' → k_Go X 1 127 (2, [.int x0, .int (s')], []) h o) (hX0 : ∀ e : Int32, r = .inr e → (.inl (some (.int e)), h) = o) : k_Go X 1 127 (2, [.int x0, .int x1], []) h o := by
  refine kg_iload hk_127 rfl rfl rfl ?_
  refine wf_if hF (fun cz1 hF => ?_) (fun cz1 hF => ?_)
  · refine kg_ifT hk_127 rfl (jc_T2 cz1) ?_
    refine kg_push (x := (-1)) hk_127 rfl (by decide) rfl ?_
    have hF := Option.some.inj hF
    exact kg_iret hk_127 rfl (Or.inl rfl) (hX0 _ hF.symm)
  · refine kg_ifF hk_127 rfl (jc_F2 cz1) rfl ?_
    refine kg_iload hk_127 rfl rfl rfl ?_
    refine kg_iload hk_127 rfl rfl rfl ?_
    refine kg_call (as := [.int x0, .int x1]) (rest := []) hk_127 rfl (Or.inl rfl) rfl rfl rfl (Nat.not_lt.mpr (Nat.le_of_ble_eq_true rfl)) (v_126_ok) (by decide) rfl ?_
    refine wf_if hF (fun cz2 hF => ?_) (fun cz2 hF => ?_)
    · refine kg_ifT hk_127 rfl (jc_T0 cz2) ?_
      refine kg_iinc (y := (x1 + (-1))) (L2 := [.int x0, .int (x1 + (-1))]) hk_127 rfl rfl rfl rfl rfl ?_
      refine kg_goto hk_127 rfl ?_
      have hF := Option.some.inj hF
      exact hK _ hF.symm
    · refine kg_ifF hk_127 rfl (jc_F0 cz2) rfl ?_
      refine kg_iload hk_127 rfl rfl rfl ?_
      have hF := Option.some.inj hF
      exact kg_iret hk_127 rfl (Or.inl rfl) (hX0 _ hF.symm)
theorem l_127_2_ok {X : List Int32} {o : kO}  {h : Hp} {x0 : Int32}  {n : Nat} {s : Int32} {e : Int32} (hF : w_lp (fun (s : Int32) => l_127_2 h x0 s) n s = some e) (hX0 : (.inl (some (.int e)), h) = o) : k_Go X 1 127 (2, [.int x0, .int s], []) h o := by
  exact w_lp_ok (P := (fun (s : Int32) => k_Go X 1 127 (2, [.int x0, .int s], []) h o)) (Q := (fun (e : Int32) => ((.inl (some (.int e)), h) = o))) (fun s r hF hK hX => l_127_2_st hF hK (fun x hx => (hX _ hx))) n s e hF hX0
def p_127 (h : Hp) (x0 : Int32) : Option (Int32) :=
  w_lp (fun (s : Int32) => l_127_2 h x0 s) w_N 19
theorem p_127_ok {X : List Int32}  {h : Hp} {x0 : Int32}  {r : Int32} (hF : p_127 h x0 = some r) : k_Ev X 1 127 [.int x0] h (.inl (some (.int r)), h) := by
  refine k_of hk_127 ?_
  show k_Go X 1 127 (0, [.int x0, (.retAddr 0)], []) h _
  unfold p_127 at hF
  refine kg_push (x := 19) hk_127 rfl (by decide) rfl ?_
  refine kg_istore (L2 := [.int x0, .int 19]) hk_127 rfl (Nat.le_of_ble_eq_true rfl) rfl rfl ?_
  exact l_127_2_ok hF rfl
-- NotebookWeir$Web.giversOf(II)I
theorem hk_81 : jP[81]? = some (jc_81, 5, [], []) := by rfl
def q_81_21 (h : Hp) (x1 : Int32) (x2 : Int32) (s0 : Int32) : Option (Int32) :=
  w_gd (w_ix x2 26) <|
  (p_127 h ((h 13 x2.toNatClampNeg) &&& s0)).bind fun vz6 =>
  w_gd ((if vz6 = (-1) then w_ix x2 26 else true)) <|
  some (if vz6 = (-1) then ((h 12 x2.toNatClampNeg) &&& ((1 <<< (x1 &&& 31)) ^^^ (-1))) else (1 <<< (vz6 &&& 31)) : Int32)
theorem q_81_21_ok {X : List Int32}   {h : Hp} {s0 : Int32} {x1 : Int32} {x2 : Int32}  {r : Int32} (hF : q_81_21 h x1 x2 s0 = some r)  : ∀ (u3 : Value) (u4 : Value), k_Go X 2 81 (21, [.ref (11 + 1), .int x1, .int x2, u3, u4], [.int s0]) h (.inl (some (.int r)), h) := by
  intro u3 u4
  unfold q_81_21 at hF
  refine kg_istore (L2 := [.ref (11 + 1), .int x1, .int x2, .int s0, u4]) hk_81 rfl (Nat.le_of_ble_eq_true rfl) rfl rfl ?_
  refine kg_aload hk_81 rfl rfl rfl ?_
  refine kg_get (v := .ref (13 + 1)) hk_81 rfl wk_11_1 rfl rfl ?_
  refine kg_iload hk_81 rfl rfl rfl ?_
  refine wf_gd hF (fun gz5 hF => ?_)
  refine kg_ald (y := (h 13 x2.toNatClampNeg)) hk_81 rfl wc_13 gz5 rfl rfl ?_
  refine kg_iload hk_81 rfl rfl rfl ?_
  refine kg_bin (z := ((h 13 x2.toNatClampNeg) &&& s0)) hk_81 rfl rfl rfl ?_
  refine wf_bind hF (fun vz6 hvz6 hF => ?_)
  refine kg_call (as := [.int ((h 13 x2.toNatClampNeg) &&& s0)]) (rest := []) hk_81 rfl (Or.inr (Or.inl rfl)) rfl rfl rfl (Nat.not_lt.mpr (Nat.le_of_ble_eq_true rfl)) (p_127_ok hvz6) (by decide) rfl ?_
  refine kg_istore (L2 := [.ref (11 + 1), .int x1, .int x2, .int s0, .int vz6]) hk_81 rfl (Nat.le_of_ble_eq_true rfl) rfl rfl ?_
  refine kg_iload hk_81 rfl rfl rfl ?_
  refine kg_push (x := (-1)) hk_81 rfl (by decide) rfl ?_
  refine wf_gd hF (fun gz9 hF => ?_)
  refine kv_mid (p := 47) (L := [.ref (11 + 1), .int x1, .int x2, .int s0, .int vz6]) (S := [.int (if vz6 = (-1) then ((h 12 x2.toNatClampNeg) &&& ((1 <<< (x1 &&& 31)) ^^^ (-1))) else (1 <<< (vz6 &&& 31)) : Int32)]) ?_ (fun hK => ?_)
  · have hF := Option.some.inj hF
    subst hF
    exact kg_iret hk_81 rfl (Or.inl rfl) rfl
  · have hg := gz9
    by_cases cz7 : vz6 = (-1)
    · have hg := wv_T cz7 hg
      have hK := kv_T cz7 hK
      have gz8 := hg
      refine kg_icT hk_81 rfl (jc_T0 cz7) ?_
      refine kg_aload hk_81 rfl rfl rfl ?_
      refine kg_get (v := .ref (12 + 1)) hk_81 rfl wk_11_0 rfl rfl ?_
      refine kg_iload hk_81 rfl rfl rfl ?_
      refine kg_ald (y := (h 12 x2.toNatClampNeg)) hk_81 rfl wc_12 gz8 rfl rfl ?_
      refine kg_push (x := 1) hk_81 rfl (by decide) rfl ?_
      refine kg_iload hk_81 rfl rfl rfl ?_
      refine kg_bin (z := (1 <<< (x1 &&& 31))) hk_81 rfl rfl rfl ?_
      refine kg_push (x := (-1)) hk_81 rfl (by decide) rfl ?_
      refine kg_bin (z := ((1 <<< (x1 &&& 31)) ^^^ (-1))) hk_81 rfl rfl rfl ?_
      refine kg_bin (z := ((h 12 x2.toNatClampNeg) &&& ((1 <<< (x1 &&& 31)) ^^^ (-1)))) hk_81 rfl rfl rfl ?_
      exact hK
    · have hK := kv_F cz7 hK
      refine kg_icF hk_81 rfl (jc_F0 cz7) rfl ?_
      refine kg_push (x := 1) hk_81 rfl (by decide) rfl ?_
      refine kg_iload hk_81 rfl rfl rfl ?_
      refine kg_bin (z := (1 <<< (vz6 &&& 31))) hk_81 rfl rfl rfl ?_
      refine kg_goto hk_81 rfl ?_
      exact hK
def p_81 (h : Hp) (x1 : Int32) (x2 : Int32) : Option (Int32) :=
  if x2 < 0 then
    (some 0)
  else
    (if x2 < 26 then
      (w_gd (w_ix x2 26) <|
      q_81_21 h x1 x2 (if (v_126 (h 13 x2.toNatClampNeg) x1) = 0 then 65535 else ((1 <<< (x1 &&& 31)) - 1) : Int32))
    else
      (some 0))
theorem p_81_ok {X : List Int32}  {h : Hp} {x1 : Int32} {x2 : Int32}  {r : Int32} (hF : p_81 h x1 x2 = some r) : k_Ev X 2 81 [.ref (11 + 1), .int x1, .int x2] h (.inl (some (.int r)), h) := by
  refine k_of hk_81 ?_
  show k_Go X 2 81 (0, [.ref (11 + 1), .int x1, .int x2, (.retAddr 0), (.retAddr 0)], []) h _
  unfold p_81 at hF
  refine kg_iload hk_81 rfl rfl rfl ?_
  refine wf_if hF (fun cz1 hF => ?_) (fun cz1 hF => ?_)
  · refine kg_ifT hk_81 rfl (jc_T2 cz1) ?_
    refine kg_push (x := 0) hk_81 rfl (by decide) rfl ?_
    have hF := Option.some.inj hF
    subst hF
    exact kg_iret hk_81 rfl (Or.inl rfl) rfl
  · refine kg_ifF hk_81 rfl (jc_F2 cz1) rfl ?_
    refine kg_iload hk_81 rfl rfl rfl ?_
    refine kg_push (x := 26) hk_81 rfl (by decide) rfl ?_
    refine wf_if hF (fun cz2 hF => ?_) (fun cz2 hF => ?_)
    · refine kg_icT hk_81 rfl (jc_T2 cz2) ?_
      refine kg_aload hk_81 rfl rfl rfl ?_
      refine kg_get (v := .ref (13 + 1)) hk_81 rfl wk_11_1 rfl rfl ?_
      refine kg_iload hk_81 rfl rfl rfl ?_
      refine wf_gd hF (fun gz3 hF => ?_)
      refine kg_ald (y := (h 13 x2.toNatClampNeg)) hk_81 rfl wc_13 gz3 rfl rfl ?_
      refine kg_iload hk_81 rfl rfl rfl ?_
      refine kg_call (as := [.int (h 13 x2.toNatClampNeg), .int x1]) (rest := []) hk_81 rfl (Or.inr (Or.inl rfl)) rfl rfl rfl (Nat.not_lt.mpr (Nat.le_of_ble_eq_true rfl)) (v_126_ok) (by decide) rfl ?_
      refine kv_mid (p := 21) (L := [.ref (11 + 1), .int x1, .int x2, (.retAddr 0), (.retAddr 0)]) (S := [.int (if (v_126 (h 13 x2.toNatClampNeg) x1) = 0 then 65535 else ((1 <<< (x1 &&& 31)) - 1) : Int32)]) ?_ (fun hK => ?_)
      · exact q_81_21_ok hF _ _
      · by_cases cz4 : (v_126 (h 13 x2.toNatClampNeg) x1) = 0
        · have hK := kv_T cz4 hK
          refine kg_ifT hk_81 rfl (jc_T0 cz4) ?_
          refine kg_push (x := 65535) hk_81 rfl (by decide) rfl ?_
          exact hK
        · have hK := kv_F cz4 hK
          refine kg_ifF hk_81 rfl (jc_F0 cz4) rfl ?_
          refine kg_push (x := 1) hk_81 rfl (by decide) rfl ?_
          refine kg_iload hk_81 rfl rfl rfl ?_
          refine kg_bin (z := (1 <<< (x1 &&& 31))) hk_81 rfl rfl rfl ?_
          refine kg_push (x := 1) hk_81 rfl (by decide) rfl ?_
          refine kg_bin (z := ((1 <<< (x1 &&& 31)) - 1)) hk_81 rfl rfl rfl ?_
          refine kg_goto hk_81 rfl ?_
          exact hK
    · refine kg_icF hk_81 rfl (jc_F2 cz2) rfl ?_
      refine kg_push (x := 0) hk_81 rfl (by decide) rfl ?_
      have hF := Option.some.inj hF
      subst hF
      exact kg_iret hk_81 rfl (Or.inl rfl) rfl
-- NotebookWeir$Web.needsOf(II)I
theorem hk_80 : jP[80]? = some (jc_80, 5, [], []) := by rfl
def l_80_4 (h : Hp) (x1 : Int32) (x2 : Int32) (x3 : Int32) (x4 : Int32) : Option ((Int32 × Int32) ⊕ Int32) :=
  if x4 < 26 then
    (if (v_126 x2 x4) = 0 then
      (some (.inl ((x3 ||| 0), (x4 + 1))))
    else
      ((p_81 h x1 x4).bind fun vz3 =>
      some (.inl ((x3 ||| vz3), (x4 + 1)))))
  else
    (some (.inr x3))
theorem l_80_4_st {X : List Int32} {o : kO}  {h : Hp} {x1 : Int32} {x2 : Int32} {x3 : Int32} {x4 : Int32}  {r : (Int32 × Int32) ⊕ Int32} (hF : l_80_4 h x1 x2 x3 x4 = some r) (hK : ∀ s' : Int32 × Int32, r = .inl s' → k_Go X 3 80 (4, [.ref (11 + 1), .int x1, .int x2, .int (s'.1), .int (s'.2)], []) h o) (hX0 : ∀ e : Int32, r = .inr e → (.inl (some (.int e)), h) = o) : k_Go X 3 80 (4, [.ref (11 + 1), .int x1, .int x2, .int x3, .int x4], []) h o := by
  refine kg_iload hk_80 rfl rfl rfl ?_
  refine kg_push (x := 26) hk_80 rfl (by decide) rfl ?_
  refine wf_if hF (fun cz1 hF => ?_) (fun cz1 hF => ?_)
  · refine kg_icF hk_80 rfl (jc_F3 cz1) rfl ?_
    refine kg_iload hk_80 rfl rfl rfl ?_
    refine kg_iload hk_80 rfl rfl rfl ?_
    refine kg_iload hk_80 rfl rfl rfl ?_
    refine kg_call (as := [.int x2, .int x4]) (rest := [.int x3]) hk_80 rfl (Or.inr (Or.inl rfl)) rfl rfl rfl (Nat.not_lt.mpr (Nat.le_of_ble_eq_true rfl)) (v_126_ok) (by decide) rfl ?_
    refine wf_if hF (fun cz2 hF => ?_) (fun cz2 hF => ?_)
    · refine kg_ifT hk_80 rfl (jc_T0 cz2) ?_
      refine kg_push (x := 0) hk_80 rfl (by decide) rfl ?_
      refine kg_bin (z := (x3 ||| 0)) hk_80 rfl rfl rfl ?_
      refine kg_istore (L2 := [.ref (11 + 1), .int x1, .int x2, .int (x3 ||| 0), .int x4]) hk_80 rfl (Nat.le_of_ble_eq_true rfl) rfl rfl ?_
      refine kg_iinc (y := (x4 + 1)) (L2 := [.ref (11 + 1), .int x1, .int x2, .int (x3 ||| 0), .int (x4 + 1)]) hk_80 rfl rfl rfl rfl rfl ?_
      refine kg_goto hk_80 rfl ?_
      have hF := Option.some.inj hF
      exact hK _ hF.symm
    · refine kg_ifF hk_80 rfl (jc_F0 cz2) rfl ?_
      refine kg_aload hk_80 rfl rfl rfl ?_
      refine kg_iload hk_80 rfl rfl rfl ?_
      refine kg_iload hk_80 rfl rfl rfl ?_
      refine wf_bind hF (fun vz3 hvz3 hF => ?_)
      refine kg_call (as := [.ref (11 + 1), .int x1, .int x4]) (rest := [.int x3]) hk_80 rfl (Or.inr (Or.inr (Or.inr ⟨Or.inl rfl, _, _, rfl, wc_11⟩))) rfl rfl rfl (Nat.not_lt.mpr (Nat.le_of_ble_eq_true rfl)) (p_81_ok hvz3) (by decide) rfl ?_
      refine kg_goto hk_80 rfl ?_
      refine kg_bin (z := (x3 ||| vz3)) hk_80 rfl rfl rfl ?_
      refine kg_istore (L2 := [.ref (11 + 1), .int x1, .int x2, .int (x3 ||| vz3), .int x4]) hk_80 rfl (Nat.le_of_ble_eq_true rfl) rfl rfl ?_
      refine kg_iinc (y := (x4 + 1)) (L2 := [.ref (11 + 1), .int x1, .int x2, .int (x3 ||| vz3), .int (x4 + 1)]) hk_80 rfl rfl rfl rfl rfl ?_
      refine kg_goto hk_80 rfl ?_
      have hF := Option.some.inj hF
      exact hK _ hF.symm
  · refine kg_icT hk_80 rfl (jc_T3 cz1) ?_
    refine kg_iload hk_80 rfl rfl rfl ?_
    have hF := Option.some.inj hF
    exact kg_iret hk_80 rfl (Or.inl rfl) (hX0 _ hF.symm)
theorem l_80_4_ok {X : List Int32} {o : kO}  {h : Hp} {x1 : Int32} {x2 : Int32}  {n : Nat} {s : Int32 × Int32} {e : Int32} (hF : w_lp (fun (s : Int32 × Int32) => l_80_4 h x1 x2 s.1 s.2) n s = some e) (hX0 : (.inl (some (.int e)), h) = o) : k_Go X 3 80 (4, [.ref (11 + 1), .int x1, .int x2, .int s.1, .int s.2], []) h o := by
  exact w_lp_ok (P := (fun (s : Int32 × Int32) => k_Go X 3 80 (4, [.ref (11 + 1), .int x1, .int x2, .int s.1, .int s.2], []) h o)) (Q := (fun (e : Int32) => ((.inl (some (.int e)), h) = o))) (fun s r hF hK hX => l_80_4_st hF hK (fun x hx => (hX _ hx))) n s e hF hX0
def p_80 (h : Hp) (x1 : Int32) (x2 : Int32) : Option (Int32) :=
  w_lp (fun (s : Int32 × Int32) => l_80_4 h x1 x2 s.1 s.2) w_N (0, 0)
theorem p_80_ok {X : List Int32}  {h : Hp} {x1 : Int32} {x2 : Int32}  {r : Int32} (hF : p_80 h x1 x2 = some r) : k_Ev X 3 80 [.ref (11 + 1), .int x1, .int x2] h (.inl (some (.int r)), h) := by
  refine k_of hk_80 ?_
  show k_Go X 3 80 (0, [.ref (11 + 1), .int x1, .int x2, (.retAddr 0), (.retAddr 0)], []) h _
  unfold p_80 at hF
  refine kg_push (x := 0) hk_80 rfl (by decide) rfl ?_
  refine kg_istore (L2 := [.ref (11 + 1), .int x1, .int x2, .int 0, (.retAddr 0)]) hk_80 rfl (Nat.le_of_ble_eq_true rfl) rfl rfl ?_
  refine kg_push (x := 0) hk_80 rfl (by decide) rfl ?_
  refine kg_istore (L2 := [.ref (11 + 1), .int x1, .int x2, .int 0, .int 0]) hk_80 rfl (Nat.le_of_ble_eq_true rfl) rfl rfl ?_
  exact l_80_4_ok hF rfl
-- NotebookWeir$Web.reachOver()V
theorem hk_83 : jP[83]? = some (jc_83, 3, [], []) := by rfl
def l_83_8 (x1 : Int32) (x2 : Int32) (h : Hp) : Option ((Int32 × Hp) ⊕ Hp) :=
  if x2 < (h 11 8) then
    (w_gd (w_ix x2 16) <|
    w_gd (w_ix x2 16) <|
    w_gd ((if (v_126 (h 15 x2.toNatClampNeg) x1) = 0 then true else w_ix x1 16)) <|
    w_gd (w_ix x2 16) <|
    w_let (w_up h 15 x2.toNatClampNeg ((h 15 x2.toNatClampNeg) ||| (if (v_126 (h 15 x2.toNatClampNeg) x1) = 0 then 0 else (h 15 x1.toNatClampNeg) : Int32))) fun hz9 =>
    some (.inl ((x2 + 1), hz9)))
  else
    (some (.inr h))
theorem l_83_8_st {X : List Int32} {o : kO}  {h : Hp} {x1 : Int32} {x2 : Int32}  {r : (Int32 × Hp) ⊕ Hp} (hF : l_83_8 x1 x2 h = some r) (hK : ∀ s' : Int32 × Hp, r = .inl s' → k_Go X 1 83 (8, [.ref (11 + 1), .int x1, .int (s'.1)], []) s'.2 o) (hX0 : ∀ e : Hp, r = .inr e → ∀ (u2 : Value), k_Go X 1 83 (34, [.ref (11 + 1), .int x1, u2], []) e o) : k_Go X 1 83 (8, [.ref (11 + 1), .int x1, .int x2], []) h o := by
  refine kg_iload hk_83 rfl rfl rfl ?_
  refine kg_aload hk_83 rfl rfl rfl ?_
  refine kg_get (v := .int (h 11 8)) hk_83 rfl wk_11_8 rfl rfl ?_
  refine wf_if hF (fun cz2 hF => ?_) (fun cz2 hF => ?_)
  · refine kg_icF hk_83 rfl (jc_F3 cz2) rfl ?_
    refine kg_aload hk_83 rfl rfl rfl ?_
    refine kg_get (v := .ref (15 + 1)) hk_83 rfl wk_11_3 rfl rfl ?_
    refine kg_iload hk_83 rfl rfl rfl ?_
    refine kg_dup2 hk_83 rfl ⟨rfl, rfl⟩ rfl ?_
    refine wf_gd hF (fun gz3 hF => ?_)
    refine kg_ald (y := (h 15 x2.toNatClampNeg)) hk_83 rfl wc_15 gz3 rfl rfl ?_
    refine kg_aload hk_83 rfl rfl rfl ?_
    refine kg_get (v := .ref (15 + 1)) hk_83 rfl wk_11_3 rfl rfl ?_
    refine kg_iload hk_83 rfl rfl rfl ?_
    refine wf_gd hF (fun gz4 hF => ?_)
    refine kg_ald (y := (h 15 x2.toNatClampNeg)) hk_83 rfl wc_15 gz4 rfl rfl ?_
    refine kg_iload hk_83 rfl rfl rfl ?_
    refine kg_call (as := [.int (h 15 x2.toNatClampNeg), .int x1]) (rest := [.int (h 15 x2.toNatClampNeg), .int x2, .ref (15 + 1)]) hk_83 rfl (Or.inr (Or.inl rfl)) rfl rfl rfl (Nat.not_lt.mpr (Nat.le_of_ble_eq_true rfl)) (v_126_ok) (by decide) rfl ?_
    refine wf_gd hF (fun gz7 hF => ?_)
    refine kv_mid (p := 30) (L := [.ref (11 + 1), .int x1, .int x2]) (S := [.int (if (v_126 (h 15 x2.toNatClampNeg) x1) = 0 then 0 else (h 15 x1.toNatClampNeg) : Int32), .int (h 15 x2.toNatClampNeg), .int x2, .ref (15 + 1)]) ?_ (fun hK => ?_)
    · refine kg_bin (z := ((h 15 x2.toNatClampNeg) ||| (if (v_126 (h 15 x2.toNatClampNeg) x1) = 0 then 0 else (h 15 x1.toNatClampNeg) : Int32))) hk_83 rfl rfl rfl ?_
      refine wf_gd hF (fun gz8 hF => ?_)
      refine wf_let hF (fun hz9 hhz9 hF => ?_)
      refine kg_ast hk_83 rfl wc_15 gz8 hhz9 rfl ?_
      refine kg_iinc (y := (x2 + 1)) (L2 := [.ref (11 + 1), .int x1, .int (x2 + 1)]) hk_83 rfl rfl rfl rfl rfl ?_
      refine kg_goto hk_83 rfl ?_
      have hF := Option.some.inj hF
      exact hK _ hF.symm
    · have hg := gz7
      by_cases cz5 : (v_126 (h 15 x2.toNatClampNeg) x1) = 0
      · have hK := kv_T cz5 hK
        refine kg_ifT hk_83 rfl (jc_T0 cz5) ?_
        refine kg_push (x := 0) hk_83 rfl (by decide) rfl ?_
        exact hK
      · have hg := wv_F cz5 hg
        have hK := kv_F cz5 hK
        have gz6 := hg
        refine kg_ifF hk_83 rfl (jc_F0 cz5) rfl ?_
        refine kg_aload hk_83 rfl rfl rfl ?_
        refine kg_get (v := .ref (15 + 1)) hk_83 rfl wk_11_3 rfl rfl ?_
        refine kg_iload hk_83 rfl rfl rfl ?_
        refine kg_ald (y := (h 15 x1.toNatClampNeg)) hk_83 rfl wc_15 gz6 rfl rfl ?_
        refine kg_goto hk_83 rfl ?_
        exact hK
  · refine kg_icT hk_83 rfl (jc_T3 cz2) ?_
    have hF := Option.some.inj hF
    exact hX0 _ hF.symm _
theorem l_83_8_ok {X : List Int32} {o : kO}  {x1 : Int32}  {n : Nat} {s : Int32 × Hp} {e : Hp} (hF : w_lp (fun (s : Int32 × Hp) => l_83_8 x1 s.1 s.2) n s = some e) (hX0 : ∀ (u2 : Value), k_Go X 1 83 (34, [.ref (11 + 1), .int x1, u2], []) e o) : k_Go X 1 83 (8, [.ref (11 + 1), .int x1, .int s.1], []) s.2 o := by
  exact w_lp_ok (P := (fun (s : Int32 × Hp) => k_Go X 1 83 (8, [.ref (11 + 1), .int x1, .int s.1], []) s.2 o)) (Q := (fun (e : Hp) => (∀ (u2 : Value), k_Go X 1 83 (34, [.ref (11 + 1), .int x1, u2], []) e o))) (fun s r hF hK hX => l_83_8_st hF hK (fun x hx => (hX _ hx))) n s e hF hX0
def l_83_2 (x1 : Int32) (h : Hp) : Option ((Int32 × Hp) ⊕ Hp) :=
  if x1 < (h 11 8) then
    ((w_lp (fun (s : Int32 × Hp) => l_83_8 x1 s.1 s.2) w_N (0, h)).bind fun ez10 =>
    some (.inl ((x1 + 1), ez10)))
  else
    (some (.inr h))
theorem l_83_2_st {X : List Int32} {o : kO}  {h : Hp} {x1 : Int32}  {r : (Int32 × Hp) ⊕ Hp} (hF : l_83_2 x1 h = some r) (hK : ∀ s' : Int32 × Hp, r = .inl s' → ∀ (u2 : Value), k_Go X 1 83 (2, [.ref (11 + 1), .int (s'.1), u2], []) s'.2 o) (hX0 : ∀ e : Hp, r = .inr e → ∀ (u1 : Value) (u2 : Value), k_Go X 1 83 (36, [.ref (11 + 1), u1, u2], []) e o) : ∀ (u2 : Value), k_Go X 1 83 (2, [.ref (11 + 1), .int x1, u2], []) h o := by
  intro u2
  refine kg_iload hk_83 rfl rfl rfl ?_
  refine kg_aload hk_83 rfl rfl rfl ?_
  refine kg_get (v := .int (h 11 8)) hk_83 rfl wk_11_8 rfl rfl ?_
  refine wf_if hF (fun cz1 hF => ?_) (fun cz1 hF => ?_)
  · refine kg_icF hk_83 rfl (jc_F3 cz1) rfl ?_
    refine kg_push (x := 0) hk_83 rfl (by decide) rfl ?_
    refine kg_istore (L2 := [.ref (11 + 1), .int x1, .int 0]) hk_83 rfl (Nat.le_of_ble_eq_true rfl) rfl rfl ?_
    refine wf_bind hF (fun ez10 hez10 hF => ?_)
    refine l_83_8_ok hez10 ?_
    intro u2
    refine kg_iinc (y := (x1 + 1)) (L2 := [.ref (11 + 1), .int (x1 + 1), u2]) hk_83 rfl rfl rfl rfl rfl ?_
    refine kg_goto hk_83 rfl ?_
    have hF := Option.some.inj hF
    exact hK _ hF.symm _
  · refine kg_icT hk_83 rfl (jc_T3 cz1) ?_
    have hF := Option.some.inj hF
    exact hX0 _ hF.symm _ _
theorem l_83_2_ok {X : List Int32} {o : kO}    {n : Nat} {s : Int32 × Hp} {e : Hp} (hF : w_lp (fun (s : Int32 × Hp) => l_83_2 s.1 s.2) n s = some e) (hX0 : ∀ (u1 : Value) (u2 : Value), k_Go X 1 83 (36, [.ref (11 + 1), u1, u2], []) e o) : ∀ (u2 : Value), k_Go X 1 83 (2, [.ref (11 + 1), .int s.1, u2], []) s.2 o := by
  exact w_lp_ok (P := (fun (s : Int32 × Hp) => ∀ (u2 : Value), k_Go X 1 83 (2, [.ref (11 + 1), .int s.1, u2], []) s.2 o)) (Q := (fun (e : Hp) => (∀ (u1 : Value) (u2 : Value), k_Go X 1 83 (36, [.ref (11 + 1), u1, u2], []) e o))) (fun s r hF hK hX => l_83_2_st hF hK (fun x hx => (hX _ hx))) n s e hF hX0
def l_83_41 (x1 : Int32) (h : Hp) : Option ((Int32 × Hp) ⊕ Hp) :=
  if x1 < (h 11 8) then
    (w_gd (w_ix x1 16) <|
    w_let (w_up h 11 7 ((h 11 7) ||| (if (v_126 (h 15 x1.toNatClampNeg) x1) = 0 then 0 else (1 <<< (x1 &&& 31)) : Int32))) fun hz16 =>
    some (.inl ((x1 + 1), hz16)))
  else
    (some (.inr h))
theorem l_83_41_st {X : List Int32} {o : kO}  {h : Hp} {x1 : Int32}  {r : (Int32 × Hp) ⊕ Hp} (hF : l_83_41 x1 h = some r) (hK : ∀ s' : Int32 × Hp, r = .inl s' → ∀ (u2 : Value), k_Go X 1 83 (41, [.ref (11 + 1), .int (s'.1), u2], []) s'.2 o) (hX0 : ∀ e : Hp, r = .inr e → (.inl none, e) = o) : ∀ (u2 : Value), k_Go X 1 83 (41, [.ref (11 + 1), .int x1, u2], []) h o := by
  intro u2
  refine kg_iload hk_83 rfl rfl rfl ?_
  refine kg_aload hk_83 rfl rfl rfl ?_
  refine kg_get (v := .int (h 11 8)) hk_83 rfl wk_11_8 rfl rfl ?_
  refine wf_if hF (fun cz13 hF => ?_) (fun cz13 hF => ?_)
  · refine kg_icF hk_83 rfl (jc_F3 cz13) rfl ?_
    refine kg_aload hk_83 rfl rfl rfl ?_
    refine kg_dup hk_83 rfl rfl rfl ?_
    refine kg_get (v := .int (h 11 7)) hk_83 rfl wk_11_7 rfl rfl ?_
    refine kg_aload hk_83 rfl rfl rfl ?_
    refine kg_get (v := .ref (15 + 1)) hk_83 rfl wk_11_3 rfl rfl ?_
    refine kg_iload hk_83 rfl rfl rfl ?_
    refine wf_gd hF (fun gz14 hF => ?_)
    refine kg_ald (y := (h 15 x1.toNatClampNeg)) hk_83 rfl wc_15 gz14 rfl rfl ?_
    refine kg_iload hk_83 rfl rfl rfl ?_
    refine kg_call (as := [.int (h 15 x1.toNatClampNeg), .int x1]) (rest := [.int (h 11 7), .ref (11 + 1)]) hk_83 rfl (Or.inr (Or.inl rfl)) rfl rfl rfl (Nat.not_lt.mpr (Nat.le_of_ble_eq_true rfl)) (v_126_ok) (by decide) rfl ?_
    refine kv_mid (p := 60) (L := [.ref (11 + 1), .int x1, u2]) (S := [.int (if (v_126 (h 15 x1.toNatClampNeg) x1) = 0 then 0 else (1 <<< (x1 &&& 31)) : Int32), .int (h 11 7), .ref (11 + 1)]) ?_ (fun hK => ?_)
    · refine kg_bin (z := ((h 11 7) ||| (if (v_126 (h 15 x1.toNatClampNeg) x1) = 0 then 0 else (1 <<< (x1 &&& 31)) : Int32))) hk_83 rfl rfl rfl ?_
      refine wf_let hF (fun hz16 hhz16 hF => ?_)
      refine kg_put hk_83 rfl wk_11_7 rfl rfl hhz16 rfl ?_
      refine kg_iinc (y := (x1 + 1)) (L2 := [.ref (11 + 1), .int (x1 + 1), u2]) hk_83 rfl rfl rfl rfl rfl ?_
      refine kg_goto hk_83 rfl ?_
      have hF := Option.some.inj hF
      exact hK _ hF.symm _
    · by_cases cz15 : (v_126 (h 15 x1.toNatClampNeg) x1) = 0
      · have hK := kv_T cz15 hK
        refine kg_ifT hk_83 rfl (jc_T0 cz15) ?_
        refine kg_push (x := 0) hk_83 rfl (by decide) rfl ?_
        exact hK
      · have hK := kv_F cz15 hK
        refine kg_ifF hk_83 rfl (jc_F0 cz15) rfl ?_
        refine kg_push (x := 1) hk_83 rfl (by decide) rfl ?_
        refine kg_iload hk_83 rfl rfl rfl ?_
        refine kg_bin (z := (1 <<< (x1 &&& 31))) hk_83 rfl rfl rfl ?_
        refine kg_goto hk_83 rfl ?_
        exact hK
  · refine kg_icT hk_83 rfl (jc_T3 cz13) ?_
    have hF := Option.some.inj hF
    exact kg_ret hk_83 rfl (hX0 _ hF.symm)
theorem l_83_41_ok {X : List Int32} {o : kO}    {n : Nat} {s : Int32 × Hp} {e : Hp} (hF : w_lp (fun (s : Int32 × Hp) => l_83_41 s.1 s.2) n s = some e) (hX0 : (.inl none, e) = o) : ∀ (u2 : Value), k_Go X 1 83 (41, [.ref (11 + 1), .int s.1, u2], []) s.2 o := by
  exact w_lp_ok (P := (fun (s : Int32 × Hp) => ∀ (u2 : Value), k_Go X 1 83 (41, [.ref (11 + 1), .int s.1, u2], []) s.2 o)) (Q := (fun (e : Hp) => ((.inl none, e) = o))) (fun s r hF hK hX => l_83_41_st hF hK (fun x hx => (hX _ hx))) n s e hF hX0
def p_83 (h : Hp) : Option (Hp) :=
  (w_lp (fun (s : Int32 × Hp) => l_83_2 s.1 s.2) w_N (0, h)).bind fun ez11 =>
  w_let (w_up ez11 11 7 0) fun hz12 =>
  w_lp (fun (s : Int32 × Hp) => l_83_41 s.1 s.2) w_N (0, hz12)
theorem p_83_ok {X : List Int32}  {h : Hp}   {r : Hp} (hF : p_83 h = some r) : k_Ev X 1 83 [.ref (11 + 1)] h (.inl none, r) := by
  refine k_of hk_83 ?_
  show k_Go X 1 83 (0, [.ref (11 + 1), (.retAddr 0), (.retAddr 0)], []) h _
  unfold p_83 at hF
  refine kg_push (x := 0) hk_83 rfl (by decide) rfl ?_
  refine kg_istore (L2 := [.ref (11 + 1), .int 0, (.retAddr 0)]) hk_83 rfl (Nat.le_of_ble_eq_true rfl) rfl rfl ?_
  refine wf_bind hF (fun ez11 hez11 hF => ?_)
  refine l_83_2_ok hez11 ?_ _
  intro u1 u2
  refine kg_aload hk_83 rfl rfl rfl ?_
  refine kg_push (x := 0) hk_83 rfl (by decide) rfl ?_
  refine wf_let hF (fun hz12 hhz12 hF => ?_)
  refine kg_put hk_83 rfl wk_11_7 rfl rfl hhz12 rfl ?_
  refine kg_push (x := 0) hk_83 rfl (by decide) rfl ?_
  refine kg_istore (L2 := [.ref (11 + 1), .int 0, u2]) hk_83 rfl (Nat.le_of_ble_eq_true rfl) rfl rfl ?_
  exact l_83_41_ok hF rfl _
-- NotebookWeir$Web.lowestNext(I)I
theorem hk_86 : jP[86]? = some (jc_86, 6, [], []) := by rfl
def q_86_41 (h : Hp) (x1 : Int32) (x2 : Int32) (x3 : Int32) (x4 : Int32) (s0 : Int32) : Option ((Int32) ⊕ Int32) :=
  if x4 = 0 then
    (if s0 = 0 then
      (some (.inl (x3 + 1)))
    else
      (if (v_126 x1 x3) = 0 then
        (some (.inr x3))
      else
        (some (.inl (x3 + 1)))))
  else
    (some (.inl (x3 + 1)))
theorem q_86_41_ok {X : List Int32} {o : kO}  {h : Hp} {s0 : Int32} {x1 : Int32} {x2 : Int32} {x3 : Int32} {x4 : Int32}  {r : (Int32) ⊕ Int32} (hF : q_86_41 h x1 x2 x3 x4 s0 = some r) (hK : ∀ s' : Int32, r = .inl s' → ∀ (u4 : Value) (u5 : Value), k_Go X 1 86 (8, [.ref (11 + 1), .int x1, .int x2, .int (s'), u4, u5], []) h o) (hX0 : ∀ e : Int32, r = .inr e → (.inl (some (.int e)), h) = o) : ∀ (u5 : Value), k_Go X 1 86 (41, [.ref (11 + 1), .int x1, .int x2, .int x3, .int x4, u5], [.int s0]) h o := by
  intro u5
  unfold q_86_41 at hF
  refine kg_istore (L2 := [.ref (11 + 1), .int x1, .int x2, .int x3, .int x4, .int s0]) hk_86 rfl (Nat.le_of_ble_eq_true rfl) rfl rfl ?_
  refine kg_iload hk_86 rfl rfl rfl ?_
  refine wf_if hF (fun cz6 hF => ?_) (fun cz6 hF => ?_)
  · refine kg_ifF hk_86 rfl (jc_F1 cz6) rfl ?_
    refine kg_iload hk_86 rfl rfl rfl ?_
    refine wf_if hF (fun cz7 hF => ?_) (fun cz7 hF => ?_)
    · refine kg_ifT hk_86 rfl (jc_T0 cz7) ?_
      refine kg_iinc (y := (x3 + 1)) (L2 := [.ref (11 + 1), .int x1, .int x2, .int (x3 + 1), .int x4, .int s0]) hk_86 rfl rfl rfl rfl rfl ?_
      refine kg_goto hk_86 rfl ?_
      have hF := Option.some.inj hF
      exact hK _ hF.symm _ _
    · refine kg_ifF hk_86 rfl (jc_F0 cz7) rfl ?_
      refine kg_iload hk_86 rfl rfl rfl ?_
      refine kg_iload hk_86 rfl rfl rfl ?_
      refine kg_call (as := [.int x1, .int x3]) (rest := []) hk_86 rfl (Or.inr (Or.inl rfl)) rfl rfl rfl (Nat.not_lt.mpr (Nat.le_of_ble_eq_true rfl)) (v_126_ok) (by decide) rfl ?_
      refine wf_if hF (fun cz8 hF => ?_) (fun cz8 hF => ?_)
      · refine kg_ifF hk_86 rfl (jc_F1 cz8) rfl ?_
        refine kg_iload hk_86 rfl rfl rfl ?_
        have hF := Option.some.inj hF
        exact kg_iret hk_86 rfl (Or.inl rfl) (hX0 _ hF.symm)
      · refine kg_ifT hk_86 rfl (jc_T1 cz8) ?_
        refine kg_iinc (y := (x3 + 1)) (L2 := [.ref (11 + 1), .int x1, .int x2, .int (x3 + 1), .int x4, .int s0]) hk_86 rfl rfl rfl rfl rfl ?_
        refine kg_goto hk_86 rfl ?_
        have hF := Option.some.inj hF
        exact hK _ hF.symm _ _
  · refine kg_ifT hk_86 rfl (jc_T1 cz6) ?_
    refine kg_iinc (y := (x3 + 1)) (L2 := [.ref (11 + 1), .int x1, .int x2, .int (x3 + 1), .int x4, .int s0]) hk_86 rfl rfl rfl rfl rfl ?_
    refine kg_goto hk_86 rfl ?_
    have hF := Option.some.inj hF
    exact hK _ hF.symm _ _
def q_86_26 (h : Hp) (x1 : Int32) (x2 : Int32) (x3 : Int32) (s0 : Int32) : Option ((Int32) ⊕ Int32) :=
  w_gd (w_ix x3 16) <|
  q_86_41 h x1 x2 x3 s0 (if (((h 14 x3.toNatClampNeg) &&& 65535) &&& (x1 ^^^ (-1))) = 0 then 1 else 0 : Int32)
theorem q_86_26_ok {X : List Int32} {o : kO}  {h : Hp} {s0 : Int32} {x1 : Int32} {x2 : Int32} {x3 : Int32}  {r : (Int32) ⊕ Int32} (hF : q_86_26 h x1 x2 x3 s0 = some r) (hK : ∀ s' : Int32, r = .inl s' → ∀ (u4 : Value) (u5 : Value), k_Go X 1 86 (8, [.ref (11 + 1), .int x1, .int x2, .int (s'), u4, u5], []) h o) (hX0 : ∀ e : Int32, r = .inr e → (.inl (some (.int e)), h) = o) : ∀ (u4 : Value) (u5 : Value), k_Go X 1 86 (26, [.ref (11 + 1), .int x1, .int x2, .int x3, u4, u5], [.int s0]) h o := by
  intro u4 u5
  unfold q_86_26 at hF
  refine kg_istore (L2 := [.ref (11 + 1), .int x1, .int x2, .int x3, .int s0, u5]) hk_86 rfl (Nat.le_of_ble_eq_true rfl) rfl rfl ?_
  refine kg_aload hk_86 rfl rfl rfl ?_
  refine kg_get (v := .ref (14 + 1)) hk_86 rfl wk_11_2 rfl rfl ?_
  refine kg_iload hk_86 rfl rfl rfl ?_
  refine wf_gd hF (fun gz4 hF => ?_)
  refine kg_ald (y := (h 14 x3.toNatClampNeg)) hk_86 rfl wc_14 gz4 rfl rfl ?_
  refine kg_push (x := 65535) hk_86 rfl (by decide) rfl ?_
  refine kg_bin (z := ((h 14 x3.toNatClampNeg) &&& 65535)) hk_86 rfl rfl rfl ?_
  refine kg_iload hk_86 rfl rfl rfl ?_
  refine kg_push (x := (-1)) hk_86 rfl (by decide) rfl ?_
  refine kg_bin (z := (x1 ^^^ (-1))) hk_86 rfl rfl rfl ?_
  refine kg_bin (z := (((h 14 x3.toNatClampNeg) &&& 65535) &&& (x1 ^^^ (-1)))) hk_86 rfl rfl rfl ?_
  refine kv_mid (p := 41) (L := [.ref (11 + 1), .int x1, .int x2, .int x3, .int s0, u5]) (S := [.int (if (((h 14 x3.toNatClampNeg) &&& 65535) &&& (x1 ^^^ (-1))) = 0 then 1 else 0 : Int32)]) ?_ (fun hK => ?_)
  · exact q_86_41_ok hF hK hX0 _
  · by_cases cz5 : (((h 14 x3.toNatClampNeg) &&& 65535) &&& (x1 ^^^ (-1))) = 0
    · have hK := kv_T cz5 hK
      refine kg_ifF hk_86 rfl (jc_F1 cz5) rfl ?_
      refine kg_push (x := 1) hk_86 rfl (by decide) rfl ?_
      refine kg_goto hk_86 rfl ?_
      exact hK
    · have hK := kv_F cz5 hK
      refine kg_ifT hk_86 rfl (jc_T1 cz5) ?_
      refine kg_push (x := 0) hk_86 rfl (by decide) rfl ?_
      exact hK
def l_86_8 (h : Hp) (x1 : Int32) (x2 : Int32) (x3 : Int32) : Option ((Int32) ⊕ Int32) :=
  if x3 < (h 11 8) then
    (w_gd (w_ix x3 16) <|
    q_86_26 h x1 x2 x3 (if (((1 <<< (x3 &&& 31)) ||| (h 15 x3.toNatClampNeg)) &&& x2) = 0 then 0 else 1 : Int32))
  else
    (some (.inr (-1)))
theorem l_86_8_st {X : List Int32} {o : kO}  {h : Hp} {x1 : Int32} {x2 : Int32} {x3 : Int32}  {r : (Int32) ⊕ Int32} (hF : l_86_8 h x1 x2 x3 = some r) (hK : ∀ s' : Int32, r = .inl s' → ∀ (u4 : Value) (u5 : Value), k_Go X 1 86 (8, [.ref (11 + 1), .int x1, .int x2, .int (s'), u4, u5], []) h o) (hX0 : ∀ e : Int32, r = .inr e → (.inl (some (.int e)), h) = o) : ∀ (u4 : Value) (u5 : Value), k_Go X 1 86 (8, [.ref (11 + 1), .int x1, .int x2, .int x3, u4, u5], []) h o := by
  intro u4 u5
  refine kg_iload hk_86 rfl rfl rfl ?_
  refine kg_aload hk_86 rfl rfl rfl ?_
  refine kg_get (v := .int (h 11 8)) hk_86 rfl wk_11_8 rfl rfl ?_
  refine wf_if hF (fun cz1 hF => ?_) (fun cz1 hF => ?_)
  · refine kg_icF hk_86 rfl (jc_F3 cz1) rfl ?_
    refine kg_push (x := 1) hk_86 rfl (by decide) rfl ?_
    refine kg_iload hk_86 rfl rfl rfl ?_
    refine kg_bin (z := (1 <<< (x3 &&& 31))) hk_86 rfl rfl rfl ?_
    refine kg_aload hk_86 rfl rfl rfl ?_
    refine kg_get (v := .ref (15 + 1)) hk_86 rfl wk_11_3 rfl rfl ?_
    refine kg_iload hk_86 rfl rfl rfl ?_
    refine wf_gd hF (fun gz2 hF => ?_)
    refine kg_ald (y := (h 15 x3.toNatClampNeg)) hk_86 rfl wc_15 gz2 rfl rfl ?_
    refine kg_bin (z := ((1 <<< (x3 &&& 31)) ||| (h 15 x3.toNatClampNeg))) hk_86 rfl rfl rfl ?_
    refine kg_iload hk_86 rfl rfl rfl ?_
    refine kg_bin (z := (((1 <<< (x3 &&& 31)) ||| (h 15 x3.toNatClampNeg)) &&& x2)) hk_86 rfl rfl rfl ?_
    refine kv_mid (p := 26) (L := [.ref (11 + 1), .int x1, .int x2, .int x3, u4, u5]) (S := [.int (if (((1 <<< (x3 &&& 31)) ||| (h 15 x3.toNatClampNeg)) &&& x2) = 0 then 0 else 1 : Int32)]) ?_ (fun hK => ?_)
    · exact q_86_26_ok hF hK hX0 _ _
    · by_cases cz3 : (((1 <<< (x3 &&& 31)) ||| (h 15 x3.toNatClampNeg)) &&& x2) = 0
      · have hK := kv_T cz3 hK
        refine kg_ifT hk_86 rfl (jc_T0 cz3) ?_
        refine kg_push (x := 0) hk_86 rfl (by decide) rfl ?_
        exact hK
      · have hK := kv_F cz3 hK
        refine kg_ifF hk_86 rfl (jc_F0 cz3) rfl ?_
        refine kg_push (x := 1) hk_86 rfl (by decide) rfl ?_
        refine kg_goto hk_86 rfl ?_
        exact hK
  · refine kg_icT hk_86 rfl (jc_T3 cz1) ?_
    refine kg_push (x := (-1)) hk_86 rfl (by decide) rfl ?_
    have hF := Option.some.inj hF
    exact kg_iret hk_86 rfl (Or.inl rfl) (hX0 _ hF.symm)
theorem l_86_8_ok {X : List Int32} {o : kO}  {h : Hp} {x1 : Int32} {x2 : Int32}  {n : Nat} {s : Int32} {e : Int32} (hF : w_lp (fun (s : Int32) => l_86_8 h x1 x2 s) n s = some e) (hX0 : (.inl (some (.int e)), h) = o) : ∀ (u4 : Value) (u5 : Value), k_Go X 1 86 (8, [.ref (11 + 1), .int x1, .int x2, .int s, u4, u5], []) h o := by
  exact w_lp_ok (P := (fun (s : Int32) => ∀ (u4 : Value) (u5 : Value), k_Go X 1 86 (8, [.ref (11 + 1), .int x1, .int x2, .int s, u4, u5], []) h o)) (Q := (fun (e : Int32) => ((.inl (some (.int e)), h) = o))) (fun s r hF hK hX => l_86_8_st hF hK (fun x hx => (hX _ hx))) n s e hF hX0
def p_86 (h : Hp) (x1 : Int32) : Option (Int32) :=
  w_lp (fun (s : Int32) => l_86_8 h x1 ((h 11 6) ||| (h 11 7)) s) w_N 0
theorem p_86_ok {X : List Int32}  {h : Hp} {x1 : Int32}  {r : Int32} (hF : p_86 h x1 = some r) : k_Ev X 1 86 [.ref (11 + 1), .int x1] h (.inl (some (.int r)), h) := by
  refine k_of hk_86 ?_
  show k_Go X 1 86 (0, [.ref (11 + 1), .int x1, (.retAddr 0), (.retAddr 0), (.retAddr 0), (.retAddr 0)], []) h _
  unfold p_86 at hF
  refine kg_aload hk_86 rfl rfl rfl ?_
  refine kg_get (v := .int (h 11 6)) hk_86 rfl wk_11_6 rfl rfl ?_
  refine kg_aload hk_86 rfl rfl rfl ?_
  refine kg_get (v := .int (h 11 7)) hk_86 rfl wk_11_7 rfl rfl ?_
  refine kg_bin (z := ((h 11 6) ||| (h 11 7))) hk_86 rfl rfl rfl ?_
  refine kg_istore (L2 := [.ref (11 + 1), .int x1, .int ((h 11 6) ||| (h 11 7)), (.retAddr 0), (.retAddr 0), (.retAddr 0)]) hk_86 rfl (Nat.le_of_ble_eq_true rfl) rfl rfl ?_
  refine kg_push (x := 0) hk_86 rfl (by decide) rfl ?_
  refine kg_istore (L2 := [.ref (11 + 1), .int x1, .int ((h 11 6) ||| (h 11 7)), .int 0, (.retAddr 0), (.retAddr 0)]) hk_86 rfl (Nat.le_of_ble_eq_true rfl) rfl rfl ?_
  exact l_86_8_ok hF rfl _ _
-- NotebookWeir$Web.putInOrder()V
theorem hk_85 : jP[85]? = some (jc_85, 4, [], []) := by rfl
def l_85_7 (x1 : Int32) (x2 : Int32) (h : Hp) : Option ((Int32 × Int32 × Hp) ⊕ Hp) :=
  if x2 < (h 11 8) then
    ((p_86 h x1).bind fun vz3 =>
    if vz3 = (-1) then
      (some (.inr h))
    else
      (w_gd (w_ix (h 11 5) 16) <|
      w_let (w_up h 16 ((h 11 5).toNatClampNeg) vz3) fun hz6 =>
      w_let (w_up hz6 11 5 ((hz6 11 5) + 1)) fun hz7 =>
      some (.inl ((x1 ||| (1 <<< (vz3 &&& 31))), (x2 + 1), hz7))))
  else
    (some (.inr h))
theorem l_85_7_st {X : List Int32} {o : kO}  {h : Hp} {x1 : Int32} {x2 : Int32}  {r : (Int32 × Int32 × Hp) ⊕ Hp} (hF : l_85_7 x1 x2 h = some r) (hK : ∀ s' : Int32 × Int32 × Hp, r = .inl s' → ∀ (u3 : Value), k_Go X 2 85 (7, [.ref (11 + 1), .int (s'.1), .int (s'.2.1), u3], []) s'.2.2 o) (hX0 : ∀ e : Hp, r = .inr e → (.inl none, e) = o) : ∀ (u3 : Value), k_Go X 2 85 (7, [.ref (11 + 1), .int x1, .int x2, u3], []) h o := by
  intro u3
  refine kg_iload hk_85 rfl rfl rfl ?_
  refine kg_aload hk_85 rfl rfl rfl ?_
  refine kg_get (v := .int (h 11 8)) hk_85 rfl wk_11_8 rfl rfl ?_
  refine wf_if hF (fun cz2 hF => ?_) (fun cz2 hF => ?_)
  · refine kg_icF hk_85 rfl (jc_F3 cz2) rfl ?_
    refine kg_aload hk_85 rfl rfl rfl ?_
    refine kg_iload hk_85 rfl rfl rfl ?_
    refine wf_bind hF (fun vz3 hvz3 hF => ?_)
    refine kg_call (as := [.ref (11 + 1), .int x1]) (rest := []) hk_85 rfl (Or.inr (Or.inr (Or.inr ⟨Or.inl rfl, _, _, rfl, wc_11⟩))) rfl rfl rfl (Nat.not_lt.mpr (Nat.le_of_ble_eq_true rfl)) (p_86_ok hvz3) (by decide) rfl ?_
    refine kg_istore (L2 := [.ref (11 + 1), .int x1, .int x2, .int vz3]) hk_85 rfl (Nat.le_of_ble_eq_true rfl) rfl rfl ?_
    refine kg_iload hk_85 rfl rfl rfl ?_
    refine kg_push (x := (-1)) hk_85 rfl (by decide) rfl ?_
    refine wf_if hF (fun cz4 hF => ?_) (fun cz4 hF => ?_)
    · refine kg_icF hk_85 rfl (jc_F1 cz4) rfl ?_
      have hF := Option.some.inj hF
      exact kg_ret hk_85 rfl (hX0 _ hF.symm)
    · refine kg_icT hk_85 rfl (jc_T1 cz4) ?_
      refine kg_aload hk_85 rfl rfl rfl ?_
      refine kg_get (v := .ref (16 + 1)) hk_85 rfl wk_11_4 rfl rfl ?_
      refine kg_aload hk_85 rfl rfl rfl ?_
      refine kg_get (v := .int (h 11 5)) hk_85 rfl wk_11_5 rfl rfl ?_
      refine kg_iload hk_85 rfl rfl rfl ?_
      refine wf_gd hF (fun gz5 hF => ?_)
      refine wf_let hF (fun hz6 hhz6 hF => ?_)
      refine kg_ast hk_85 rfl wc_16 gz5 hhz6 rfl ?_
      refine kg_aload hk_85 rfl rfl rfl ?_
      refine kg_dup hk_85 rfl rfl rfl ?_
      refine kg_get (v := .int (hz6 11 5)) hk_85 rfl wk_11_5 rfl rfl ?_
      refine kg_push (x := 1) hk_85 rfl (by decide) rfl ?_
      refine kg_bin (z := ((hz6 11 5) + 1)) hk_85 rfl rfl rfl ?_
      refine wf_let hF (fun hz7 hhz7 hF => ?_)
      refine kg_put hk_85 rfl wk_11_5 rfl rfl hhz7 rfl ?_
      refine kg_iload hk_85 rfl rfl rfl ?_
      refine kg_push (x := 1) hk_85 rfl (by decide) rfl ?_
      refine kg_iload hk_85 rfl rfl rfl ?_
      refine kg_bin (z := (1 <<< (vz3 &&& 31))) hk_85 rfl rfl rfl ?_
      refine kg_bin (z := (x1 ||| (1 <<< (vz3 &&& 31)))) hk_85 rfl rfl rfl ?_
      refine kg_istore (L2 := [.ref (11 + 1), .int (x1 ||| (1 <<< (vz3 &&& 31))), .int x2, .int vz3]) hk_85 rfl (Nat.le_of_ble_eq_true rfl) rfl rfl ?_
      refine kg_iinc (y := (x2 + 1)) (L2 := [.ref (11 + 1), .int (x1 ||| (1 <<< (vz3 &&& 31))), .int (x2 + 1), .int vz3]) hk_85 rfl rfl rfl rfl rfl ?_
      refine kg_goto hk_85 rfl ?_
      have hF := Option.some.inj hF
      exact hK _ hF.symm _
  · refine kg_icT hk_85 rfl (jc_T3 cz2) ?_
    have hF := Option.some.inj hF
    exact kg_ret hk_85 rfl (hX0 _ hF.symm)
theorem l_85_7_ok {X : List Int32} {o : kO}    {n : Nat} {s : Int32 × Int32 × Hp} {e : Hp} (hF : w_lp (fun (s : Int32 × Int32 × Hp) => l_85_7 s.1 s.2.1 s.2.2) n s = some e) (hX0 : (.inl none, e) = o) : ∀ (u3 : Value), k_Go X 2 85 (7, [.ref (11 + 1), .int s.1, .int s.2.1, u3], []) s.2.2 o := by
  exact w_lp_ok (P := (fun (s : Int32 × Int32 × Hp) => ∀ (u3 : Value), k_Go X 2 85 (7, [.ref (11 + 1), .int s.1, .int s.2.1, u3], []) s.2.2 o)) (Q := (fun (e : Hp) => ((.inl none, e) = o))) (fun s r hF hK hX => l_85_7_st hF hK (fun x hx => (hX _ hx))) n s e hF hX0
def p_85 (h : Hp) : Option (Hp) :=
  w_let (w_up h 11 5 0) fun hz1 =>
  w_lp (fun (s : Int32 × Int32 × Hp) => l_85_7 s.1 s.2.1 s.2.2) w_N (0, 0, hz1)
theorem p_85_ok {X : List Int32}  {h : Hp}   {r : Hp} (hF : p_85 h = some r) : k_Ev X 2 85 [.ref (11 + 1)] h (.inl none, r) := by
  refine k_of hk_85 ?_
  show k_Go X 2 85 (0, [.ref (11 + 1), (.retAddr 0), (.retAddr 0), (.retAddr 0)], []) h _
  unfold p_85 at hF
  refine kg_push (x := 0) hk_85 rfl (by decide) rfl ?_
  refine kg_istore (L2 := [.ref (11 + 1), .int 0, (.retAddr 0), (.retAddr 0)]) hk_85 rfl (Nat.le_of_ble_eq_true rfl) rfl rfl ?_
  refine kg_aload hk_85 rfl rfl rfl ?_
  refine kg_push (x := 0) hk_85 rfl (by decide) rfl ?_
  refine wf_let hF (fun hz1 hhz1 hF => ?_)
  refine kg_put hk_85 rfl wk_11_5 rfl rfl hhz1 rfl ?_
  refine kg_push (x := 0) hk_85 rfl (by decide) rfl ?_
  refine kg_istore (L2 := [.ref (11 + 1), .int 0, .int 0, (.retAddr 0)]) hk_85 rfl (Nat.le_of_ble_eq_true rfl) rfl rfl ?_
  exact l_85_7_ok hF rfl _
-- NotebookWeir$Web.weave([LNotebookWeir$Cell;ILNotebookWeir$Widgets;)V
theorem hk_78 : jP[78]? = some (jc_78, 5, [], []) := by rfl
def l_78_10 (x4 : Int32) (h : Hp) : Option ((Int32 × Hp) ⊕ Hp) :=
  if x4 < 26 then
    ((p_79 h x4).bind fun vz4 =>
    some (.inl ((x4 + 1), vz4)))
  else
    (some (.inr h))
theorem l_78_10_st {X : List Int32} {o : kO}  {h : Hp} {x4 : Int32}  {r : (Int32 × Hp) ⊕ Hp} (hF : l_78_10 x4 h = some r) (hK : ∀ s' : Int32 × Hp, r = .inl s' → ∀ (u2 : Value), k_Go X 4 78 (10, [.ref (11 + 1), .ref (2 + 1), u2, .ref (4 + 1), .int (s'.1)], []) s'.2 o) (hX0 : ∀ e : Hp, r = .inr e → ∀ (u2 : Value) (u3 : Value) (u4 : Value), k_Go X 4 78 (20, [.ref (11 + 1), .ref (2 + 1), u2, u3, u4], []) e o) : ∀ (u2 : Value), k_Go X 4 78 (10, [.ref (11 + 1), .ref (2 + 1), u2, .ref (4 + 1), .int x4], []) h o := by
  intro u2
  refine kg_iload hk_78 rfl rfl rfl ?_
  refine kg_push (x := 26) hk_78 rfl (by decide) rfl ?_
  refine wf_if hF (fun cz3 hF => ?_) (fun cz3 hF => ?_)
  · refine kg_icF hk_78 rfl (jc_F3 cz3) rfl ?_
    refine kg_aload hk_78 rfl rfl rfl ?_
    refine kg_iload hk_78 rfl rfl rfl ?_
    refine kg_aload hk_78 rfl rfl rfl ?_
    refine kg_aload hk_78 rfl rfl rfl ?_
    refine wf_bind hF (fun vz4 hvz4 hF => ?_)
    refine kg_call (as := [.ref (11 + 1), .int x4, .ref (2 + 1), .ref (4 + 1)]) (rest := []) hk_78 rfl (Or.inr (Or.inr (Or.inr ⟨Or.inl rfl, _, _, rfl, wc_11⟩))) rfl rfl rfl (Nat.not_lt.mpr (Nat.le_of_ble_eq_true rfl)) (p_79_ok hvz4) (by decide) rfl ?_
    refine kg_iinc (y := (x4 + 1)) (L2 := [.ref (11 + 1), .ref (2 + 1), u2, .ref (4 + 1), .int (x4 + 1)]) hk_78 rfl rfl rfl rfl rfl ?_
    refine kg_goto hk_78 rfl ?_
    have hF := Option.some.inj hF
    exact hK _ hF.symm _
  · refine kg_icT hk_78 rfl (jc_T3 cz3) ?_
    have hF := Option.some.inj hF
    exact hX0 _ hF.symm _ _ _
theorem l_78_10_ok {X : List Int32} {o : kO}    {n : Nat} {s : Int32 × Hp} {e : Hp} (hF : w_lp (fun (s : Int32 × Hp) => l_78_10 s.1 s.2) n s = some e) (hX0 : ∀ (u2 : Value) (u3 : Value) (u4 : Value), k_Go X 4 78 (20, [.ref (11 + 1), .ref (2 + 1), u2, u3, u4], []) e o) : ∀ (u2 : Value), k_Go X 4 78 (10, [.ref (11 + 1), .ref (2 + 1), u2, .ref (4 + 1), .int s.1], []) s.2 o := by
  exact w_lp_ok (P := (fun (s : Int32 × Hp) => ∀ (u2 : Value), k_Go X 4 78 (10, [.ref (11 + 1), .ref (2 + 1), u2, .ref (4 + 1), .int s.1], []) s.2 o)) (Q := (fun (e : Hp) => (∀ (u2 : Value) (u3 : Value) (u4 : Value), k_Go X 4 78 (20, [.ref (11 + 1), .ref (2 + 1), u2, u3, u4], []) e o))) (fun s r hF hK hX => l_78_10_st hF hK (fun x hx => (hX _ hx))) n s e hF hX0
def l_78_22 (x4 : Int32) (h : Hp) : Option ((Int32 × Hp) ⊕ Hp) :=
  if x4 < (h 11 8) then
    (w_gd (w_ix x4 16) <|
    (p_80 h x4 (h (64 * x4.toNatClampNeg + 55) 7)).bind fun vz9 =>
    w_gd (w_ix x4 16) <|
    w_let (w_up h 14 x4.toNatClampNeg vz9) fun hz11 =>
    w_gd (w_ix x4 16) <|
    w_gd (w_ix x4 16) <|
    w_let (w_up hz11 15 x4.toNatClampNeg ((hz11 14 x4.toNatClampNeg) &&& 65535)) fun hz14 =>
    some (.inl ((x4 + 1), hz14)))
  else
    (some (.inr h))
theorem l_78_22_st {X : List Int32} {o : kO}  {h : Hp} {x4 : Int32}  {r : (Int32 × Hp) ⊕ Hp} (hF : l_78_22 x4 h = some r) (hK : ∀ s' : Int32 × Hp, r = .inl s' → ∀ (u2 : Value) (u3 : Value), k_Go X 4 78 (22, [.ref (11 + 1), .ref (2 + 1), u2, u3, .int (s'.1)], []) s'.2 o) (hX0 : ∀ e : Hp, r = .inr e → ∀ (u1 : Value) (u2 : Value) (u3 : Value) (u4 : Value), k_Go X 4 78 (50, [.ref (11 + 1), u1, u2, u3, u4], []) e o) : ∀ (u2 : Value) (u3 : Value), k_Go X 4 78 (22, [.ref (11 + 1), .ref (2 + 1), u2, u3, .int x4], []) h o := by
  intro u2 u3
  refine kg_iload hk_78 rfl rfl rfl ?_
  refine kg_aload hk_78 rfl rfl rfl ?_
  refine kg_get (v := .int (h 11 8)) hk_78 rfl wk_11_8 rfl rfl ?_
  refine wf_if hF (fun cz6 hF => ?_) (fun cz6 hF => ?_)
  · refine kg_icF hk_78 rfl (jc_F3 cz6) rfl ?_
    refine kg_aload hk_78 rfl rfl rfl ?_
    refine kg_get (v := .ref (14 + 1)) hk_78 rfl wk_11_2 rfl rfl ?_
    refine kg_iload hk_78 rfl rfl rfl ?_
    refine kg_aload hk_78 rfl rfl rfl ?_
    refine kg_iload hk_78 rfl rfl rfl ?_
    refine kg_aload hk_78 rfl rfl rfl ?_
    refine kg_iload hk_78 rfl rfl rfl ?_
    refine wf_gd hF (fun gz7 hF => ?_)
    have hez8 := w_E we_61 wc_2 gz7
    refine kg_aald (y := (64 * x4.toNatClampNeg + 52)) hk_78 rfl gz7 hez8.1 rfl ?_
    refine kg_get (v := .ref ((64 * x4.toNatClampNeg + 55) + 1)) hk_78 rfl (wf_0_1 hez8.2) rfl rfl ?_
    refine kg_get (v := .int (h (64 * x4.toNatClampNeg + 55) 7)) hk_78 rfl (wf_1_7 (wo_0_1 hez8.2)) rfl rfl ?_
    refine wf_bind hF (fun vz9 hvz9 hF => ?_)
    refine kg_call (as := [.ref (11 + 1), .int x4, .int (h (64 * x4.toNatClampNeg + 55) 7)]) (rest := [.int x4, .ref (14 + 1)]) hk_78 rfl (Or.inr (Or.inr (Or.inr ⟨Or.inl rfl, _, _, rfl, wc_11⟩))) rfl rfl rfl (Nat.not_lt.mpr (Nat.le_of_ble_eq_true rfl)) (p_80_ok hvz9) (by decide) rfl ?_
    refine wf_gd hF (fun gz10 hF => ?_)
    refine wf_let hF (fun hz11 hhz11 hF => ?_)
    refine kg_ast hk_78 rfl wc_14 gz10 hhz11 rfl ?_
    refine kg_aload hk_78 rfl rfl rfl ?_
    refine kg_get (v := .ref (15 + 1)) hk_78 rfl wk_11_3 rfl rfl ?_
    refine kg_iload hk_78 rfl rfl rfl ?_
    refine kg_aload hk_78 rfl rfl rfl ?_
    refine kg_get (v := .ref (14 + 1)) hk_78 rfl wk_11_2 rfl rfl ?_
    refine kg_iload hk_78 rfl rfl rfl ?_
    refine wf_gd hF (fun gz12 hF => ?_)
    refine kg_ald (y := (hz11 14 x4.toNatClampNeg)) hk_78 rfl wc_14 gz12 rfl rfl ?_
    refine kg_push (x := 65535) hk_78 rfl (by decide) rfl ?_
    refine kg_bin (z := ((hz11 14 x4.toNatClampNeg) &&& 65535)) hk_78 rfl rfl rfl ?_
    refine wf_gd hF (fun gz13 hF => ?_)
    refine wf_let hF (fun hz14 hhz14 hF => ?_)
    refine kg_ast hk_78 rfl wc_15 gz13 hhz14 rfl ?_
    refine kg_iinc (y := (x4 + 1)) (L2 := [.ref (11 + 1), .ref (2 + 1), u2, u3, .int (x4 + 1)]) hk_78 rfl rfl rfl rfl rfl ?_
    refine kg_goto hk_78 rfl ?_
    have hF := Option.some.inj hF
    exact hK _ hF.symm _ _
  · refine kg_icT hk_78 rfl (jc_T3 cz6) ?_
    have hF := Option.some.inj hF
    exact hX0 _ hF.symm _ _ _ _
theorem l_78_22_ok {X : List Int32} {o : kO}    {n : Nat} {s : Int32 × Hp} {e : Hp} (hF : w_lp (fun (s : Int32 × Hp) => l_78_22 s.1 s.2) n s = some e) (hX0 : ∀ (u1 : Value) (u2 : Value) (u3 : Value) (u4 : Value), k_Go X 4 78 (50, [.ref (11 + 1), u1, u2, u3, u4], []) e o) : ∀ (u2 : Value) (u3 : Value), k_Go X 4 78 (22, [.ref (11 + 1), .ref (2 + 1), u2, u3, .int s.1], []) s.2 o := by
  exact w_lp_ok (P := (fun (s : Int32 × Hp) => ∀ (u2 : Value) (u3 : Value), k_Go X 4 78 (22, [.ref (11 + 1), .ref (2 + 1), u2, u3, .int s.1], []) s.2 o)) (Q := (fun (e : Hp) => (∀ (u1 : Value) (u2 : Value) (u3 : Value) (u4 : Value), k_Go X 4 78 (50, [.ref (11 + 1), u1, u2, u3, u4], []) e o))) (fun s r hF hK hX => l_78_22_st hF hK (fun x hx => (hX _ hx))) n s e hF hX0
def p_78 (h : Hp) (x2 : Int32) : Option (Hp) :=
  w_let (w_up h 11 8 (if 16 < x2 then 16 else x2 : Int32)) fun hz1 =>
  w_let (w_up hz1 11 6 0) fun hz2 =>
  (w_lp (fun (s : Int32 × Hp) => l_78_10 s.1 s.2) w_N (0, hz2)).bind fun ez5 =>
  (w_lp (fun (s : Int32 × Hp) => l_78_22 s.1 s.2) w_N (0, ez5)).bind fun ez15 =>
  (p_83 ez15).bind fun vz16 =>
  (p_85 vz16).bind fun vz17 =>
  some vz17
theorem p_78_ok {X : List Int32}  {h : Hp} {x2 : Int32}  {r : Hp} (hF : p_78 h x2 = some r) : k_Ev X 4 78 [.ref (11 + 1), .ref (2 + 1), .int x2, .ref (4 + 1)] h (.inl none, r) := by
  refine k_of hk_78 ?_
  show k_Go X 4 78 (0, [.ref (11 + 1), .ref (2 + 1), .int x2, .ref (4 + 1), (.retAddr 0)], []) h _
  unfold p_78 at hF
  refine kg_aload hk_78 rfl rfl rfl ?_
  refine kg_iload hk_78 rfl rfl rfl ?_
  refine kg_push (x := 16) hk_78 rfl (by decide) rfl ?_
  refine kg_min hk_78 rfl (Nat.not_lt.mpr (Nat.le_of_ble_eq_true rfl)) rfl ?_
  refine wf_let hF (fun hz1 hhz1 hF => ?_)
  refine kg_put hk_78 rfl wk_11_8 rfl rfl hhz1 rfl ?_
  refine kg_aload hk_78 rfl rfl rfl ?_
  refine kg_push (x := 0) hk_78 rfl (by decide) rfl ?_
  refine wf_let hF (fun hz2 hhz2 hF => ?_)
  refine kg_put hk_78 rfl wk_11_6 rfl rfl hhz2 rfl ?_
  refine kg_push (x := 0) hk_78 rfl (by decide) rfl ?_
  refine kg_istore (L2 := [.ref (11 + 1), .ref (2 + 1), .int x2, .ref (4 + 1), .int 0]) hk_78 rfl (Nat.le_of_ble_eq_true rfl) rfl rfl ?_
  refine wf_bind hF (fun ez5 hez5 hF => ?_)
  refine l_78_10_ok hez5 ?_ _
  intro u2 u3 u4
  refine kg_push (x := 0) hk_78 rfl (by decide) rfl ?_
  refine kg_istore (L2 := [.ref (11 + 1), .ref (2 + 1), u2, u3, .int 0]) hk_78 rfl (Nat.le_of_ble_eq_true rfl) rfl rfl ?_
  refine wf_bind hF (fun ez15 hez15 hF => ?_)
  refine l_78_22_ok hez15 ?_ _ _
  intro u1 u2 u3 u4
  refine kg_aload hk_78 rfl rfl rfl ?_
  refine wf_bind hF (fun vz16 hvz16 hF => ?_)
  refine kg_call (as := [.ref (11 + 1)]) (rest := []) hk_78 rfl (Or.inr (Or.inr (Or.inr ⟨Or.inl rfl, _, _, rfl, wc_11⟩))) rfl rfl rfl (Nat.not_lt.mpr (Nat.le_of_ble_eq_true rfl)) (p_83_ok hvz16) (by decide) rfl ?_
  refine kg_aload hk_78 rfl rfl rfl ?_
  refine wf_bind hF (fun vz17 hvz17 hF => ?_)
  refine kg_call (as := [.ref (11 + 1)]) (rest := []) hk_78 rfl (Or.inr (Or.inr (Or.inr ⟨Or.inl rfl, _, _, rfl, wc_11⟩))) rfl rfl rfl (Nat.not_lt.mpr (Nat.le_of_ble_eq_true rfl)) (p_85_ok hvz17) (by decide) rfl ?_
  have hF := Option.some.inj hF
  subst hF
  exact kg_ret hk_78 rfl rfl
-- NotebookWeir$Web.lastGiver(I)I
theorem hk_82 : jP[82]? = some (jc_82, 3, [], []) := by rfl
def p_82 (h : Hp) (x1 : Int32) : Option (Int32) :=
  if x1 < 0 then
    (some (-1))
  else
    (if x1 < 26 then
      (w_gd (w_ix x1 26) <|
      (p_267 h (h 12 x1.toNatClampNeg)).bind fun vz4 =>
      if vz4 = 1 then
        (w_gd (w_ix x1 26) <|
        (p_127 h (h 13 x1.toNatClampNeg)).bind fun vz7 =>
        if vz7 = (-1) then
          (w_gd (w_ix x1 26) <|
          (p_127 h (h 12 x1.toNatClampNeg)).bind fun vz10 =>
          some vz10)
        else
          (some vz7))
      else
        (some (-1)))
    else
      (some (-1)))
theorem p_82_ok {X : List Int32}  {h : Hp} {x1 : Int32}  {r : Int32} (hF : p_82 h x1 = some r) : k_Ev X 2 82 [.ref (11 + 1), .int x1] h (.inl (some (.int r)), h) := by
  refine k_of hk_82 ?_
  show k_Go X 2 82 (0, [.ref (11 + 1), .int x1, (.retAddr 0)], []) h _
  unfold p_82 at hF
  refine kg_iload hk_82 rfl rfl rfl ?_
  refine wf_if hF (fun cz1 hF => ?_) (fun cz1 hF => ?_)
  · refine kg_ifT hk_82 rfl (jc_T2 cz1) ?_
    refine kg_push (x := (-1)) hk_82 rfl (by decide) rfl ?_
    have hF := Option.some.inj hF
    subst hF
    exact kg_iret hk_82 rfl (Or.inl rfl) rfl
  · refine kg_ifF hk_82 rfl (jc_F2 cz1) rfl ?_
    refine kg_iload hk_82 rfl rfl rfl ?_
    refine kg_push (x := 26) hk_82 rfl (by decide) rfl ?_
    refine wf_if hF (fun cz2 hF => ?_) (fun cz2 hF => ?_)
    · refine kg_icF hk_82 rfl (jc_F3 cz2) rfl ?_
      refine kg_aload hk_82 rfl rfl rfl ?_
      refine kg_get (v := .ref (12 + 1)) hk_82 rfl wk_11_0 rfl rfl ?_
      refine kg_iload hk_82 rfl rfl rfl ?_
      refine wf_gd hF (fun gz3 hF => ?_)
      refine kg_ald (y := (h 12 x1.toNatClampNeg)) hk_82 rfl wc_12 gz3 rfl rfl ?_
      refine wf_bind hF (fun vz4 hvz4 hF => ?_)
      refine kg_call (as := [.int (h 12 x1.toNatClampNeg)]) (rest := []) hk_82 rfl (Or.inl rfl) rfl rfl rfl (Nat.not_lt.mpr (Nat.le_of_ble_eq_true rfl)) (p_267_ok hvz4) (by decide) rfl ?_
      refine kg_push (x := 1) hk_82 rfl (by decide) rfl ?_
      refine wf_if hF (fun cz5 hF => ?_) (fun cz5 hF => ?_)
      · refine kg_icT hk_82 rfl (jc_T0 cz5) ?_
        refine kg_aload hk_82 rfl rfl rfl ?_
        refine kg_get (v := .ref (13 + 1)) hk_82 rfl wk_11_1 rfl rfl ?_
        refine kg_iload hk_82 rfl rfl rfl ?_
        refine wf_gd hF (fun gz6 hF => ?_)
        refine kg_ald (y := (h 13 x1.toNatClampNeg)) hk_82 rfl wc_13 gz6 rfl rfl ?_
        refine wf_bind hF (fun vz7 hvz7 hF => ?_)
        refine kg_call (as := [.int (h 13 x1.toNatClampNeg)]) (rest := []) hk_82 rfl (Or.inr (Or.inl rfl)) rfl rfl rfl (Nat.not_lt.mpr (Nat.le_of_ble_eq_true rfl)) (p_127_ok hvz7) (by decide) rfl ?_
        refine kg_istore (L2 := [.ref (11 + 1), .int x1, .int vz7]) hk_82 rfl (Nat.le_of_ble_eq_true rfl) rfl rfl ?_
        refine kg_iload hk_82 rfl rfl rfl ?_
        refine kg_push (x := (-1)) hk_82 rfl (by decide) rfl ?_
        refine wf_if hF (fun cz8 hF => ?_) (fun cz8 hF => ?_)
        · refine kg_icT hk_82 rfl (jc_T0 cz8) ?_
          refine kg_aload hk_82 rfl rfl rfl ?_
          refine kg_get (v := .ref (12 + 1)) hk_82 rfl wk_11_0 rfl rfl ?_
          refine kg_iload hk_82 rfl rfl rfl ?_
          refine wf_gd hF (fun gz9 hF => ?_)
          refine kg_ald (y := (h 12 x1.toNatClampNeg)) hk_82 rfl wc_12 gz9 rfl rfl ?_
          refine wf_bind hF (fun vz10 hvz10 hF => ?_)
          refine kg_call (as := [.int (h 12 x1.toNatClampNeg)]) (rest := []) hk_82 rfl (Or.inr (Or.inl rfl)) rfl rfl rfl (Nat.not_lt.mpr (Nat.le_of_ble_eq_true rfl)) (p_127_ok hvz10) (by decide) rfl ?_
          have hF := Option.some.inj hF
          subst hF
          exact kg_iret hk_82 rfl (Or.inl rfl) rfl
        · refine kg_icF hk_82 rfl (jc_F0 cz8) rfl ?_
          refine kg_iload hk_82 rfl rfl rfl ?_
          refine kg_goto hk_82 rfl ?_
          have hF := Option.some.inj hF
          subst hF
          exact kg_iret hk_82 rfl (Or.inl rfl) rfl
      · refine kg_icF hk_82 rfl (jc_F0 cz5) rfl ?_
        refine kg_push (x := (-1)) hk_82 rfl (by decide) rfl ?_
        have hF := Option.some.inj hF
        subst hF
        exact kg_iret hk_82 rfl (Or.inl rfl) rfl
    · refine kg_icT hk_82 rfl (jc_T3 cz2) ?_
      refine kg_push (x := (-1)) hk_82 rfl (by decide) rfl ?_
      have hF := Option.some.inj hF
      subst hF
      exact kg_iret hk_82 rfl (Or.inl rfl) rfl
-- NotebookWeir$Web.ringOf(I)I
theorem hk_84 : jP[84]? = some (jc_84, 5, [], []) := by rfl
def q_84_25 (h : Hp) (x1 : Int32) (x2 : Int32) (x3 : Int32) (s0 : Int32) : Option ((Int32 × Int32) ⊕ Int32) :=
  some (.inl ((x2 ||| (if s0 = 0 then 0 else (1 <<< (x3 &&& 31)) : Int32)), (x3 + 1)))
theorem q_84_25_ok {X : List Int32} {o : kO}  {h : Hp} {s0 : Int32} {x1 : Int32} {x2 : Int32} {x3 : Int32}  {r : (Int32 × Int32) ⊕ Int32} (hF : q_84_25 h x1 x2 x3 s0 = some r) (hK : ∀ s' : Int32 × Int32, r = .inl s' → ∀ (u4 : Value), k_Go X 1 84 (4, [.ref (11 + 1), .int x1, .int (s'.1), .int (s'.2), u4], []) h o) (hX0 : ∀ e : Int32, r = .inr e → (.inl (some (.int e)), h) = o) : ∀ (u4 : Value), k_Go X 1 84 (25, [.ref (11 + 1), .int x1, .int x2, .int x3, u4], [.int s0]) h o := by
  intro u4
  unfold q_84_25 at hF
  refine kg_istore (L2 := [.ref (11 + 1), .int x1, .int x2, .int x3, .int s0]) hk_84 rfl (Nat.le_of_ble_eq_true rfl) rfl rfl ?_
  refine kg_iload hk_84 rfl rfl rfl ?_
  refine kg_iload hk_84 rfl rfl rfl ?_
  refine kv_mid (p := 34) (L := [.ref (11 + 1), .int x1, .int x2, .int x3, .int s0]) (S := [.int (if s0 = 0 then 0 else (1 <<< (x3 &&& 31)) : Int32), .int x2]) ?_ (fun hK => ?_)
  · refine kg_bin (z := (x2 ||| (if s0 = 0 then 0 else (1 <<< (x3 &&& 31)) : Int32))) hk_84 rfl rfl rfl ?_
    refine kg_istore (L2 := [.ref (11 + 1), .int x1, .int (x2 ||| (if s0 = 0 then 0 else (1 <<< (x3 &&& 31)) : Int32)), .int x3, .int s0]) hk_84 rfl (Nat.le_of_ble_eq_true rfl) rfl rfl ?_
    refine kg_iinc (y := (x3 + 1)) (L2 := [.ref (11 + 1), .int x1, .int (x2 ||| (if s0 = 0 then 0 else (1 <<< (x3 &&& 31)) : Int32)), .int (x3 + 1), .int s0]) hk_84 rfl rfl rfl rfl rfl ?_
    refine kg_goto hk_84 rfl ?_
    have hF := Option.some.inj hF
    exact hK _ hF.symm _
  · by_cases cz7 : s0 = 0
    · have hK := kv_T cz7 hK
      refine kg_ifT hk_84 rfl (jc_T0 cz7) ?_
      refine kg_push (x := 0) hk_84 rfl (by decide) rfl ?_
      exact hK
    · have hK := kv_F cz7 hK
      refine kg_ifF hk_84 rfl (jc_F0 cz7) rfl ?_
      refine kg_push (x := 1) hk_84 rfl (by decide) rfl ?_
      refine kg_iload hk_84 rfl rfl rfl ?_
      refine kg_bin (z := (1 <<< (x3 &&& 31))) hk_84 rfl rfl rfl ?_
      refine kg_goto hk_84 rfl ?_
      exact hK
def l_84_4 (h : Hp) (x1 : Int32) (x2 : Int32) (x3 : Int32) : Option ((Int32 × Int32) ⊕ Int32) :=
  if x3 < (h 11 8) then
    (w_gd (w_ix x1 16) <|
    w_gd ((if (v_126 (h 15 x1.toNatClampNeg) x3) = 0 then true else w_ix x3 16)) <|
    q_84_25 h x1 x2 x3 (if (v_126 (h 15 x1.toNatClampNeg) x3) = 0 then 0 else (if (v_126 (h 15 x3.toNatClampNeg) x1) = 0 then 0 else 1 : Int32) : Int32))
  else
    (some (.inr x2))
theorem l_84_4_st {X : List Int32} {o : kO}  {h : Hp} {x1 : Int32} {x2 : Int32} {x3 : Int32}  {r : (Int32 × Int32) ⊕ Int32} (hF : l_84_4 h x1 x2 x3 = some r) (hK : ∀ s' : Int32 × Int32, r = .inl s' → ∀ (u4 : Value), k_Go X 1 84 (4, [.ref (11 + 1), .int x1, .int (s'.1), .int (s'.2), u4], []) h o) (hX0 : ∀ e : Int32, r = .inr e → (.inl (some (.int e)), h) = o) : ∀ (u4 : Value), k_Go X 1 84 (4, [.ref (11 + 1), .int x1, .int x2, .int x3, u4], []) h o := by
  intro u4
  refine kg_iload hk_84 rfl rfl rfl ?_
  refine kg_aload hk_84 rfl rfl rfl ?_
  refine kg_get (v := .int (h 11 8)) hk_84 rfl wk_11_8 rfl rfl ?_
  refine wf_if hF (fun cz1 hF => ?_) (fun cz1 hF => ?_)
  · refine kg_icF hk_84 rfl (jc_F3 cz1) rfl ?_
    refine kg_aload hk_84 rfl rfl rfl ?_
    refine kg_get (v := .ref (15 + 1)) hk_84 rfl wk_11_3 rfl rfl ?_
    refine kg_iload hk_84 rfl rfl rfl ?_
    refine wf_gd hF (fun gz2 hF => ?_)
    refine kg_ald (y := (h 15 x1.toNatClampNeg)) hk_84 rfl wc_15 gz2 rfl rfl ?_
    refine kg_iload hk_84 rfl rfl rfl ?_
    refine kg_call (as := [.int (h 15 x1.toNatClampNeg), .int x3]) (rest := []) hk_84 rfl (Or.inr (Or.inl rfl)) rfl rfl rfl (Nat.not_lt.mpr (Nat.le_of_ble_eq_true rfl)) (v_126_ok) (by decide) rfl ?_
    refine wf_gd hF (fun gz6 hF => ?_)
    refine kv_mid (p := 25) (L := [.ref (11 + 1), .int x1, .int x2, .int x3, u4]) (S := [.int (if (v_126 (h 15 x1.toNatClampNeg) x3) = 0 then 0 else (if (v_126 (h 15 x3.toNatClampNeg) x1) = 0 then 0 else 1 : Int32) : Int32)]) ?_ (fun hK => ?_)
    · exact q_84_25_ok hF hK hX0 _
    · have hg := gz6
      by_cases cz3 : (v_126 (h 15 x1.toNatClampNeg) x3) = 0
      · have hK := kv_T cz3 hK
        refine kg_ifT hk_84 rfl (jc_T0 cz3) ?_
        refine kg_push (x := 0) hk_84 rfl (by decide) rfl ?_
        exact hK
      · have hg := wv_F cz3 hg
        have hK := kv_F cz3 hK
        have gz4 := hg
        refine kg_ifF hk_84 rfl (jc_F0 cz3) rfl ?_
        refine kg_aload hk_84 rfl rfl rfl ?_
        refine kg_get (v := .ref (15 + 1)) hk_84 rfl wk_11_3 rfl rfl ?_
        refine kg_iload hk_84 rfl rfl rfl ?_
        refine kg_ald (y := (h 15 x3.toNatClampNeg)) hk_84 rfl wc_15 gz4 rfl rfl ?_
        refine kg_iload hk_84 rfl rfl rfl ?_
        refine kg_call (as := [.int (h 15 x3.toNatClampNeg), .int x1]) (rest := []) hk_84 rfl (Or.inr (Or.inl rfl)) rfl rfl rfl (Nat.not_lt.mpr (Nat.le_of_ble_eq_true rfl)) (v_126_ok) (by decide) rfl ?_
        by_cases cz5 : (v_126 (h 15 x3.toNatClampNeg) x1) = 0
        · have hK := kv_T cz5 hK
          refine kg_ifT hk_84 rfl (jc_T0 cz5) ?_
          refine kg_push (x := 0) hk_84 rfl (by decide) rfl ?_
          exact hK
        · have hK := kv_F cz5 hK
          refine kg_ifF hk_84 rfl (jc_F0 cz5) rfl ?_
          refine kg_push (x := 1) hk_84 rfl (by decide) rfl ?_
          refine kg_goto hk_84 rfl ?_
          exact hK
  · refine kg_icT hk_84 rfl (jc_T3 cz1) ?_
    refine kg_iload hk_84 rfl rfl rfl ?_
    have hF := Option.some.inj hF
    exact kg_iret hk_84 rfl (Or.inl rfl) (hX0 _ hF.symm)
theorem l_84_4_ok {X : List Int32} {o : kO}  {h : Hp} {x1 : Int32}  {n : Nat} {s : Int32 × Int32} {e : Int32} (hF : w_lp (fun (s : Int32 × Int32) => l_84_4 h x1 s.1 s.2) n s = some e) (hX0 : (.inl (some (.int e)), h) = o) : ∀ (u4 : Value), k_Go X 1 84 (4, [.ref (11 + 1), .int x1, .int s.1, .int s.2, u4], []) h o := by
  exact w_lp_ok (P := (fun (s : Int32 × Int32) => ∀ (u4 : Value), k_Go X 1 84 (4, [.ref (11 + 1), .int x1, .int s.1, .int s.2, u4], []) h o)) (Q := (fun (e : Int32) => ((.inl (some (.int e)), h) = o))) (fun s r hF hK hX => l_84_4_st hF hK (fun x hx => (hX _ hx))) n s e hF hX0
def p_84 (h : Hp) (x1 : Int32) : Option (Int32) :=
  w_lp (fun (s : Int32 × Int32) => l_84_4 h x1 s.1 s.2) w_N (0, 0)
theorem p_84_ok {X : List Int32}  {h : Hp} {x1 : Int32}  {r : Int32} (hF : p_84 h x1 = some r) : k_Ev X 1 84 [.ref (11 + 1), .int x1] h (.inl (some (.int r)), h) := by
  refine k_of hk_84 ?_
  show k_Go X 1 84 (0, [.ref (11 + 1), .int x1, (.retAddr 0), (.retAddr 0), (.retAddr 0)], []) h _
  unfold p_84 at hF
  refine kg_push (x := 0) hk_84 rfl (by decide) rfl ?_
  refine kg_istore (L2 := [.ref (11 + 1), .int x1, .int 0, (.retAddr 0), (.retAddr 0)]) hk_84 rfl (Nat.le_of_ble_eq_true rfl) rfl rfl ?_
  refine kg_push (x := 0) hk_84 rfl (by decide) rfl ?_
  refine kg_istore (L2 := [.ref (11 + 1), .int x1, .int 0, .int 0, (.retAddr 0)]) hk_84 rfl (Nat.le_of_ble_eq_true rfl) rfl rfl ?_
  exact l_84_4_ok hF rfl _
