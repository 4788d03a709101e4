/-! ===== the methods as functions over the flat heap, and that the interpreter does what they say (printed by wip/whole/dec.py) ===== -/
-- NotebookWeirModel.readsStatements(I)V
theorem hk_164 : jP[164]? = some (jc_164, 7, [], []) := by rfl
def q_164_76 (h : Hp) (x1 : Int32) (x2 : Int32) (x4 : Int32) (x5 : Int32) (s0 : Int32) (s1 : Int32) : Option ((Int32 × Hp) ⊕ Int32 × Hp) :=
  w_let (w_up h 1076 67 ((h 1076 67) + 1)) fun hz19 =>
  some (.inl ((s1 ||| s0), hz19))
theorem q_164_76_ok {X : List Int32} {o : kO}  {h : Hp} {s0 : Int32} {s1 : Int32} {x1 : Int32} {x2 : Int32} {x4 : Int32} {x5 : Int32}  {r : (Int32 × Hp) ⊕ Int32 × Hp} (hF : q_164_76 h x1 x2 x4 x5 s0 s1 = some r) (hK : ∀ s' : Int32 × Hp, r = .inl s' → ∀ (u3 : Value), k_Go X 3 164 (48, [.ref (1076 + 1), .int x1, .int x2, u3, .int x4, .int x5, .int (s'.1)], []) s'.2 o) (hX0 : ∀ e : Int32 × Hp, r = .inr e → ∀ (u3 : Value), k_Go X 3 164 (85, [.ref (1076 + 1), .int x1, .int x2, u3, .int x4, .int x5, .int e.1], []) e.2 o) : ∀ (u3 : Value) (u6 : Value), k_Go X 3 164 (76, [.ref (1076 + 1), .int x1, .int x2, u3, .int x4, .int x5, u6], [.int s0, .int s1]) h o := by
  intro u3 u6
  unfold q_164_76 at hF
  refine kg_bin (z := (s1 ||| s0)) hk_164 rfl rfl rfl ?_
  refine kg_istore (L2 := [.ref (1076 + 1), .int x1, .int x2, u3, .int x4, .int x5, .int (s1 ||| s0)]) hk_164 rfl (Nat.le_of_ble_eq_true rfl) rfl rfl ?_
  refine kg_aload hk_164 rfl rfl rfl ?_
  refine kg_dup hk_164 rfl rfl rfl ?_
  refine kg_get (v := .int (h 1076 67)) hk_164 rfl wk_1076_67 rfl rfl ?_
  refine kg_push (x := 1) hk_164 rfl (by decide) rfl ?_
  refine kg_bin (z := ((h 1076 67) + 1)) hk_164 rfl rfl rfl ?_
  refine wf_let hF (fun hz19 hhz19 hF => ?_)
  refine kg_put hk_164 rfl wk_1076_67 rfl rfl hhz19 rfl ?_
  refine kg_goto hk_164 rfl ?_
  have hF := Option.some.inj hF
  exact hK _ hF.symm _
def l_164_48 (x1 : Int32) (x2 : Int32) (x4 : Int32) (x5 : Int32) (x6 : Int32) (h : Hp) : Option ((Int32 × Hp) ⊕ Int32 × Hp) :=
  if (h 1076 67) < (h 1076 66) then
    (w_gd (w_ix (h 1076 67) 40) <|
    if (h 1127 (h 1076 67).toNatClampNeg) = 59 then
      (some (.inr (x6, h)))
    else
      (w_gd (w_ix (h 1076 67) 40) <|
      w_gd ((if (v_148 (h 1127 (h 1076 67).toNatClampNeg)) = 0 then true else w_ix (h 1076 67) 40)) <|
      q_164_76 h x1 x2 x4 x5 (if (v_148 (h 1127 (h 1076 67).toNatClampNeg)) = 0 then 0 else (v_162 (h 1127 (h 1076 67).toNatClampNeg)) : Int32) x6))
  else
    (some (.inr (x6, h)))
theorem l_164_48_st {X : List Int32} {o : kO}  {h : Hp} {x1 : Int32} {x2 : Int32} {x4 : Int32} {x5 : Int32} {x6 : Int32}  {r : (Int32 × Hp) ⊕ Int32 × Hp} (hF : l_164_48 x1 x2 x4 x5 x6 h = some r) (hK : ∀ s' : Int32 × Hp, r = .inl s' → ∀ (u3 : Value), k_Go X 3 164 (48, [.ref (1076 + 1), .int x1, .int x2, u3, .int x4, .int x5, .int (s'.1)], []) s'.2 o) (hX0 : ∀ e : Int32 × Hp, r = .inr e → ∀ (u3 : Value), k_Go X 3 164 (85, [.ref (1076 + 1), .int x1, .int x2, u3, .int x4, .int x5, .int e.1], []) e.2 o) : ∀ (u3 : Value), k_Go X 3 164 (48, [.ref (1076 + 1), .int x1, .int x2, u3, .int x4, .int x5, .int x6], []) h o := by
  intro u3
  refine kg_aload hk_164 rfl rfl rfl ?_
  refine kg_get (v := .int (h 1076 67)) hk_164 rfl wk_1076_67 rfl rfl ?_
  refine kg_aload hk_164 rfl rfl rfl ?_
  refine kg_get (v := .int (h 1076 66)) hk_164 rfl wk_1076_66 rfl rfl ?_
  refine wf_if hF (fun cz12 hF => ?_) (fun cz12 hF => ?_)
  · refine kg_icF hk_164 rfl (jc_F3 cz12) rfl ?_
    refine kg_aload hk_164 rfl rfl rfl ?_
    refine kg_get (v := .ref (1127 + 1)) hk_164 rfl wk_1076_65 rfl rfl ?_
    refine kg_aload hk_164 rfl rfl rfl ?_
    refine kg_get (v := .int (h 1076 67)) hk_164 rfl wk_1076_67 rfl rfl ?_
    refine wf_gd hF (fun gz13 hF => ?_)
    refine kg_ald (y := (h 1127 (h 1076 67).toNatClampNeg)) hk_164 rfl wc_1127 gz13 rfl rfl ?_
    refine kg_push (x := 59) hk_164 rfl (by decide) rfl ?_
    refine wf_if hF (fun cz14 hF => ?_) (fun cz14 hF => ?_)
    · refine kg_icT hk_164 rfl (jc_T0 cz14) ?_
      have hF := Option.some.inj hF
      exact hX0 _ hF.symm _
    · refine kg_icF hk_164 rfl (jc_F0 cz14) rfl ?_
      refine kg_iload hk_164 rfl rfl rfl ?_
      refine kg_aload hk_164 rfl rfl rfl ?_
      refine kg_get (v := .ref (1127 + 1)) hk_164 rfl wk_1076_65 rfl rfl ?_
      refine kg_aload hk_164 rfl rfl rfl ?_
      refine kg_get (v := .int (h 1076 67)) hk_164 rfl wk_1076_67 rfl rfl ?_
      refine wf_gd hF (fun gz15 hF => ?_)
      refine kg_ald (y := (h 1127 (h 1076 67).toNatClampNeg)) hk_164 rfl wc_1127 gz15 rfl rfl ?_
      refine kg_call (as := [.int (h 1127 (h 1076 67).toNatClampNeg)]) (rest := [.int x6]) hk_164 rfl (Or.inl rfl) rfl rfl rfl (Nat.not_lt.mpr (Nat.le_of_ble_eq_true rfl)) (v_148_ok) (by decide) rfl ?_
      refine wf_gd hF (fun gz18 hF => ?_)
      refine kv_mid (p := 76) (L := [.ref (1076 + 1), .int x1, .int x2, u3, .int x4, .int x5, .int x6]) (S := [.int (if (v_148 (h 1127 (h 1076 67).toNatClampNeg)) = 0 then 0 else (v_162 (h 1127 (h 1076 67).toNatClampNeg)) : Int32), .int x6]) ?_ (fun hK => ?_)
      · exact q_164_76_ok hF hK hX0 _ _
      · have hg := gz18
        by_cases cz16 : (v_148 (h 1127 (h 1076 67).toNatClampNeg)) = 0
        · have hK := kv_T cz16 hK
          refine kg_ifT hk_164 rfl (jc_T0 cz16) ?_
          refine kg_push (x := 0) hk_164 rfl (by decide) rfl ?_
          exact hK
        · have hg := wv_F cz16 hg
          have hK := kv_F cz16 hK
          have gz17 := hg
          refine kg_ifF hk_164 rfl (jc_F0 cz16) rfl ?_
          refine kg_aload hk_164 rfl rfl rfl ?_
          refine kg_get (v := .ref (1127 + 1)) hk_164 rfl wk_1076_65 rfl rfl ?_
          refine kg_aload hk_164 rfl rfl rfl ?_
          refine kg_get (v := .int (h 1076 67)) hk_164 rfl wk_1076_67 rfl rfl ?_
          refine kg_ald (y := (h 1127 (h 1076 67).toNatClampNeg)) hk_164 rfl wc_1127 gz17 rfl rfl ?_
          refine kg_call (as := [.int (h 1127 (h 1076 67).toNatClampNeg)]) (rest := [.int x6]) hk_164 rfl (Or.inl rfl) rfl rfl rfl (Nat.not_lt.mpr (Nat.le_of_ble_eq_true rfl)) (v_162_ok) (by decide) rfl ?_
          refine kg_goto hk_164 rfl ?_
          exact hK
  · refine kg_icT hk_164 rfl (jc_T3 cz12) ?_
    have hF := Option.some.inj hF
    exact hX0 _ hF.symm _
theorem l_164_48_ok {X : List Int32} {o : kO}  {x1 : Int32} {x2 : Int32} {x4 : Int32} {x5 : Int32}  {n : Nat} {s : Int32 × Hp} {e : Int32 × Hp} (hF : w_lp (fun (s : Int32 × Hp) => l_164_48 x1 x2 x4 x5 s.1 s.2) n s = some e) (hX0 : ∀ (u3 : Value), k_Go X 3 164 (85, [.ref (1076 + 1), .int x1, .int x2, u3, .int x4, .int x5, .int e.1], []) e.2 o) : ∀ (u3 : Value), k_Go X 3 164 (48, [.ref (1076 + 1), .int x1, .int x2, u3, .int x4, .int x5, .int s.1], []) s.2 o := by
  exact w_lp_ok (P := (fun (s : Int32 × Hp) => ∀ (u3 : Value), k_Go X 3 164 (48, [.ref (1076 + 1), .int x1, .int x2, u3, .int x4, .int x5, .int s.1], []) s.2 o)) (Q := (fun (e : Int32 × Hp) => (∀ (u3 : Value), k_Go X 3 164 (85, [.ref (1076 + 1), .int x1, .int x2, u3, .int x4, .int x5, .int e.1], []) e.2 o))) (fun s r hF hK hX => l_164_48_st hF hK (fun x hx => (hX _ hx))) n s e hF hX0
def q_164_123 (h : Hp) (x1 : Int32) (x2 : Int32) (x4 : Int32) (x6 : Int32) : Option ((Int32 × Hp) ⊕ Hp) :=
  w_gd (w_ix x1 16) <|
  w_gd (w_ix x1 16) <|
  w_let (w_up h 1085 x1.toNatClampNeg ((h 1085 x1.toNatClampNeg) ||| (x6 &&& (x2 ^^^ (-1))))) fun hz29 =>
  some (.inl ((x2 ||| x4), hz29))
theorem q_164_123_ok {X : List Int32} {o : kO}  {h : Hp} {x1 : Int32} {x2 : Int32} {x4 : Int32} {x6 : Int32}  {r : (Int32 × Hp) ⊕ Hp} (hF : q_164_123 h x1 x2 x4 x6 = some r) (hK : ∀ s' : Int32 × Hp, r = .inl s' → ∀ (u3 : Value) (u4 : Value) (u5 : Value) (u6 : Value), k_Go X 3 164 (2, [.ref (1076 + 1), .int x1, .int (s'.1), u3, u4, u5, u6], []) s'.2 o) (hX0 : ∀ e : Hp, r = .inr e → (.inl none, e) = o) : ∀ (u3 : Value) (u5 : Value), k_Go X 3 164 (123, [.ref (1076 + 1), .int x1, .int x2, u3, .int x4, u5, .int x6], []) h o := by
  intro u3 u5
  unfold q_164_123 at hF
  refine kg_aload hk_164 rfl rfl rfl ?_
  refine kg_get (v := .ref (1085 + 1)) hk_164 rfl wk_1076_9 rfl rfl ?_
  refine kg_iload hk_164 rfl rfl rfl ?_
  refine kg_dup2 hk_164 rfl ⟨rfl, rfl⟩ rfl ?_
  refine wf_gd hF (fun gz27 hF => ?_)
  refine kg_ald (y := (h 1085 x1.toNatClampNeg)) hk_164 rfl wc_1085 gz27 rfl rfl ?_
  refine kg_iload hk_164 rfl rfl rfl ?_
  refine kg_iload hk_164 rfl rfl rfl ?_
  refine kg_push (x := (-1)) hk_164 rfl (by decide) rfl ?_
  refine kg_bin (z := (x2 ^^^ (-1))) hk_164 rfl rfl rfl ?_
  refine kg_bin (z := (x6 &&& (x2 ^^^ (-1)))) hk_164 rfl rfl rfl ?_
  refine kg_bin (z := ((h 1085 x1.toNatClampNeg) ||| (x6 &&& (x2 ^^^ (-1))))) hk_164 rfl rfl rfl ?_
  refine wf_gd hF (fun gz28 hF => ?_)
  refine wf_let hF (fun hz29 hhz29 hF => ?_)
  refine kg_ast hk_164 rfl wc_1085 gz28 hhz29 rfl ?_
  refine kg_iload hk_164 rfl rfl rfl ?_
  refine kg_iload hk_164 rfl rfl rfl ?_
  refine kg_bin (z := (x2 ||| x4)) hk_164 rfl rfl rfl ?_
  refine kg_istore (L2 := [.ref (1076 + 1), .int x1, .int (x2 ||| x4), u3, .int x4, u5, .int x6]) hk_164 rfl (Nat.le_of_ble_eq_true rfl) rfl rfl ?_
  refine kg_goto hk_164 rfl ?_
  have hF := Option.some.inj hF
  exact hK _ hF.symm _ _ _ _
def q_164_113 (h : Hp) (x1 : Int32) (x2 : Int32) (x4 : Int32) (x5 : Int32) (x6 : Int32) : Option ((Int32 × Hp) ⊕ Hp) :=
  if x5 = 0 then
    (w_gd (w_ix x1 16) <|
    w_gd (w_ix x1 16) <|
    w_let (w_up h 1083 x1.toNatClampNeg ((h 1083 x1.toNatClampNeg) ||| x4)) fun hz26 =>
    q_164_123 hz26 x1 x2 x4 x6)
  else
    (q_164_123 h x1 x2 x4 x6)
theorem q_164_113_ok {X : List Int32} {o : kO}  {h : Hp} {x1 : Int32} {x2 : Int32} {x4 : Int32} {x5 : Int32} {x6 : Int32}  {r : (Int32 × Hp) ⊕ Hp} (hF : q_164_113 h x1 x2 x4 x5 x6 = some r) (hK : ∀ s' : Int32 × Hp, r = .inl s' → ∀ (u3 : Value) (u4 : Value) (u5 : Value) (u6 : Value), k_Go X 3 164 (2, [.ref (1076 + 1), .int x1, .int (s'.1), u3, u4, u5, u6], []) s'.2 o) (hX0 : ∀ e : Hp, r = .inr e → (.inl none, e) = o) : ∀ (u3 : Value), k_Go X 3 164 (113, [.ref (1076 + 1), .int x1, .int x2, u3, .int x4, .int x5, .int x6], []) h o := by
  intro u3
  unfold q_164_113 at hF
  refine kg_iload hk_164 rfl rfl rfl ?_
  refine wf_if hF (fun cz23 hF => ?_) (fun cz23 hF => ?_)
  · refine kg_ifF hk_164 rfl (jc_F1 cz23) rfl ?_
    refine kg_aload hk_164 rfl rfl rfl ?_
    refine kg_get (v := .ref (1083 + 1)) hk_164 rfl wk_1076_7 rfl rfl ?_
    refine kg_iload hk_164 rfl rfl rfl ?_
    refine kg_dup2 hk_164 rfl ⟨rfl, rfl⟩ rfl ?_
    refine wf_gd hF (fun gz24 hF => ?_)
    refine kg_ald (y := (h 1083 x1.toNatClampNeg)) hk_164 rfl wc_1083 gz24 rfl rfl ?_
    refine kg_iload hk_164 rfl rfl rfl ?_
    refine kg_bin (z := ((h 1083 x1.toNatClampNeg) ||| x4)) hk_164 rfl rfl rfl ?_
    refine wf_gd hF (fun gz25 hF => ?_)
    refine wf_let hF (fun hz26 hhz26 hF => ?_)
    refine kg_ast hk_164 rfl wc_1083 gz25 hhz26 rfl ?_
    exact q_164_123_ok hF hK hX0 _ _
  · refine kg_ifT hk_164 rfl (jc_T1 cz23) ?_
    exact q_164_123_ok hF hK hX0 _ _
def q_164_85 (h : Hp) (x1 : Int32) (x2 : Int32) (x4 : Int32) (x5 : Int32) (x6 : Int32) : Option ((Int32 × Hp) ⊕ Hp) :=
  w_let (w_up h 1076 67 ((h 1076 67) + 1)) fun hz21 =>
  if x5 = 0 then
    (q_164_113 hz21 x1 x2 x4 x5 x6)
  else
    (w_gd (w_ix x1 16) <|
    if ((hz21 1083 x1.toNatClampNeg) &&& x4) = 0 then
      (w_gd (w_ix x1 16) <|
      w_gd (w_ix x1 16) <|
      w_let (w_up hz21 1084 x1.toNatClampNeg ((hz21 1084 x1.toNatClampNeg) ||| x4)) fun hz34 =>
      q_164_123 hz34 x1 x2 x4 (x6 ||| x4))
    else
      (q_164_113 hz21 x1 x2 x4 x5 x6))
theorem q_164_85_ok {X : List Int32} {o : kO}  {h : Hp} {x1 : Int32} {x2 : Int32} {x4 : Int32} {x5 : Int32} {x6 : Int32}  {r : (Int32 × Hp) ⊕ Hp} (hF : q_164_85 h x1 x2 x4 x5 x6 = some r) (hK : ∀ s' : Int32 × Hp, r = .inl s' → ∀ (u3 : Value) (u4 : Value) (u5 : Value) (u6 : Value), k_Go X 3 164 (2, [.ref (1076 + 1), .int x1, .int (s'.1), u3, u4, u5, u6], []) s'.2 o) (hX0 : ∀ e : Hp, r = .inr e → (.inl none, e) = o) : ∀ (u3 : Value), k_Go X 3 164 (85, [.ref (1076 + 1), .int x1, .int x2, u3, .int x4, .int x5, .int x6], []) h o := by
  intro u3
  unfold q_164_85 at hF
  refine kg_aload hk_164 rfl rfl rfl ?_
  refine kg_dup hk_164 rfl rfl rfl ?_
  refine kg_get (v := .int (h 1076 67)) hk_164 rfl wk_1076_67 rfl rfl ?_
  refine kg_push (x := 1) hk_164 rfl (by decide) rfl ?_
  refine kg_bin (z := ((h 1076 67) + 1)) hk_164 rfl rfl rfl ?_
  refine wf_let hF (fun hz21 hhz21 hF => ?_)
  refine kg_put hk_164 rfl wk_1076_67 rfl rfl hhz21 rfl ?_
  refine kg_iload hk_164 rfl rfl rfl ?_
  refine wf_if hF (fun cz22 hF => ?_) (fun cz22 hF => ?_)
  · refine kg_ifT hk_164 rfl (jc_T0 cz22) ?_
    exact q_164_113_ok hF hK hX0 _
  · refine kg_ifF hk_164 rfl (jc_F0 cz22) rfl ?_
    refine kg_aload hk_164 rfl rfl rfl ?_
    refine kg_get (v := .ref (1083 + 1)) hk_164 rfl wk_1076_7 rfl rfl ?_
    refine kg_iload hk_164 rfl rfl rfl ?_
    refine wf_gd hF (fun gz30 hF => ?_)
    refine kg_ald (y := (hz21 1083 x1.toNatClampNeg)) hk_164 rfl wc_1083 gz30 rfl rfl ?_
    refine kg_iload hk_164 rfl rfl rfl ?_
    refine kg_bin (z := ((hz21 1083 x1.toNatClampNeg) &&& x4)) hk_164 rfl rfl rfl ?_
    refine wf_if hF (fun cz31 hF => ?_) (fun cz31 hF => ?_)
    · refine kg_ifF hk_164 rfl (jc_F1 cz31) rfl ?_
      refine kg_aload hk_164 rfl rfl rfl ?_
      refine kg_get (v := .ref (1084 + 1)) hk_164 rfl wk_1076_8 rfl rfl ?_
      refine kg_iload hk_164 rfl rfl rfl ?_
      refine kg_dup2 hk_164 rfl ⟨rfl, rfl⟩ rfl ?_
      refine wf_gd hF (fun gz32 hF => ?_)
      refine kg_ald (y := (hz21 1084 x1.toNatClampNeg)) hk_164 rfl wc_1084 gz32 rfl rfl ?_
      refine kg_iload hk_164 rfl rfl rfl ?_
      refine kg_bin (z := ((hz21 1084 x1.toNatClampNeg) ||| x4)) hk_164 rfl rfl rfl ?_
      refine wf_gd hF (fun gz33 hF => ?_)
      refine wf_let hF (fun hz34 hhz34 hF => ?_)
      refine kg_ast hk_164 rfl wc_1084 gz33 hhz34 rfl ?_
      refine kg_iload hk_164 rfl rfl rfl ?_
      refine kg_iload hk_164 rfl rfl rfl ?_
      refine kg_bin (z := (x6 ||| x4)) hk_164 rfl rfl rfl ?_
      refine kg_istore (L2 := [.ref (1076 + 1), .int x1, .int x2, u3, .int x4, .int x5, .int (x6 ||| x4)]) hk_164 rfl (Nat.le_of_ble_eq_true rfl) rfl rfl ?_
      refine kg_goto hk_164 rfl ?_
      exact q_164_123_ok hF hK hX0 _ _
    · refine kg_ifT hk_164 rfl (jc_T1 cz31) ?_
      exact q_164_113_ok hF hK hX0 _
def q_164_44 (h : Hp) (x1 : Int32) (x2 : Int32) (x4 : Int32) (x5 : Int32) (s0 : Int32) (s1 : Int32) : Option ((Int32 × Hp) ⊕ Hp) :=
  w_let (w_up h 1076 67 (s1 + s0)) fun hz11 =>
  (w_lp (fun (s : Int32 × Hp) => l_164_48 x1 x2 x4 x5 s.1 s.2) w_N (0, hz11)).bind fun ez20 =>
  q_164_85 ez20.2 x1 x2 x4 x5 ez20.1
theorem q_164_44_ok {X : List Int32} {o : kO}  {h : Hp} {s0 : Int32} {s1 : Int32} {x1 : Int32} {x2 : Int32} {x4 : Int32} {x5 : Int32}  {r : (Int32 × Hp) ⊕ Hp} (hF : q_164_44 h x1 x2 x4 x5 s0 s1 = some r) (hK : ∀ s' : Int32 × Hp, r = .inl s' → ∀ (u3 : Value) (u4 : Value) (u5 : Value) (u6 : Value), k_Go X 3 164 (2, [.ref (1076 + 1), .int x1, .int (s'.1), u3, u4, u5, u6], []) s'.2 o) (hX0 : ∀ e : Hp, r = .inr e → (.inl none, e) = o) : ∀ (u3 : Value) (u6 : Value), k_Go X 3 164 (44, [.ref (1076 + 1), .int x1, .int x2, u3, .int x4, .int x5, u6], [.int s0, .int s1, .ref (1076 + 1)]) h o := by
  intro u3 u6
  unfold q_164_44 at hF
  refine kg_bin (z := (s1 + s0)) hk_164 rfl rfl rfl ?_
  refine wf_let hF (fun hz11 hhz11 hF => ?_)
  refine kg_put hk_164 rfl wk_1076_67 rfl rfl hhz11 rfl ?_
  refine kg_push (x := 0) hk_164 rfl (by decide) rfl ?_
  refine kg_istore (L2 := [.ref (1076 + 1), .int x1, .int x2, u3, .int x4, .int x5, .int 0]) hk_164 rfl (Nat.le_of_ble_eq_true rfl) rfl rfl ?_
  refine wf_bind hF (fun ez20 hez20 hF => ?_)
  refine l_164_48_ok hez20 ?_ _
  intro u3
  exact q_164_85_ok hF hK hX0 _
def q_164_35 (h : Hp) (x1 : Int32) (x2 : Int32) (x3 : Int32) (x4 : Int32) (s0 : Int32) : Option ((Int32 × Hp) ⊕ Hp) :=
  q_164_44 h x1 x2 x4 s0 (if x3 = 0 then 0 else 2 : Int32) (h 1076 67)
theorem q_164_35_ok {X : List Int32} {o : kO}  {h : Hp} {s0 : Int32} {x1 : Int32} {x2 : Int32} {x3 : Int32} {x4 : Int32}  {r : (Int32 × Hp) ⊕ Hp} (hF : q_164_35 h x1 x2 x3 x4 s0 = some r) (hK : ∀ s' : Int32 × Hp, r = .inl s' → ∀ (u3 : Value) (u4 : Value) (u5 : Value) (u6 : Value), k_Go X 3 164 (2, [.ref (1076 + 1), .int x1, .int (s'.1), u3, u4, u5, u6], []) s'.2 o) (hX0 : ∀ e : Hp, r = .inr e → (.inl none, e) = o) : ∀ (u5 : Value) (u6 : Value), k_Go X 3 164 (35, [.ref (1076 + 1), .int x1, .int x2, .int x3, .int x4, u5, u6], [.int s0]) h o := by
  intro u5 u6
  unfold q_164_35 at hF
  refine kg_istore (L2 := [.ref (1076 + 1), .int x1, .int x2, .int x3, .int x4, .int s0, u6]) hk_164 rfl (Nat.le_of_ble_eq_true rfl) rfl rfl ?_
  refine kg_aload hk_164 rfl rfl rfl ?_
  refine kg_dup hk_164 rfl rfl rfl ?_
  refine kg_get (v := .int (h 1076 67)) hk_164 rfl wk_1076_67 rfl rfl ?_
  refine kg_iload hk_164 rfl rfl rfl ?_
  refine kv_mid (p := 44) (L := [.ref (1076 + 1), .int x1, .int x2, .int x3, .int x4, .int s0, u6]) (S := [.int (if x3 = 0 then 0 else 2 : Int32), .int (h 1076 67), .ref (1076 + 1)]) ?_ (fun hK => ?_)
  · exact q_164_44_ok hF hK hX0 _ _
  · by_cases cz10 : x3 = 0
    · have hK := kv_T cz10 hK
      refine kg_ifT hk_164 rfl (jc_T0 cz10) ?_
      refine kg_push (x := 0) hk_164 rfl (by decide) rfl ?_
      exact hK
    · have hK := kv_F cz10 hK
      refine kg_ifF hk_164 rfl (jc_F0 cz10) rfl ?_
      refine kg_push (x := 2) hk_164 rfl (by decide) rfl ?_
      refine kg_goto hk_164 rfl ?_
      exact hK
def q_164_20 (h : Hp) (x1 : Int32) (x2 : Int32) (x3 : Int32) (s0 : Int32) : Option ((Int32 × Hp) ⊕ Hp) :=
  w_gd ((if x3 = 0 then true else w_ix ((h 1076 67) + 1) 40)) <|
  q_164_35 h x1 x2 x3 s0 (if x3 = 0 then 0 else (if (h 1127 ((h 1076 67) + 1).toNatClampNeg) = 33 then 1 else 0 : Int32) : Int32)
theorem q_164_20_ok {X : List Int32} {o : kO}  {h : Hp} {s0 : Int32} {x1 : Int32} {x2 : Int32} {x3 : Int32}  {r : (Int32 × Hp) ⊕ Hp} (hF : q_164_20 h x1 x2 x3 s0 = some r) (hK : ∀ s' : Int32 × Hp, r = .inl s' → ∀ (u3 : Value) (u4 : Value) (u5 : Value) (u6 : Value), k_Go X 3 164 (2, [.ref (1076 + 1), .int x1, .int (s'.1), u3, u4, u5, u6], []) s'.2 o) (hX0 : ∀ e : Hp, r = .inr e → (.inl none, e) = o) : ∀ (u4 : Value) (u5 : Value) (u6 : Value), k_Go X 3 164 (20, [.ref (1076 + 1), .int x1, .int x2, .int x3, u4, u5, u6], [.int s0]) h o := by
  intro u4 u5 u6
  unfold q_164_20 at hF
  refine kg_istore (L2 := [.ref (1076 + 1), .int x1, .int x2, .int x3, .int s0, u5, u6]) hk_164 rfl (Nat.le_of_ble_eq_true rfl) rfl rfl ?_
  refine kg_iload hk_164 rfl rfl rfl ?_
  refine wf_gd hF (fun gz9 hF => ?_)
  refine kv_mid (p := 35) (L := [.ref (1076 + 1), .int x1, .int x2, .int x3, .int s0, u5, u6]) (S := [.int (if x3 = 0 then 0 else (if (h 1127 ((h 1076 67) + 1).toNatClampNeg) = 33 then 1 else 0 : Int32) : Int32)]) ?_ (fun hK => ?_)
  · exact q_164_35_ok hF hK hX0 _ _
  · have hg := gz9
    by_cases cz6 : x3 = 0
    · have hK := kv_T cz6 hK
      refine kg_ifT hk_164 rfl (jc_T0 cz6) ?_
      refine kg_push (x := 0) hk_164 rfl (by decide) rfl ?_
      exact hK
    · have hg := wv_F cz6 hg
      have hK := kv_F cz6 hK
      have gz7 := hg
      refine kg_ifF hk_164 rfl (jc_F0 cz6) rfl ?_
      refine kg_aload hk_164 rfl rfl rfl ?_
      refine kg_get (v := .ref (1127 + 1)) hk_164 rfl wk_1076_65 rfl rfl ?_
      refine kg_aload hk_164 rfl rfl rfl ?_
      refine kg_get (v := .int (h 1076 67)) hk_164 rfl wk_1076_67 rfl rfl ?_
      refine kg_push (x := 1) hk_164 rfl (by decide) rfl ?_
      refine kg_bin (z := ((h 1076 67) + 1)) hk_164 rfl rfl rfl ?_
      refine kg_ald (y := (h 1127 ((h 1076 67) + 1).toNatClampNeg)) hk_164 rfl wc_1127 gz7 rfl rfl ?_
      refine kg_push (x := 33) hk_164 rfl (by decide) rfl ?_
      by_cases cz8 : (h 1127 ((h 1076 67) + 1).toNatClampNeg) = 33
      · have hK := kv_T cz8 hK
        refine kg_icF hk_164 rfl (jc_F1 cz8) rfl ?_
        refine kg_push (x := 1) hk_164 rfl (by decide) rfl ?_
        refine kg_goto hk_164 rfl ?_
        exact hK
      · have hK := kv_F cz8 hK
        refine kg_icT hk_164 rfl (jc_T1 cz8) ?_
        refine kg_push (x := 0) hk_164 rfl (by decide) rfl ?_
        exact hK
def l_164_2 (x1 : Int32) (x2 : Int32) (h : Hp) : Option ((Int32 × Hp) ⊕ Hp) :=
  if (h 1076 67) < (h 1076 66) then
    (w_gd (g_151 h) <|
    w_gd ((if (v_151 h) = 0 then true else w_ix (h 1076 67) 40)) <|
    q_164_20 h x1 x2 (v_151 h) (if (v_151 h) = 0 then 0 else (v_162 (h 1127 (h 1076 67).toNatClampNeg)) : Int32))
  else
    (some (.inr h))
theorem l_164_2_st {X : List Int32} {o : kO}  {h : Hp} {x1 : Int32} {x2 : Int32}  {r : (Int32 × Hp) ⊕ Hp} (hF : l_164_2 x1 x2 h = some r) (hK : ∀ s' : Int32 × Hp, r = .inl s' → ∀ (u3 : Value) (u4 : Value) (u5 : Value) (u6 : Value), k_Go X 3 164 (2, [.ref (1076 + 1), .int x1, .int (s'.1), u3, u4, u5, u6], []) s'.2 o) (hX0 : ∀ e : Hp, r = .inr e → (.inl none, e) = o) : ∀ (u3 : Value) (u4 : Value) (u5 : Value) (u6 : Value), k_Go X 3 164 (2, [.ref (1076 + 1), .int x1, .int x2, u3, u4, u5, u6], []) h o := by
  intro u3 u4 u5 u6
  refine kg_aload hk_164 rfl rfl rfl ?_
  refine kg_get (v := .int (h 1076 67)) hk_164 rfl wk_1076_67 rfl rfl ?_
  refine kg_aload hk_164 rfl rfl rfl ?_
  refine kg_get (v := .int (h 1076 66)) hk_164 rfl wk_1076_66 rfl rfl ?_
  refine wf_if hF (fun cz1 hF => ?_) (fun cz1 hF => ?_)
  · refine kg_icF hk_164 rfl (jc_F3 cz1) rfl ?_
    refine kg_aload hk_164 rfl rfl rfl ?_
    refine wf_gd hF (fun gz2 hF => ?_)
    refine kg_call (as := [.ref (1076 + 1)]) (rest := []) hk_164 rfl (Or.inr (Or.inr (Or.inr ⟨Or.inl rfl, _, _, rfl, wc_1076⟩))) rfl rfl rfl (Nat.not_lt.mpr (Nat.le_of_ble_eq_true rfl)) (v_151_ok gz2) (by decide) rfl ?_
    refine kg_istore (L2 := [.ref (1076 + 1), .int x1, .int x2, .int (v_151 h), u4, u5, u6]) hk_164 rfl (Nat.le_of_ble_eq_true rfl) rfl rfl ?_
    refine kg_iload hk_164 rfl rfl rfl ?_
    refine wf_gd hF (fun gz5 hF => ?_)
    refine kv_mid (p := 20) (L := [.ref (1076 + 1), .int x1, .int x2, .int (v_151 h), u4, u5, u6]) (S := [.int (if (v_151 h) = 0 then 0 else (v_162 (h 1127 (h 1076 67).toNatClampNeg)) : Int32)]) ?_ (fun hK => ?_)
    · exact q_164_20_ok hF hK hX0 _ _ _
    · have hg := gz5
      by_cases cz3 : (v_151 h) = 0
      · have hK := kv_T cz3 hK
        refine kg_ifT hk_164 rfl (jc_T0 cz3) ?_
        refine kg_push (x := 0) hk_164 rfl (by decide) rfl ?_
        exact hK
      · have hg := wv_F cz3 hg
        have hK := kv_F cz3 hK
        have gz4 := hg
        refine kg_ifF hk_164 rfl (jc_F0 cz3) rfl ?_
        refine kg_aload hk_164 rfl rfl rfl ?_
        refine kg_get (v := .ref (1127 + 1)) hk_164 rfl wk_1076_65 rfl rfl ?_
        refine kg_aload hk_164 rfl rfl rfl ?_
        refine kg_get (v := .int (h 1076 67)) hk_164 rfl wk_1076_67 rfl rfl ?_
        refine kg_ald (y := (h 1127 (h 1076 67).toNatClampNeg)) hk_164 rfl wc_1127 gz4 rfl rfl ?_
        refine kg_call (as := [.int (h 1127 (h 1076 67).toNatClampNeg)]) (rest := []) hk_164 rfl (Or.inl rfl) rfl rfl rfl (Nat.not_lt.mpr (Nat.le_of_ble_eq_true rfl)) (v_162_ok) (by decide) rfl ?_
        refine kg_goto hk_164 rfl ?_
        exact hK
  · refine kg_icT hk_164 rfl (jc_T3 cz1) ?_
    have hF := Option.some.inj hF
    exact kg_ret hk_164 rfl (hX0 _ hF.symm)
theorem l_164_2_ok {X : List Int32} {o : kO}  {x1 : Int32}  {n : Nat} {s : Int32 × Hp} {e : Hp} (hF : w_lp (fun (s : Int32 × Hp) => l_164_2 x1 s.1 s.2) n s = some e) (hX0 : (.inl none, e) = o) : ∀ (u3 : Value) (u4 : Value) (u5 : Value) (u6 : Value), k_Go X 3 164 (2, [.ref (1076 + 1), .int x1, .int s.1, u3, u4, u5, u6], []) s.2 o := by
  exact w_lp_ok (P := (fun (s : Int32 × Hp) => ∀ (u3 : Value) (u4 : Value) (u5 : Value) (u6 : Value), k_Go X 3 164 (2, [.ref (1076 + 1), .int x1, .int s.1, u3, u4, u5, u6], []) s.2 o)) (Q := (fun (e : Hp) => ((.inl none, e) = o))) (fun s r hF hK hX => l_164_2_st hF hK (fun x hx => (hX _ hx))) n s e hF hX0
def p_164 (h : Hp) (x1 : Int32) : Option (Hp) :=
  w_lp (fun (s : Int32 × Hp) => l_164_2 x1 s.1 s.2) w_N (0, h)
theorem p_164_ok {X : List Int32}  {h : Hp} {x1 : Int32}  {r : Hp} (hF : p_164 h x1 = some r) : k_Ev X 3 164 [.ref (1076 + 1), .int x1] h (.inl none, r) := by
  refine k_of hk_164 ?_
  show k_Go X 3 164 (0, [.ref (1076 + 1), .int x1, (.retAddr 0), (.retAddr 0), (.retAddr 0), (.retAddr 0), (.retAddr 0)], []) h _
  unfold p_164 at hF
  refine kg_push (x := 0) hk_164 rfl (by decide) rfl ?_
  refine kg_istore (L2 := [.ref (1076 + 1), .int x1, .int 0, (.retAddr 0), (.retAddr 0), (.retAddr 0), (.retAddr 0)]) hk_164 rfl (Nat.le_of_ble_eq_true rfl) rfl rfl ?_
  exact l_164_2_ok hF rfl _ _ _ _
-- NotebookWeirModel.reads(I)V
theorem hk_163 : jP[163]? = some (jc_163, 4, [], []) := by rfl
def l_163_25 (x1 : Int32) (x2 : Int32) (h : Hp) : Option ((Int32 × Hp) ⊕ Hp) :=
  if x2 < (h 1076 66) then
    (w_gd (w_ix x1 16) <|
    w_gd ((if (h 1086 x1.toNatClampNeg) = 0 then (w_ix x2 40) && ((if (h 1127 x2.toNatClampNeg) = 63 then true else (w_ix x2 40) && ((if (h 1127 x2.toNatClampNeg) = 64 then true else w_ix x2 40)))) else true)) <|
    w_gd (w_ix x1 16) <|
    w_let (w_up h 1086 x1.toNatClampNeg (j_nar 52 (if (h 1086 x1.toNatClampNeg) = 0 then (if (h 1127 x2.toNatClampNeg) = 63 then 1 else (if (h 1127 x2.toNatClampNeg) = 64 then 1 else (if (h 1127 x2.toNatClampNeg) = 33 then 1 else 0 : Int32) : Int32) : Int32) else 1 : Int32))) fun hz21 =>
    some (.inl ((x2 + 1), hz21)))
  else
    (some (.inr h))
theorem l_163_25_st {X : List Int32} {o : kO}  {h : Hp} {x1 : Int32} {x2 : Int32}  {r : (Int32 × Hp) ⊕ Hp} (hF : l_163_25 x1 x2 h = some r) (hK : ∀ s' : Int32 × Hp, r = .inl s' → ∀ (u3 : Value), k_Go X 4 163 (25, [.ref (1076 + 1), .int x1, .int (s'.1), u3], []) s'.2 o) (hX0 : ∀ e : Hp, r = .inr e → ∀ (u2 : Value) (u3 : Value), k_Go X 4 163 (61, [.ref (1076 + 1), .int x1, u2, u3], []) e o) : ∀ (u3 : Value), k_Go X 4 163 (25, [.ref (1076 + 1), .int x1, .int x2, u3], []) h o := by
  intro u3
  refine kg_iload hk_163 rfl rfl rfl ?_
  refine kg_aload hk_163 rfl rfl rfl ?_
  refine kg_get (v := .int (h 1076 66)) hk_163 rfl wk_1076_66 rfl rfl ?_
  refine wf_if hF (fun cz10 hF => ?_) (fun cz10 hF => ?_)
  · refine kg_icF hk_163 rfl (jc_F3 cz10) rfl ?_
    refine kg_aload hk_163 rfl rfl rfl ?_
    refine kg_get (v := .ref (1086 + 1)) hk_163 rfl wk_1076_10 rfl rfl ?_
    refine kg_iload hk_163 rfl rfl rfl ?_
    refine kg_aload hk_163 rfl rfl rfl ?_
    refine kg_get (v := .ref (1086 + 1)) hk_163 rfl wk_1076_10 rfl rfl ?_
    refine kg_iload hk_163 rfl rfl rfl ?_
    refine wf_gd hF (fun gz11 hF => ?_)
    refine kg_ald (y := (h 1086 x1.toNatClampNeg)) hk_163 rfl wc_1086 gz11 rfl rfl ?_
    refine wf_gd hF (fun gz19 hF => ?_)
    refine kv_mid (p := 58) (L := [.ref (1076 + 1), .int x1, .int x2, u3]) (S := [.int (if (h 1086 x1.toNatClampNeg) = 0 then (if (h 1127 x2.toNatClampNeg) = 63 then 1 else (if (h 1127 x2.toNatClampNeg) = 64 then 1 else (if (h 1127 x2.toNatClampNeg) = 33 then 1 else 0 : Int32) : Int32) : Int32) else 1 : Int32), .int x1, .ref (1086 + 1)]) ?_ (fun hK => ?_)
    · refine wf_gd hF (fun gz20 hF => ?_)
      refine wf_let hF (fun hz21 hhz21 hF => ?_)
      refine kg_ast hk_163 rfl wc_1086 gz20 hhz21 rfl ?_
      refine kg_iinc (y := (x2 + 1)) (L2 := [.ref (1076 + 1), .int x1, .int (x2 + 1), u3]) hk_163 rfl rfl rfl rfl rfl ?_
      refine kg_goto hk_163 rfl ?_
      have hF := Option.some.inj hF
      exact hK _ hF.symm _
    · have hg := gz19
      by_cases cz12 : (h 1086 x1.toNatClampNeg) = 0
      · have hg := wv_T cz12 hg
        have hK := kv_T cz12 hK
        have gz13 := wb_1 hg
        have hg := wb_2 hg
        refine kg_ifF hk_163 rfl (jc_F1 cz12) rfl ?_
        refine kg_aload hk_163 rfl rfl rfl ?_
        refine kg_get (v := .ref (1127 + 1)) hk_163 rfl wk_1076_65 rfl rfl ?_
        refine kg_iload hk_163 rfl rfl rfl ?_
        refine kg_ald (y := (h 1127 x2.toNatClampNeg)) hk_163 rfl wc_1127 gz13 rfl rfl ?_
        refine kg_push (x := 63) hk_163 rfl (by decide) rfl ?_
        by_cases cz14 : (h 1127 x2.toNatClampNeg) = 63
        · have hK := kv_T cz14 hK
          refine kg_icT hk_163 rfl (jc_T0 cz14) ?_
          refine kg_push (x := 1) hk_163 rfl (by decide) rfl ?_
          refine kg_goto hk_163 rfl ?_
          exact hK
        · have hg := wv_F cz14 hg
          have hK := kv_F cz14 hK
          have gz15 := wb_1 hg
          have hg := wb_2 hg
          refine kg_icF hk_163 rfl (jc_F0 cz14) rfl ?_
          refine kg_aload hk_163 rfl rfl rfl ?_
          refine kg_get (v := .ref (1127 + 1)) hk_163 rfl wk_1076_65 rfl rfl ?_
          refine kg_iload hk_163 rfl rfl rfl ?_
          refine kg_ald (y := (h 1127 x2.toNatClampNeg)) hk_163 rfl wc_1127 gz15 rfl rfl ?_
          refine kg_push (x := 64) hk_163 rfl (by decide) rfl ?_
          by_cases cz16 : (h 1127 x2.toNatClampNeg) = 64
          · have hK := kv_T cz16 hK
            refine kg_icT hk_163 rfl (jc_T0 cz16) ?_
            refine kg_push (x := 1) hk_163 rfl (by decide) rfl ?_
            refine kg_goto hk_163 rfl ?_
            exact hK
          · have hg := wv_F cz16 hg
            have hK := kv_F cz16 hK
            have gz17 := hg
            refine kg_icF hk_163 rfl (jc_F0 cz16) rfl ?_
            refine kg_aload hk_163 rfl rfl rfl ?_
            refine kg_get (v := .ref (1127 + 1)) hk_163 rfl wk_1076_65 rfl rfl ?_
            refine kg_iload hk_163 rfl rfl rfl ?_
            refine kg_ald (y := (h 1127 x2.toNatClampNeg)) hk_163 rfl wc_1127 gz17 rfl rfl ?_
            refine kg_push (x := 33) hk_163 rfl (by decide) rfl ?_
            by_cases cz18 : (h 1127 x2.toNatClampNeg) = 33
            · have hK := kv_T cz18 hK
              refine kg_icF hk_163 rfl (jc_F1 cz18) rfl ?_
              refine kg_push (x := 1) hk_163 rfl (by decide) rfl ?_
              refine kg_goto hk_163 rfl ?_
              exact hK
            · have hK := kv_F cz18 hK
              refine kg_icT hk_163 rfl (jc_T1 cz18) ?_
              refine kg_push (x := 0) hk_163 rfl (by decide) rfl ?_
              exact hK
      · have hK := kv_F cz12 hK
        refine kg_ifT hk_163 rfl (jc_T1 cz12) ?_
        refine kg_push (x := 1) hk_163 rfl (by decide) rfl ?_
        refine kg_goto hk_163 rfl ?_
        exact hK
  · refine kg_icT hk_163 rfl (jc_T3 cz10) ?_
    have hF := Option.some.inj hF
    exact hX0 _ hF.symm _ _
theorem l_163_25_ok {X : List Int32} {o : kO}  {x1 : Int32}  {n : Nat} {s : Int32 × Hp} {e : Hp} (hF : w_lp (fun (s : Int32 × Hp) => l_163_25 x1 s.1 s.2) n s = some e) (hX0 : ∀ (u2 : Value) (u3 : Value), k_Go X 4 163 (61, [.ref (1076 + 1), .int x1, u2, u3], []) e o) : ∀ (u3 : Value), k_Go X 4 163 (25, [.ref (1076 + 1), .int x1, .int s.1, u3], []) s.2 o := by
  exact w_lp_ok (P := (fun (s : Int32 × Hp) => ∀ (u3 : Value), k_Go X 4 163 (25, [.ref (1076 + 1), .int x1, .int s.1, u3], []) s.2 o)) (Q := (fun (e : Hp) => (∀ (u2 : Value) (u3 : Value), k_Go X 4 163 (61, [.ref (1076 + 1), .int x1, u2, u3], []) e o))) (fun s r hF hK hX => l_163_25_st hF hK (fun x hx => (hX _ hx))) n s e hF hX0
def q_163_114 (h : Hp) (x1 : Int32) (x3 : Int32) (s0 : Int32) (s1 : Int32) : Option ((Int32 × Int32 × Hp) ⊕ Int32 × Hp) :=
  w_gd (w_ix x1 16) <|
  w_gd ((if x3 = 0 then w_ix x3 40 else (w_ix (x3 - 1) 40) && ((if (h 1127 (x3 - 1).toNatClampNeg) = 59 then w_ix x3 40 else true)))) <|
  w_gd (w_ix x1 16) <|
  w_let (w_up h 1083 x1.toNatClampNeg ((h 1083 x1.toNatClampNeg) ||| (if x3 = 0 then (v_162 (h 1127 x3.toNatClampNeg)) else (if (h 1127 (x3 - 1).toNatClampNeg) = 59 then (v_162 (h 1127 x3.toNatClampNeg)) else 0 : Int32) : Int32))) fun hz44 =>
  some (.inl ((s1 ||| s0), (x3 + 1), hz44))
theorem q_163_114_ok {X : List Int32} {o : kO}  {h : Hp} {s0 : Int32} {s1 : Int32} {x1 : Int32} {x3 : Int32}  {r : (Int32 × Int32 × Hp) ⊕ Int32 × Hp} (hF : q_163_114 h x1 x3 s0 s1 = some r) (hK : ∀ s' : Int32 × Int32 × Hp, r = .inl s' → k_Go X 4 163 (96, [.ref (1076 + 1), .int x1, .int (s'.1), .int (s'.2.1)], []) s'.2.2 o) (hX0 : ∀ e : Int32 × Hp, r = .inr e → ∀ (u3 : Value), k_Go X 4 163 (142, [.ref (1076 + 1), .int x1, .int e.1, u3], []) e.2 o) : ∀ (u2 : Value), k_Go X 4 163 (114, [.ref (1076 + 1), .int x1, u2, .int x3], [.int s0, .int s1]) h o := by
  intro u2
  unfold q_163_114 at hF
  refine kg_bin (z := (s1 ||| s0)) hk_163 rfl rfl rfl ?_
  refine kg_istore (L2 := [.ref (1076 + 1), .int x1, .int (s1 ||| s0), .int x3]) hk_163 rfl (Nat.le_of_ble_eq_true rfl) rfl rfl ?_
  refine kg_aload hk_163 rfl rfl rfl ?_
  refine kg_get (v := .ref (1083 + 1)) hk_163 rfl wk_1076_7 rfl rfl ?_
  refine kg_iload hk_163 rfl rfl rfl ?_
  refine kg_dup2 hk_163 rfl ⟨rfl, rfl⟩ rfl ?_
  refine wf_gd hF (fun gz36 hF => ?_)
  refine kg_ald (y := (h 1083 x1.toNatClampNeg)) hk_163 rfl wc_1083 gz36 rfl rfl ?_
  refine kg_iload hk_163 rfl rfl rfl ?_
  refine wf_gd hF (fun gz42 hF => ?_)
  refine kv_mid (p := 138) (L := [.ref (1076 + 1), .int x1, .int (s1 ||| s0), .int x3]) (S := [.int (if x3 = 0 then (v_162 (h 1127 x3.toNatClampNeg)) else (if (h 1127 (x3 - 1).toNatClampNeg) = 59 then (v_162 (h 1127 x3.toNatClampNeg)) else 0 : Int32) : Int32), .int (h 1083 x1.toNatClampNeg), .int x1, .ref (1083 + 1)]) ?_ (fun hK => ?_)
  · refine kg_bin (z := ((h 1083 x1.toNatClampNeg) ||| (if x3 = 0 then (v_162 (h 1127 x3.toNatClampNeg)) else (if (h 1127 (x3 - 1).toNatClampNeg) = 59 then (v_162 (h 1127 x3.toNatClampNeg)) else 0 : Int32) : Int32))) hk_163 rfl rfl rfl ?_
    refine wf_gd hF (fun gz43 hF => ?_)
    refine wf_let hF (fun hz44 hhz44 hF => ?_)
    refine kg_ast hk_163 rfl wc_1083 gz43 hhz44 rfl ?_
    refine kg_iinc (y := (x3 + 1)) (L2 := [.ref (1076 + 1), .int x1, .int (s1 ||| s0), .int (x3 + 1)]) hk_163 rfl rfl rfl rfl rfl ?_
    refine kg_goto hk_163 rfl ?_
    have hF := Option.some.inj hF
    exact hK _ hF.symm
  · have hg := gz42
    by_cases cz37 : x3 = 0
    · have hg := wv_T cz37 hg
      have hK := kv_T cz37 hK
      have gz38 := hg
      refine kg_ifT hk_163 rfl (jc_T0 cz37) ?_
      refine kg_aload hk_163 rfl rfl rfl ?_
      refine kg_get (v := .ref (1127 + 1)) hk_163 rfl wk_1076_65 rfl rfl ?_
      refine kg_iload hk_163 rfl rfl rfl ?_
      refine kg_ald (y := (h 1127 x3.toNatClampNeg)) hk_163 rfl wc_1127 gz38 rfl rfl ?_
      refine kg_call (as := [.int (h 1127 x3.toNatClampNeg)]) (rest := [.int (h 1083 x1.toNatClampNeg), .int x1, .ref (1083 + 1)]) hk_163 rfl (Or.inl rfl) rfl rfl rfl (Nat.not_lt.mpr (Nat.le_of_ble_eq_true rfl)) (v_162_ok) (by decide) rfl ?_
      refine kg_goto hk_163 rfl ?_
      exact hK
    · have hg := wv_F cz37 hg
      have hK := kv_F cz37 hK
      have gz39 := wb_1 hg
      have hg := wb_2 hg
      refine kg_ifF hk_163 rfl (jc_F0 cz37) rfl ?_
      refine kg_aload hk_163 rfl rfl rfl ?_
      refine kg_get (v := .ref (1127 + 1)) hk_163 rfl wk_1076_65 rfl rfl ?_
      refine kg_iload hk_163 rfl rfl rfl ?_
      refine kg_push (x := 1) hk_163 rfl (by decide) rfl ?_
      refine kg_bin (z := (x3 - 1)) hk_163 rfl rfl rfl ?_
      refine kg_ald (y := (h 1127 (x3 - 1).toNatClampNeg)) hk_163 rfl wc_1127 gz39 rfl rfl ?_
      refine kg_push (x := 59) hk_163 rfl (by decide) rfl ?_
      by_cases cz40 : (h 1127 (x3 - 1).toNatClampNeg) = 59
      · have hg := wv_T cz40 hg
        have hK := kv_T cz40 hK
        have gz41 := hg
        refine kg_icF hk_163 rfl (jc_F1 cz40) rfl ?_
        refine kg_aload hk_163 rfl rfl rfl ?_
        refine kg_get (v := .ref (1127 + 1)) hk_163 rfl wk_1076_65 rfl rfl ?_
        refine kg_iload hk_163 rfl rfl rfl ?_
        refine kg_ald (y := (h 1127 x3.toNatClampNeg)) hk_163 rfl wc_1127 gz41 rfl rfl ?_
        refine kg_call (as := [.int (h 1127 x3.toNatClampNeg)]) (rest := [.int (h 1083 x1.toNatClampNeg), .int x1, .ref (1083 + 1)]) hk_163 rfl (Or.inl rfl) rfl rfl rfl (Nat.not_lt.mpr (Nat.le_of_ble_eq_true rfl)) (v_162_ok) (by decide) rfl ?_
        refine kg_goto hk_163 rfl ?_
        exact hK
      · have hK := kv_F cz40 hK
        refine kg_icT hk_163 rfl (jc_T1 cz40) ?_
        refine kg_push (x := 0) hk_163 rfl (by decide) rfl ?_
        exact hK
def l_163_96 (x1 : Int32) (x2 : Int32) (x3 : Int32) (h : Hp) : Option ((Int32 × Int32 × Hp) ⊕ Int32 × Hp) :=
  if x3 < (h 1076 66) then
    (w_gd (w_ix x3 40) <|
    w_gd ((if (v_148 (h 1127 x3.toNatClampNeg)) = 0 then true else w_ix x3 40)) <|
    q_163_114 h x1 x3 (if (v_148 (h 1127 x3.toNatClampNeg)) = 0 then 0 else (v_162 (h 1127 x3.toNatClampNeg)) : Int32) x2)
  else
    (some (.inr (x2, h)))
theorem l_163_96_st {X : List Int32} {o : kO}  {h : Hp} {x1 : Int32} {x2 : Int32} {x3 : Int32}  {r : (Int32 × Int32 × Hp) ⊕ Int32 × Hp} (hF : l_163_96 x1 x2 x3 h = some r) (hK : ∀ s' : Int32 × Int32 × Hp, r = .inl s' → k_Go X 4 163 (96, [.ref (1076 + 1), .int x1, .int (s'.1), .int (s'.2.1)], []) s'.2.2 o) (hX0 : ∀ e : Int32 × Hp, r = .inr e → ∀ (u3 : Value), k_Go X 4 163 (142, [.ref (1076 + 1), .int x1, .int e.1, u3], []) e.2 o) : k_Go X 4 163 (96, [.ref (1076 + 1), .int x1, .int x2, .int x3], []) h o := by
  refine kg_iload hk_163 rfl rfl rfl ?_
  refine kg_aload hk_163 rfl rfl rfl ?_
  refine kg_get (v := .int (h 1076 66)) hk_163 rfl wk_1076_66 rfl rfl ?_
  refine wf_if hF (fun cz31 hF => ?_) (fun cz31 hF => ?_)
  · refine kg_icF hk_163 rfl (jc_F3 cz31) rfl ?_
    refine kg_iload hk_163 rfl rfl rfl ?_
    refine kg_aload hk_163 rfl rfl rfl ?_
    refine kg_get (v := .ref (1127 + 1)) hk_163 rfl wk_1076_65 rfl rfl ?_
    refine kg_iload hk_163 rfl rfl rfl ?_
    refine wf_gd hF (fun gz32 hF => ?_)
    refine kg_ald (y := (h 1127 x3.toNatClampNeg)) hk_163 rfl wc_1127 gz32 rfl rfl ?_
    refine kg_call (as := [.int (h 1127 x3.toNatClampNeg)]) (rest := [.int x2]) hk_163 rfl (Or.inl rfl) rfl rfl rfl (Nat.not_lt.mpr (Nat.le_of_ble_eq_true rfl)) (v_148_ok) (by decide) rfl ?_
    refine wf_gd hF (fun gz35 hF => ?_)
    refine kv_mid (p := 114) (L := [.ref (1076 + 1), .int x1, .int x2, .int x3]) (S := [.int (if (v_148 (h 1127 x3.toNatClampNeg)) = 0 then 0 else (v_162 (h 1127 x3.toNatClampNeg)) : Int32), .int x2]) ?_ (fun hK => ?_)
    · exact q_163_114_ok hF hK hX0 _
    · have hg := gz35
      by_cases cz33 : (v_148 (h 1127 x3.toNatClampNeg)) = 0
      · have hK := kv_T cz33 hK
        refine kg_ifT hk_163 rfl (jc_T0 cz33) ?_
        refine kg_push (x := 0) hk_163 rfl (by decide) rfl ?_
        exact hK
      · have hg := wv_F cz33 hg
        have hK := kv_F cz33 hK
        have gz34 := hg
        refine kg_ifF hk_163 rfl (jc_F0 cz33) rfl ?_
        refine kg_aload hk_163 rfl rfl rfl ?_
        refine kg_get (v := .ref (1127 + 1)) hk_163 rfl wk_1076_65 rfl rfl ?_
        refine kg_iload hk_163 rfl rfl rfl ?_
        refine kg_ald (y := (h 1127 x3.toNatClampNeg)) hk_163 rfl wc_1127 gz34 rfl rfl ?_
        refine kg_call (as := [.int (h 1127 x3.toNatClampNeg)]) (rest := [.int x2]) hk_163 rfl (Or.inl rfl) rfl rfl rfl (Nat.not_lt.mpr (Nat.le_of_ble_eq_true rfl)) (v_162_ok) (by decide) rfl ?_
        refine kg_goto hk_163 rfl ?_
        exact hK
  · refine kg_icT hk_163 rfl (jc_T3 cz31) ?_
    have hF := Option.some.inj hF
    exact hX0 _ hF.symm _
theorem l_163_96_ok {X : List Int32} {o : kO}  {x1 : Int32}  {n : Nat} {s : Int32 × Int32 × Hp} {e : Int32 × Hp} (hF : w_lp (fun (s : Int32 × Int32 × Hp) => l_163_96 x1 s.1 s.2.1 s.2.2) n s = some e) (hX0 : ∀ (u3 : Value), k_Go X 4 163 (142, [.ref (1076 + 1), .int x1, .int e.1, u3], []) e.2 o) : k_Go X 4 163 (96, [.ref (1076 + 1), .int x1, .int s.1, .int s.2.1], []) s.2.2 o := by
  exact w_lp_ok (P := (fun (s : Int32 × Int32 × Hp) => k_Go X 4 163 (96, [.ref (1076 + 1), .int x1, .int s.1, .int s.2.1], []) s.2.2 o)) (Q := (fun (e : Int32 × Hp) => (∀ (u3 : Value), k_Go X 4 163 (142, [.ref (1076 + 1), .int x1, .int e.1, u3], []) e.2 o))) (fun s r hF hK hX => l_163_96_st hF hK (fun x hx => (hX _ hx))) n s e hF hX0
def p_163 (h : Hp) (x1 : Int32) : Option (Hp) :=
  (p_161 h x1).bind fun vz1 =>
  w_gd (w_ix x1 16) <|
  w_let (w_up vz1 1083 x1.toNatClampNeg 0) fun hz3 =>
  w_gd (w_ix x1 16) <|
  w_let (w_up hz3 1084 x1.toNatClampNeg 0) fun hz5 =>
  w_gd (w_ix x1 16) <|
  w_let (w_up hz5 1085 x1.toNatClampNeg 0) fun hz7 =>
  w_gd (w_ix x1 16) <|
  w_let (w_up hz7 1086 x1.toNatClampNeg (j_nar 52 0)) fun hz9 =>
  (w_lp (fun (s : Int32 × Hp) => l_163_25 x1 s.1 s.2) w_N (0, hz9)).bind fun ez22 =>
  w_gd (w_ix x1 16) <|
  if (ez22 1081 x1.toNatClampNeg) = 1 then
    (w_gd (w_ix x1 16) <|
    w_let (w_up ez22 1083 x1.toNatClampNeg (v_162 (ez22 1127 0))) fun hz26 =>
    w_gd (w_ix x1 16) <|
    w_let (w_up hz26 1085 x1.toNatClampNeg (v_162 (hz26 1127 2))) fun hz28 =>
    some hz28)
  else
    (w_gd (w_ix x1 16) <|
    if (ez22 1081 x1.toNatClampNeg) = 2 then
      ((w_lp (fun (s : Int32 × Int32 × Hp) => l_163_96 x1 s.1 s.2.1 s.2.2) w_N (0, 0, ez22)).bind fun ez45 =>
      w_gd (w_ix x1 16) <|
      w_gd (w_ix x1 16) <|
      w_let (w_up ez45.2 1085 x1.toNatClampNeg (ez45.1 &&& ((ez45.2 1083 x1.toNatClampNeg) ^^^ (-1)))) fun hz48 =>
      some hz48)
    else
      ((p_164 ez22 x1).bind fun vz49 =>
      some vz49))
theorem p_163_ok {X : List Int32}  {h : Hp} {x1 : Int32}  {r : Hp} (hF : p_163 h x1 = some r) : k_Ev X 4 163 [.ref (1076 + 1), .int x1] h (.inl none, r) := by
  refine k_of hk_163 ?_
  show k_Go X 4 163 (0, [.ref (1076 + 1), .int x1, (.retAddr 0), (.retAddr 0)], []) h _
  unfold p_163 at hF
  refine kg_aload hk_163 rfl rfl rfl ?_
  refine kg_iload hk_163 rfl rfl rfl ?_
  refine wf_bind hF (fun vz1 hvz1 hF => ?_)
  refine kg_call (as := [.ref (1076 + 1), .int x1]) (rest := []) hk_163 rfl (Or.inr (Or.inr (Or.inr ⟨Or.inl rfl, _, _, rfl, wc_1076⟩))) rfl rfl rfl (Nat.not_lt.mpr (Nat.le_of_ble_eq_true rfl)) (p_161_ok hvz1) (by decide) rfl ?_
  refine kg_aload hk_163 rfl rfl rfl ?_
  refine kg_get (v := .ref (1083 + 1)) hk_163 rfl wk_1076_7 rfl rfl ?_
  refine kg_iload hk_163 rfl rfl rfl ?_
  refine kg_push (x := 0) hk_163 rfl (by decide) rfl ?_
  refine wf_gd hF (fun gz2 hF => ?_)
  refine wf_let hF (fun hz3 hhz3 hF => ?_)
  refine kg_ast hk_163 rfl wc_1083 gz2 hhz3 rfl ?_
  refine kg_aload hk_163 rfl rfl rfl ?_
  refine kg_get (v := .ref (1084 + 1)) hk_163 rfl wk_1076_8 rfl rfl ?_
  refine kg_iload hk_163 rfl rfl rfl ?_
  refine kg_push (x := 0) hk_163 rfl (by decide) rfl ?_
  refine wf_gd hF (fun gz4 hF => ?_)
  refine wf_let hF (fun hz5 hhz5 hF => ?_)
  refine kg_ast hk_163 rfl wc_1084 gz4 hhz5 rfl ?_
  refine kg_aload hk_163 rfl rfl rfl ?_
  refine kg_get (v := .ref (1085 + 1)) hk_163 rfl wk_1076_9 rfl rfl ?_
  refine kg_iload hk_163 rfl rfl rfl ?_
  refine kg_push (x := 0) hk_163 rfl (by decide) rfl ?_
  refine wf_gd hF (fun gz6 hF => ?_)
  refine wf_let hF (fun hz7 hhz7 hF => ?_)
  refine kg_ast hk_163 rfl wc_1085 gz6 hhz7 rfl ?_
  refine kg_aload hk_163 rfl rfl rfl ?_
  refine kg_get (v := .ref (1086 + 1)) hk_163 rfl wk_1076_10 rfl rfl ?_
  refine kg_iload hk_163 rfl rfl rfl ?_
  refine kg_push (x := 0) hk_163 rfl (by decide) rfl ?_
  refine wf_gd hF (fun gz8 hF => ?_)
  refine wf_let hF (fun hz9 hhz9 hF => ?_)
  refine kg_ast hk_163 rfl wc_1086 gz8 hhz9 rfl ?_
  refine kg_push (x := 0) hk_163 rfl (by decide) rfl ?_
  refine kg_istore (L2 := [.ref (1076 + 1), .int x1, .int 0, (.retAddr 0)]) hk_163 rfl (Nat.le_of_ble_eq_true rfl) rfl rfl ?_
  refine wf_bind hF (fun ez22 hez22 hF => ?_)
  refine l_163_25_ok hez22 ?_ _
  intro u2 u3
  refine kg_aload hk_163 rfl rfl rfl ?_
  refine kg_get (v := .ref (1081 + 1)) hk_163 rfl wk_1076_5 rfl rfl ?_
  refine kg_iload hk_163 rfl rfl rfl ?_
  refine wf_gd hF (fun gz23 hF => ?_)
  refine kg_ald (y := (ez22 1081 x1.toNatClampNeg)) hk_163 rfl wc_1081 gz23 rfl rfl ?_
  refine kg_push (x := 1) hk_163 rfl (by decide) rfl ?_
  refine wf_if hF (fun cz24 hF => ?_) (fun cz24 hF => ?_)
  · refine kg_icF hk_163 rfl (jc_F1 cz24) rfl ?_
    refine kg_aload hk_163 rfl rfl rfl ?_
    refine kg_get (v := .ref (1083 + 1)) hk_163 rfl wk_1076_7 rfl rfl ?_
    refine kg_iload hk_163 rfl rfl rfl ?_
    refine kg_aload hk_163 rfl rfl rfl ?_
    refine kg_get (v := .ref (1127 + 1)) hk_163 rfl wk_1076_65 rfl rfl ?_
    refine kg_push (x := 0) hk_163 rfl (by decide) rfl ?_
    refine kg_ald (y := (ez22 1127 0)) hk_163 rfl wc_1127 (by decide) rfl rfl ?_
    refine kg_call (as := [.int (ez22 1127 0)]) (rest := [.int x1, .ref (1083 + 1)]) hk_163 rfl (Or.inl rfl) rfl rfl rfl (Nat.not_lt.mpr (Nat.le_of_ble_eq_true rfl)) (v_162_ok) (by decide) rfl ?_
    refine wf_gd hF (fun gz25 hF => ?_)
    refine wf_let hF (fun hz26 hhz26 hF => ?_)
    refine kg_ast hk_163 rfl wc_1083 gz25 hhz26 rfl ?_
    refine kg_aload hk_163 rfl rfl rfl ?_
    refine kg_get (v := .ref (1085 + 1)) hk_163 rfl wk_1076_9 rfl rfl ?_
    refine kg_iload hk_163 rfl rfl rfl ?_
    refine kg_aload hk_163 rfl rfl rfl ?_
    refine kg_get (v := .ref (1127 + 1)) hk_163 rfl wk_1076_65 rfl rfl ?_
    refine kg_push (x := 2) hk_163 rfl (by decide) rfl ?_
    refine kg_ald (y := (hz26 1127 2)) hk_163 rfl wc_1127 (by decide) rfl rfl ?_
    refine kg_call (as := [.int (hz26 1127 2)]) (rest := [.int x1, .ref (1085 + 1)]) hk_163 rfl (Or.inl rfl) rfl rfl rfl (Nat.not_lt.mpr (Nat.le_of_ble_eq_true rfl)) (v_162_ok) (by decide) rfl ?_
    refine wf_gd hF (fun gz27 hF => ?_)
    refine wf_let hF (fun hz28 hhz28 hF => ?_)
    refine kg_ast hk_163 rfl wc_1085 gz27 hhz28 rfl ?_
    refine kg_goto hk_163 rfl ?_
    have hF := Option.some.inj hF
    subst hF
    exact kg_ret hk_163 rfl rfl
  · refine kg_icT hk_163 rfl (jc_T1 cz24) ?_
    refine kg_aload hk_163 rfl rfl rfl ?_
    refine kg_get (v := .ref (1081 + 1)) hk_163 rfl wk_1076_5 rfl rfl ?_
    refine kg_iload hk_163 rfl rfl rfl ?_
    refine wf_gd hF (fun gz29 hF => ?_)
    refine kg_ald (y := (ez22 1081 x1.toNatClampNeg)) hk_163 rfl wc_1081 gz29 rfl rfl ?_
    refine kg_push (x := 2) hk_163 rfl (by decide) rfl ?_
    refine wf_if hF (fun cz30 hF => ?_) (fun cz30 hF => ?_)
    · refine kg_icF hk_163 rfl (jc_F1 cz30) rfl ?_
      refine kg_push (x := 0) hk_163 rfl (by decide) rfl ?_
      refine kg_istore (L2 := [.ref (1076 + 1), .int x1, .int 0, u3]) hk_163 rfl (Nat.le_of_ble_eq_true rfl) rfl rfl ?_
      refine kg_push (x := 0) hk_163 rfl (by decide) rfl ?_
      refine kg_istore (L2 := [.ref (1076 + 1), .int x1, .int 0, .int 0]) hk_163 rfl (Nat.le_of_ble_eq_true rfl) rfl rfl ?_
      refine wf_bind hF (fun ez45 hez45 hF => ?_)
      refine l_163_96_ok hez45 ?_
      intro u3
      refine kg_aload hk_163 rfl rfl rfl ?_
      refine kg_get (v := .ref (1085 + 1)) hk_163 rfl wk_1076_9 rfl rfl ?_
      refine kg_iload hk_163 rfl rfl rfl ?_
      refine kg_iload hk_163 rfl rfl rfl ?_
      refine kg_aload hk_163 rfl rfl rfl ?_
      refine kg_get (v := .ref (1083 + 1)) hk_163 rfl wk_1076_7 rfl rfl ?_
      refine kg_iload hk_163 rfl rfl rfl ?_
      refine wf_gd hF (fun gz46 hF => ?_)
      refine kg_ald (y := (ez45.2 1083 x1.toNatClampNeg)) hk_163 rfl wc_1083 gz46 rfl rfl ?_
      refine kg_push (x := (-1)) hk_163 rfl (by decide) rfl ?_
      refine kg_bin (z := ((ez45.2 1083 x1.toNatClampNeg) ^^^ (-1))) hk_163 rfl rfl rfl ?_
      refine kg_bin (z := (ez45.1 &&& ((ez45.2 1083 x1.toNatClampNeg) ^^^ (-1)))) hk_163 rfl rfl rfl ?_
      refine wf_gd hF (fun gz47 hF => ?_)
      refine wf_let hF (fun hz48 hhz48 hF => ?_)
      refine kg_ast hk_163 rfl wc_1085 gz47 hhz48 rfl ?_
      refine kg_goto hk_163 rfl ?_
      have hF := Option.some.inj hF
      subst hF
      exact kg_ret hk_163 rfl rfl
    · refine kg_icT hk_163 rfl (jc_T1 cz30) ?_
      refine kg_aload hk_163 rfl rfl rfl ?_
      refine kg_iload hk_163 rfl rfl rfl ?_
      refine wf_bind hF (fun vz49 hvz49 hF => ?_)
      refine kg_call (as := [.ref (1076 + 1), .int x1]) (rest := []) hk_163 rfl (Or.inr (Or.inr (Or.inr ⟨Or.inl rfl, _, _, rfl, wc_1076⟩))) rfl rfl rfl (Nat.not_lt.mpr (Nat.le_of_ble_eq_true rfl)) (p_164_ok hvz49) (by decide) rfl ?_
      have hF := Option.some.inj hF
      subst hF
      exact kg_ret hk_163 rfl rfl
-- NotebookWeirModel.takes(II)V
theorem hk_165 : jP[165]? = some (jc_165, 4, [], []) := by rfl
def l_165_10 (x1 : Int32) (x2 : Int32) (x3 : Int32) (h : Hp) : Option ((Int32 × Hp) ⊕ Hp) :=
  w_gd (w_ix x2 16) <|
  if x3 < (h 1080 x2.toNatClampNeg) then
    (w_gd (w_ix ((40 * x1) + x3) 80) <|
    w_gd (w_ix ((40 * x2) + x3) 640) <|
    w_let (w_up h 1079 (((40 * x2) + x3).toNatClampNeg) (h 1077 ((40 * x1) + x3).toNatClampNeg)) fun hz8 =>
    some (.inl ((x3 + 1), hz8)))
  else
    (some (.inr h))
theorem l_165_10_st {X : List Int32} {o : kO}  {h : Hp} {x1 : Int32} {x2 : Int32} {x3 : Int32}  {r : (Int32 × Hp) ⊕ Hp} (hF : l_165_10 x1 x2 x3 h = some r) (hK : ∀ s' : Int32 × Hp, r = .inl s' → k_Go X 5 165 (10, [.ref (1076 + 1), .int x1, .int x2, .int (s'.1)], []) s'.2 o) (hX0 : ∀ e : Hp, r = .inr e → ∀ (u1 : Value) (u3 : Value), k_Go X 5 165 (34, [.ref (1076 + 1), u1, .int x2, u3], []) e o) : k_Go X 5 165 (10, [.ref (1076 + 1), .int x1, .int x2, .int x3], []) h o := by
  refine kg_iload hk_165 rfl rfl rfl ?_
  refine kg_aload hk_165 rfl rfl rfl ?_
  refine kg_get (v := .ref (1080 + 1)) hk_165 rfl wk_1076_4 rfl rfl ?_
  refine kg_iload hk_165 rfl rfl rfl ?_
  refine wf_gd hF (fun gz4 hF => ?_)
  refine kg_ald (y := (h 1080 x2.toNatClampNeg)) hk_165 rfl wc_1080 gz4 rfl rfl ?_
  refine wf_if hF (fun cz5 hF => ?_) (fun cz5 hF => ?_)
  · refine kg_icF hk_165 rfl (jc_F3 cz5) rfl ?_
    refine kg_aload hk_165 rfl rfl rfl ?_
    refine kg_get (v := .ref (1079 + 1)) hk_165 rfl wk_1076_3 rfl rfl ?_
    refine kg_push (x := 40) hk_165 rfl (by decide) rfl ?_
    refine kg_iload hk_165 rfl rfl rfl ?_
    refine kg_bin (z := (40 * x2)) hk_165 rfl rfl rfl ?_
    refine kg_iload hk_165 rfl rfl rfl ?_
    refine kg_bin (z := ((40 * x2) + x3)) hk_165 rfl rfl rfl ?_
    refine kg_aload hk_165 rfl rfl rfl ?_
    refine kg_get (v := .ref (1077 + 1)) hk_165 rfl wk_1076_0 rfl rfl ?_
    refine kg_push (x := 40) hk_165 rfl (by decide) rfl ?_
    refine kg_iload hk_165 rfl rfl rfl ?_
    refine kg_bin (z := (40 * x1)) hk_165 rfl rfl rfl ?_
    refine kg_iload hk_165 rfl rfl rfl ?_
    refine kg_bin (z := ((40 * x1) + x3)) hk_165 rfl rfl rfl ?_
    refine wf_gd hF (fun gz6 hF => ?_)
    refine kg_ald (y := (h 1077 ((40 * x1) + x3).toNatClampNeg)) hk_165 rfl wc_1077 gz6 rfl rfl ?_
    refine wf_gd hF (fun gz7 hF => ?_)
    refine wf_let hF (fun hz8 hhz8 hF => ?_)
    refine kg_ast hk_165 rfl wc_1079 gz7 hhz8 rfl ?_
    refine kg_iinc (y := (x3 + 1)) (L2 := [.ref (1076 + 1), .int x1, .int x2, .int (x3 + 1)]) hk_165 rfl rfl rfl rfl rfl ?_
    refine kg_goto hk_165 rfl ?_
    have hF := Option.some.inj hF
    exact hK _ hF.symm
  · refine kg_icT hk_165 rfl (jc_T3 cz5) ?_
    have hF := Option.some.inj hF
    exact hX0 _ hF.symm _ _
theorem l_165_10_ok {X : List Int32} {o : kO}  {x1 : Int32} {x2 : Int32}  {n : Nat} {s : Int32 × Hp} {e : Hp} (hF : w_lp (fun (s : Int32 × Hp) => l_165_10 x1 x2 s.1 s.2) n s = some e) (hX0 : ∀ (u1 : Value) (u3 : Value), k_Go X 5 165 (34, [.ref (1076 + 1), u1, .int x2, u3], []) e o) : k_Go X 5 165 (10, [.ref (1076 + 1), .int x1, .int x2, .int s.1], []) s.2 o := by
  exact w_lp_ok (P := (fun (s : Int32 × Hp) => k_Go X 5 165 (10, [.ref (1076 + 1), .int x1, .int x2, .int s.1], []) s.2 o)) (Q := (fun (e : Hp) => (∀ (u1 : Value) (u3 : Value), k_Go X 5 165 (34, [.ref (1076 + 1), u1, .int x2, u3], []) e o))) (fun s r hF hK hX => l_165_10_st hF hK (fun x hx => (hX _ hx))) n s e hF hX0
def p_165 (h : Hp) (x1 : Int32) (x2 : Int32) : Option (Hp) :=
  w_gd (w_ix x1 2) <|
  w_gd (w_ix x2 16) <|
  w_let (w_up h 1080 x2.toNatClampNeg (h 1078 x1.toNatClampNeg)) fun hz3 =>
  (w_lp (fun (s : Int32 × Hp) => l_165_10 x1 x2 s.1 s.2) w_N (0, hz3)).bind fun ez9 =>
  (p_163 ez9 x2).bind fun vz10 =>
  some vz10
theorem p_165_ok {X : List Int32}  {h : Hp} {x1 : Int32} {x2 : Int32}  {r : Hp} (hF : p_165 h x1 x2 = some r) : k_Ev X 5 165 [.ref (1076 + 1), .int x1, .int x2] h (.inl none, r) := by
  refine k_of hk_165 ?_
  show k_Go X 5 165 (0, [.ref (1076 + 1), .int x1, .int x2, (.retAddr 0)], []) h _
  unfold p_165 at hF
  refine kg_aload hk_165 rfl rfl rfl ?_
  refine kg_get (v := .ref (1080 + 1)) hk_165 rfl wk_1076_4 rfl rfl ?_
  refine kg_iload hk_165 rfl rfl rfl ?_
  refine kg_aload hk_165 rfl rfl rfl ?_
  refine kg_get (v := .ref (1078 + 1)) hk_165 rfl wk_1076_1 rfl rfl ?_
  refine kg_iload hk_165 rfl rfl rfl ?_
  refine wf_gd hF (fun gz1 hF => ?_)
  refine kg_ald (y := (h 1078 x1.toNatClampNeg)) hk_165 rfl wc_1078 gz1 rfl rfl ?_
  refine wf_gd hF (fun gz2 hF => ?_)
  refine wf_let hF (fun hz3 hhz3 hF => ?_)
  refine kg_ast hk_165 rfl wc_1080 gz2 hhz3 rfl ?_
  refine kg_push (x := 0) hk_165 rfl (by decide) rfl ?_
  refine kg_istore (L2 := [.ref (1076 + 1), .int x1, .int x2, .int 0]) hk_165 rfl (Nat.le_of_ble_eq_true rfl) rfl rfl ?_
  refine wf_bind hF (fun ez9 hez9 hF => ?_)
  refine l_165_10_ok hez9 ?_
  intro u1 u3
  refine kg_aload hk_165 rfl rfl rfl ?_
  refine kg_iload hk_165 rfl rfl rfl ?_
  refine wf_bind hF (fun vz10 hvz10 hF => ?_)
  refine kg_call (as := [.ref (1076 + 1), .int x2]) (rest := []) hk_165 rfl (Or.inr (Or.inr (Or.inr ⟨Or.inl rfl, _, _, rfl, wc_1076⟩))) rfl rfl rfl (Nat.not_lt.mpr (Nat.le_of_ble_eq_true rfl)) (p_163_ok hvz10) (by decide) rfl ?_
  have hF := Option.some.inj hF
  subst hF
  exact kg_ret hk_165 rfl rfl
-- NotebookWeirModel.widgetOf(I)I
theorem hk_170 : jP[170]? = some (jc_170, 4, [], []) := by rfl
def l_170_4 (h : Hp) (x1 : Int32) (x2 : Int32) (x3 : Int32) : Option ((Int32 × Int32) ⊕ Int32) :=
  if x3 < (h 1076 48) then
    (w_gd (w_ix x3 4) <|
    some (.inl ((if (h 1112 x3.toNatClampNeg) = x1 then x3 else x2 : Int32), (x3 + 1))))
  else
    (some (.inr x2))
theorem l_170_4_st {X : List Int32} {o : kO}  {h : Hp} {x1 : Int32} {x2 : Int32} {x3 : Int32}  {r : (Int32 × Int32) ⊕ Int32} (hF : l_170_4 h x1 x2 x3 = some r) (hK : ∀ s' : Int32 × Int32, r = .inl s' → k_Go X 0 170 (4, [.ref (1076 + 1), .int x1, .int (s'.1), .int (s'.2)], []) h o) (hX0 : ∀ e : Int32, r = .inr e → (.inl (some (.int e)), h) = o) : k_Go X 0 170 (4, [.ref (1076 + 1), .int x1, .int x2, .int x3], []) h o := by
  refine kg_iload hk_170 rfl rfl rfl ?_
  refine kg_aload hk_170 rfl rfl rfl ?_
  refine kg_get (v := .int (h 1076 48)) hk_170 rfl wk_1076_48 rfl rfl ?_
  refine wf_if hF (fun cz1 hF => ?_) (fun cz1 hF => ?_)
  · refine kg_icF hk_170 rfl (jc_F3 cz1) rfl ?_
    refine kg_aload hk_170 rfl rfl rfl ?_
    refine kg_get (v := .ref (1112 + 1)) hk_170 rfl wk_1076_49 rfl rfl ?_
    refine kg_iload hk_170 rfl rfl rfl ?_
    refine wf_gd hF (fun gz2 hF => ?_)
    refine kg_ald (y := (h 1112 x3.toNatClampNeg)) hk_170 rfl wc_1112 gz2 rfl rfl ?_
    refine kg_iload hk_170 rfl rfl rfl ?_
    refine kv_mid (p := 17) (L := [.ref (1076 + 1), .int x1, .int x2, .int x3]) (S := [.int (if (h 1112 x3.toNatClampNeg) = x1 then x3 else x2 : Int32)]) ?_ (fun hK => ?_)
    · refine kg_istore (L2 := [.ref (1076 + 1), .int x1, .int (if (h 1112 x3.toNatClampNeg) = x1 then x3 else x2 : Int32), .int x3]) hk_170 rfl (Nat.le_of_ble_eq_true rfl) rfl rfl ?_
      refine kg_iinc (y := (x3 + 1)) (L2 := [.ref (1076 + 1), .int x1, .int (if (h 1112 x3.toNatClampNeg) = x1 then x3 else x2 : Int32), .int (x3 + 1)]) hk_170 rfl rfl rfl rfl rfl ?_
      refine kg_goto hk_170 rfl ?_
      have hF := Option.some.inj hF
      exact hK _ hF.symm
    · by_cases cz3 : (h 1112 x3.toNatClampNeg) = x1
      · have hK := kv_T cz3 hK
        refine kg_icF hk_170 rfl (jc_F1 cz3) rfl ?_
        refine kg_iload hk_170 rfl rfl rfl ?_
        refine kg_goto hk_170 rfl ?_
        exact hK
      · have hK := kv_F cz3 hK
        refine kg_icT hk_170 rfl (jc_T1 cz3) ?_
        refine kg_iload hk_170 rfl rfl rfl ?_
        exact hK
  · refine kg_icT hk_170 rfl (jc_T3 cz1) ?_
    refine kg_iload hk_170 rfl rfl rfl ?_
    have hF := Option.some.inj hF
    exact kg_iret hk_170 rfl (Or.inl rfl) (hX0 _ hF.symm)
theorem l_170_4_ok {X : List Int32} {o : kO}  {h : Hp} {x1 : Int32}  {n : Nat} {s : Int32 × Int32} {e : Int32} (hF : w_lp (fun (s : Int32 × Int32) => l_170_4 h x1 s.1 s.2) n s = some e) (hX0 : (.inl (some (.int e)), h) = o) : k_Go X 0 170 (4, [.ref (1076 + 1), .int x1, .int s.1, .int s.2], []) h o := by
  exact w_lp_ok (P := (fun (s : Int32 × Int32) => k_Go X 0 170 (4, [.ref (1076 + 1), .int x1, .int s.1, .int s.2], []) h o)) (Q := (fun (e : Int32) => ((.inl (some (.int e)), h) = o))) (fun s r hF hK hX => l_170_4_st hF hK (fun x hx => (hX _ hx))) n s e hF hX0
def p_170 (h : Hp) (x1 : Int32) : Option (Int32) :=
  w_lp (fun (s : Int32 × Int32) => l_170_4 h x1 s.1 s.2) w_N ((-1), 0)
theorem p_170_ok {X : List Int32}  {h : Hp} {x1 : Int32}  {r : Int32} (hF : p_170 h x1 = some r) : k_Ev X 0 170 [.ref (1076 + 1), .int x1] h (.inl (some (.int r)), h) := by
  refine k_of hk_170 ?_
  show k_Go X 0 170 (0, [.ref (1076 + 1), .int x1, (.retAddr 0), (.retAddr 0)], []) h _
  unfold p_170 at hF
  refine kg_push (x := (-1)) hk_170 rfl (by decide) rfl ?_
  refine kg_istore (L2 := [.ref (1076 + 1), .int x1, .int (-1), (.retAddr 0)]) hk_170 rfl (Nat.le_of_ble_eq_true rfl) rfl rfl ?_
  refine kg_push (x := 0) hk_170 rfl (by decide) rfl ?_
  refine kg_istore (L2 := [.ref (1076 + 1), .int x1, .int (-1), .int 0]) hk_170 rfl (Nat.le_of_ble_eq_true rfl) rfl rfl ?_
  exact l_170_4_ok hF rfl
-- NotebookWeirModel.definers(I)I
theorem hk_179 : jP[179]? = some (jc_179, 4, [], []) := by rfl
def l_179_11 (h : Hp) (x1 : Int32) (x2 : Int32) (x3 : Int32) : Option ((Int32 × Int32) ⊕ Int32) :=
  if x3 < (h 1076 2) then
    (w_gd (w_ix x3 16) <|
    some (.inl ((x2 + (if ((h 1083 x3.toNatClampNeg) &&& (v_162 x1)) = 0 then 0 else 1 : Int32)), (x3 + 1))))
  else
    (some (.inr x2))
theorem l_179_11_st {X : List Int32} {o : kO}  {h : Hp} {x1 : Int32} {x2 : Int32} {x3 : Int32}  {r : (Int32 × Int32) ⊕ Int32} (hF : l_179_11 h x1 x2 x3 = some r) (hK : ∀ s' : Int32 × Int32, r = .inl s' → k_Go X 1 179 (11, [.ref (1076 + 1), .int x1, .int (s'.1), .int (s'.2)], []) h o) (hX0 : ∀ e : Int32, r = .inr e → (.inl (some (.int e)), h) = o) : k_Go X 1 179 (11, [.ref (1076 + 1), .int x1, .int x2, .int x3], []) h o := by
  refine kg_iload hk_179 rfl rfl rfl ?_
  refine kg_aload hk_179 rfl rfl rfl ?_
  refine kg_get (v := .int (h 1076 2)) hk_179 rfl wk_1076_2 rfl rfl ?_
  refine wf_if hF (fun cz3 hF => ?_) (fun cz3 hF => ?_)
  · refine kg_icF hk_179 rfl (jc_F3 cz3) rfl ?_
    refine kg_iload hk_179 rfl rfl rfl ?_
    refine kg_aload hk_179 rfl rfl rfl ?_
    refine kg_get (v := .ref (1083 + 1)) hk_179 rfl wk_1076_7 rfl rfl ?_
    refine kg_iload hk_179 rfl rfl rfl ?_
    refine wf_gd hF (fun gz4 hF => ?_)
    refine kg_ald (y := (h 1083 x3.toNatClampNeg)) hk_179 rfl wc_1083 gz4 rfl rfl ?_
    refine kg_iload hk_179 rfl rfl rfl ?_
    refine kg_call (as := [.int x1]) (rest := [.int (h 1083 x3.toNatClampNeg), .int x2]) hk_179 rfl (Or.inl rfl) rfl rfl rfl (Nat.not_lt.mpr (Nat.le_of_ble_eq_true rfl)) (v_162_ok) (by decide) rfl ?_
    refine kg_bin (z := ((h 1083 x3.toNatClampNeg) &&& (v_162 x1))) hk_179 rfl rfl rfl ?_
    refine kv_mid (p := 27) (L := [.ref (1076 + 1), .int x1, .int x2, .int x3]) (S := [.int (if ((h 1083 x3.toNatClampNeg) &&& (v_162 x1)) = 0 then 0 else 1 : Int32), .int x2]) ?_ (fun hK => ?_)
    · refine kg_bin (z := (x2 + (if ((h 1083 x3.toNatClampNeg) &&& (v_162 x1)) = 0 then 0 else 1 : Int32))) hk_179 rfl rfl rfl ?_
      refine kg_istore (L2 := [.ref (1076 + 1), .int x1, .int (x2 + (if ((h 1083 x3.toNatClampNeg) &&& (v_162 x1)) = 0 then 0 else 1 : Int32)), .int x3]) hk_179 rfl (Nat.le_of_ble_eq_true rfl) rfl rfl ?_
      refine kg_iinc (y := (x3 + 1)) (L2 := [.ref (1076 + 1), .int x1, .int (x2 + (if ((h 1083 x3.toNatClampNeg) &&& (v_162 x1)) = 0 then 0 else 1 : Int32)), .int (x3 + 1)]) hk_179 rfl rfl rfl rfl rfl ?_
      refine kg_goto hk_179 rfl ?_
      have hF := Option.some.inj hF
      exact hK _ hF.symm
    · by_cases cz5 : ((h 1083 x3.toNatClampNeg) &&& (v_162 x1)) = 0
      · have hK := kv_T cz5 hK
        refine kg_ifT hk_179 rfl (jc_T0 cz5) ?_
        refine kg_push (x := 0) hk_179 rfl (by decide) rfl ?_
        exact hK
      · have hK := kv_F cz5 hK
        refine kg_ifF hk_179 rfl (jc_F0 cz5) rfl ?_
        refine kg_push (x := 1) hk_179 rfl (by decide) rfl ?_
        refine kg_goto hk_179 rfl ?_
        exact hK
  · refine kg_icT hk_179 rfl (jc_T3 cz3) ?_
    refine kg_iload hk_179 rfl rfl rfl ?_
    have hF := Option.some.inj hF
    exact kg_iret hk_179 rfl (Or.inl rfl) (hX0 _ hF.symm)
theorem l_179_11_ok {X : List Int32} {o : kO}  {h : Hp} {x1 : Int32}  {n : Nat} {s : Int32 × Int32} {e : Int32} (hF : w_lp (fun (s : Int32 × Int32) => l_179_11 h x1 s.1 s.2) n s = some e) (hX0 : (.inl (some (.int e)), h) = o) : k_Go X 1 179 (11, [.ref (1076 + 1), .int x1, .int s.1, .int s.2], []) h o := by
  exact w_lp_ok (P := (fun (s : Int32 × Int32) => k_Go X 1 179 (11, [.ref (1076 + 1), .int x1, .int s.1, .int s.2], []) h o)) (Q := (fun (e : Int32) => ((.inl (some (.int e)), h) = o))) (fun s r hF hK hX => l_179_11_st hF hK (fun x hx => (hX _ hx))) n s e hF hX0
def q_179_8 (h : Hp) (x1 : Int32) (s0 : Int32) : Option (Int32) :=
  w_lp (fun (s : Int32 × Int32) => l_179_11 h x1 s.1 s.2) w_N (s0, 0)
theorem q_179_8_ok {X : List Int32}   {h : Hp} {s0 : Int32} {x1 : Int32}  {r : Int32} (hF : q_179_8 h x1 s0 = some r)  : ∀ (u2 : Value) (u3 : Value), k_Go X 1 179 (8, [.ref (1076 + 1), .int x1, u2, u3], [.int s0]) h (.inl (some (.int r)), h) := by
  intro u2 u3
  unfold q_179_8 at hF
  refine kg_istore (L2 := [.ref (1076 + 1), .int x1, .int s0, u3]) hk_179 rfl (Nat.le_of_ble_eq_true rfl) rfl rfl ?_
  refine kg_push (x := 0) hk_179 rfl (by decide) rfl ?_
  refine kg_istore (L2 := [.ref (1076 + 1), .int x1, .int s0, .int 0]) hk_179 rfl (Nat.le_of_ble_eq_true rfl) rfl rfl ?_
  exact l_179_11_ok hF rfl
def p_179 (h : Hp) (x1 : Int32) : Option (Int32) :=
  (p_170 h x1).bind fun vz1 =>
  q_179_8 h x1 (if vz1 = (-1) then 0 else 1 : Int32)
theorem p_179_ok {X : List Int32}  {h : Hp} {x1 : Int32}  {r : Int32} (hF : p_179 h x1 = some r) : k_Ev X 1 179 [.ref (1076 + 1), .int x1] h (.inl (some (.int r)), h) := by
  refine k_of hk_179 ?_
  show k_Go X 1 179 (0, [.ref (1076 + 1), .int x1, (.retAddr 0), (.retAddr 0)], []) h _
  unfold p_179 at hF
  refine kg_aload hk_179 rfl rfl rfl ?_
  refine kg_iload hk_179 rfl rfl rfl ?_
  refine wf_bind hF (fun vz1 hvz1 hF => ?_)
  refine kg_call (as := [.ref (1076 + 1), .int x1]) (rest := []) hk_179 rfl (Or.inr (Or.inr (Or.inr ⟨Or.inl rfl, _, _, rfl, wc_1076⟩))) rfl rfl rfl (Nat.not_lt.mpr (Nat.le_of_ble_eq_true rfl)) (p_170_ok hvz1) (by decide) rfl ?_
  refine kg_push (x := (-1)) hk_179 rfl (by decide) rfl ?_
  refine kv_mid (p := 8) (L := [.ref (1076 + 1), .int x1, (.retAddr 0), (.retAddr 0)]) (S := [.int (if vz1 = (-1) then 0 else 1 : Int32)]) ?_ (fun hK => ?_)
  · exact q_179_8_ok hF _ _
  · by_cases cz2 : vz1 = (-1)
    · have hK := kv_T cz2 hK
      refine kg_icF hk_179 rfl (jc_F1 cz2) rfl ?_
      refine kg_push (x := 0) hk_179 rfl (by decide) rfl ?_
      refine kg_goto hk_179 rfl ?_
      exact hK
    · have hK := kv_F cz2 hK
      refine kg_icT hk_179 rfl (jc_T1 cz2) ?_
      refine kg_push (x := 1) hk_179 rfl (by decide) rfl ?_
      exact hK
-- NotebookWeirModel.isTwice(I)Z
theorem hk_184 : jP[184]? = some (jc_184, 4, [], []) := by rfl
def l_184_4 (h : Hp) (x1 : Int32) (x2 : Int32) (x3 : Int32) : Option ((Int32 × Int32) ⊕ Int32) :=
  if x3 ≤ 122 then
    (if x2 = 0 then
      (w_gd (w_ix x1 16) <|
      if ((h 1083 x1.toNatClampNeg) &&& (v_162 x3)) = 0 then
        (some (.inl (0, (x3 + 1))))
      else
        ((p_179 h x3).bind fun vz5 =>
        some (.inl ((if vz5 ≤ 1 then 0 else 1 : Int32), (x3 + 1)))))
    else
      (some (.inl (1, (x3 + 1)))))
  else
    (w_gd (w_bo x2) <|
    some (.inr x2))
theorem l_184_4_st {X : List Int32} {o : kO}  {h : Hp} {x1 : Int32} {x2 : Int32} {x3 : Int32}  {r : (Int32 × Int32) ⊕ Int32} (hF : l_184_4 h x1 x2 x3 = some r) (hK : ∀ s' : Int32 × Int32, r = .inl s' → k_Go X 2 184 (4, [.ref (1076 + 1), .int x1, .int (s'.1), .int (s'.2)], []) h o) (hX0 : ∀ e : Int32, r = .inr e → (.inl (some (.int e)), h) = o) : k_Go X 2 184 (4, [.ref (1076 + 1), .int x1, .int x2, .int x3], []) h o := by
  refine kg_iload hk_184 rfl rfl rfl ?_
  refine kg_push (x := 122) hk_184 rfl (by decide) rfl ?_
  refine wf_if hF (fun cz1 hF => ?_) (fun cz1 hF => ?_)
  · refine kg_icF hk_184 rfl (jc_F4 cz1) rfl ?_
    refine kg_iload hk_184 rfl rfl rfl ?_
    refine wf_if hF (fun cz2 hF => ?_) (fun cz2 hF => ?_)
    · refine kg_ifF hk_184 rfl (jc_F1 cz2) rfl ?_
      refine kg_aload hk_184 rfl rfl rfl ?_
      refine kg_get (v := .ref (1083 + 1)) hk_184 rfl wk_1076_7 rfl rfl ?_
      refine kg_iload hk_184 rfl rfl rfl ?_
      refine wf_gd hF (fun gz3 hF => ?_)
      refine kg_ald (y := (h 1083 x1.toNatClampNeg)) hk_184 rfl wc_1083 gz3 rfl rfl ?_
      refine kg_iload hk_184 rfl rfl rfl ?_
      refine kg_call (as := [.int x3]) (rest := [.int (h 1083 x1.toNatClampNeg)]) hk_184 rfl (Or.inl rfl) rfl rfl rfl (Nat.not_lt.mpr (Nat.le_of_ble_eq_true rfl)) (v_162_ok) (by decide) rfl ?_
      refine kg_bin (z := ((h 1083 x1.toNatClampNeg) &&& (v_162 x3))) hk_184 rfl rfl rfl ?_
      refine wf_if hF (fun cz4 hF => ?_) (fun cz4 hF => ?_)
      · refine kg_ifT hk_184 rfl (jc_T0 cz4) ?_
        refine kg_push (x := 0) hk_184 rfl (by decide) rfl ?_
        refine kg_istore (L2 := [.ref (1076 + 1), .int x1, .int 0, .int x3]) hk_184 rfl (Nat.le_of_ble_eq_true rfl) rfl rfl ?_
        refine kg_iinc (y := (x3 + 1)) (L2 := [.ref (1076 + 1), .int x1, .int 0, .int (x3 + 1)]) hk_184 rfl rfl rfl rfl rfl ?_
        refine kg_goto hk_184 rfl ?_
        have hF := Option.some.inj hF
        exact hK _ hF.symm
      · refine kg_ifF hk_184 rfl (jc_F0 cz4) rfl ?_
        refine kg_aload hk_184 rfl rfl rfl ?_
        refine kg_iload hk_184 rfl rfl rfl ?_
        refine wf_bind hF (fun vz5 hvz5 hF => ?_)
        refine kg_call (as := [.ref (1076 + 1), .int x3]) (rest := []) hk_184 rfl (Or.inr (Or.inr (Or.inr ⟨Or.inl rfl, _, _, rfl, wc_1076⟩))) rfl rfl rfl (Nat.not_lt.mpr (Nat.le_of_ble_eq_true rfl)) (p_179_ok hvz5) (by decide) rfl ?_
        refine kg_push (x := 1) hk_184 rfl (by decide) rfl ?_
        refine kv_mid (p := 25) (L := [.ref (1076 + 1), .int x1, .int x2, .int x3]) (S := [.int (if vz5 ≤ 1 then 0 else 1 : Int32)]) ?_ (fun hK => ?_)
        · refine kg_istore (L2 := [.ref (1076 + 1), .int x1, .int (if vz5 ≤ 1 then 0 else 1 : Int32), .int x3]) hk_184 rfl (Nat.le_of_ble_eq_true rfl) rfl rfl ?_
          refine kg_iinc (y := (x3 + 1)) (L2 := [.ref (1076 + 1), .int x1, .int (if vz5 ≤ 1 then 0 else 1 : Int32), .int (x3 + 1)]) hk_184 rfl rfl rfl rfl rfl ?_
          refine kg_goto hk_184 rfl ?_
          have hF := Option.some.inj hF
          exact hK _ hF.symm
        · by_cases cz6 : vz5 ≤ 1
          · have hK := kv_T cz6 hK
            refine kg_icT hk_184 rfl (jc_T5 cz6) ?_
            refine kg_push (x := 0) hk_184 rfl (by decide) rfl ?_
            exact hK
          · have hK := kv_F cz6 hK
            refine kg_icF hk_184 rfl (jc_F5 cz6) rfl ?_
            refine kg_push (x := 1) hk_184 rfl (by decide) rfl ?_
            refine kg_goto hk_184 rfl ?_
            exact hK
    · refine kg_ifT hk_184 rfl (jc_T1 cz2) ?_
      refine kg_push (x := 1) hk_184 rfl (by decide) rfl ?_
      refine kg_goto hk_184 rfl ?_
      refine kg_istore (L2 := [.ref (1076 + 1), .int x1, .int 1, .int x3]) hk_184 rfl (Nat.le_of_ble_eq_true rfl) rfl rfl ?_
      refine kg_iinc (y := (x3 + 1)) (L2 := [.ref (1076 + 1), .int x1, .int 1, .int (x3 + 1)]) hk_184 rfl rfl rfl rfl rfl ?_
      refine kg_goto hk_184 rfl ?_
      have hF := Option.some.inj hF
      exact hK _ hF.symm
  · refine kg_icT hk_184 rfl (jc_T4 cz1) ?_
    refine kg_iload hk_184 rfl rfl rfl ?_
    refine wf_gd hF (fun gz7 hF => ?_)
    have hF := Option.some.inj hF
    exact kg_iret hk_184 rfl (Or.inr gz7) (hX0 _ hF.symm)
theorem l_184_4_ok {X : List Int32} {o : kO}  {h : Hp} {x1 : Int32}  {n : Nat} {s : Int32 × Int32} {e : Int32} (hF : w_lp (fun (s : Int32 × Int32) => l_184_4 h x1 s.1 s.2) n s = some e) (hX0 : (.inl (some (.int e)), h) = o) : k_Go X 2 184 (4, [.ref (1076 + 1), .int x1, .int s.1, .int s.2], []) h o := by
  exact w_lp_ok (P := (fun (s : Int32 × Int32) => k_Go X 2 184 (4, [.ref (1076 + 1), .int x1, .int s.1, .int s.2], []) h o)) (Q := (fun (e : Int32) => ((.inl (some (.int e)), h) = o))) (fun s r hF hK hX => l_184_4_st hF hK (fun x hx => (hX _ hx))) n s e hF hX0
def p_184 (h : Hp) (x1 : Int32) : Option (Int32) :=
  w_lp (fun (s : Int32 × Int32) => l_184_4 h x1 s.1 s.2) w_N (0, 97)
theorem p_184_ok {X : List Int32}  {h : Hp} {x1 : Int32}  {r : Int32} (hF : p_184 h x1 = some r) : k_Ev X 2 184 [.ref (1076 + 1), .int x1] h (.inl (some (.int r)), h) := by
  refine k_of hk_184 ?_
  show k_Go X 2 184 (0, [.ref (1076 + 1), .int x1, (.retAddr 0), (.retAddr 0)], []) h _
  unfold p_184 at hF
  refine kg_push (x := 0) hk_184 rfl (by decide) rfl ?_
  refine kg_istore (L2 := [.ref (1076 + 1), .int x1, .int 0, (.retAddr 0)]) hk_184 rfl (Nat.le_of_ble_eq_true rfl) rfl rfl ?_
  refine kg_push (x := 97) hk_184 rfl (by decide) rfl ?_
  refine kg_istore (L2 := [.ref (1076 + 1), .int x1, .int 0, .int 97]) hk_184 rfl (Nat.le_of_ble_eq_true rfl) rfl rfl ?_
  exact l_184_4_ok hF rfl
-- NotebookWeirModel.changer(II)I
theorem hk_180 : jP[180]? = some (jc_180, 5, [], []) := by rfl
def l_180_4 (h : Hp) (x1 : Int32) (x2 : Int32) (x3 : Int32) (x4 : Int32) : Option ((Int32 × Int32) ⊕ Int32) :=
  if x4 < x2 then
    (w_gd (w_ix x4 16) <|
    some (.inl ((if ((h 1084 x4.toNatClampNeg) &&& (v_162 x1)) = 0 then x3 else x4 : Int32), (x4 + 1))))
  else
    (some (.inr x3))
theorem l_180_4_st {X : List Int32} {o : kO}  {h : Hp} {x1 : Int32} {x2 : Int32} {x3 : Int32} {x4 : Int32}  {r : (Int32 × Int32) ⊕ Int32} (hF : l_180_4 h x1 x2 x3 x4 = some r) (hK : ∀ s' : Int32 × Int32, r = .inl s' → k_Go X 1 180 (4, [.ref (1076 + 1), .int x1, .int x2, .int (s'.1), .int (s'.2)], []) h o) (hX0 : ∀ e : Int32, r = .inr e → (.inl (some (.int e)), h) = o) : k_Go X 1 180 (4, [.ref (1076 + 1), .int x1, .int x2, .int x3, .int x4], []) h o := by
  refine kg_iload hk_180 rfl rfl rfl ?_
  refine kg_iload hk_180 rfl rfl rfl ?_
  refine wf_if hF (fun cz1 hF => ?_) (fun cz1 hF => ?_)
  · refine kg_icF hk_180 rfl (jc_F3 cz1) rfl ?_
    refine kg_aload hk_180 rfl rfl rfl ?_
    refine kg_get (v := .ref (1084 + 1)) hk_180 rfl wk_1076_8 rfl rfl ?_
    refine kg_iload hk_180 rfl rfl rfl ?_
    refine wf_gd hF (fun gz2 hF => ?_)
    refine kg_ald (y := (h 1084 x4.toNatClampNeg)) hk_180 rfl wc_1084 gz2 rfl rfl ?_
    refine kg_iload hk_180 rfl rfl rfl ?_
    refine kg_call (as := [.int x1]) (rest := [.int (h 1084 x4.toNatClampNeg)]) hk_180 rfl (Or.inl rfl) rfl rfl rfl (Nat.not_lt.mpr (Nat.le_of_ble_eq_true rfl)) (v_162_ok) (by decide) rfl ?_
    refine kg_bin (z := ((h 1084 x4.toNatClampNeg) &&& (v_162 x1))) hk_180 rfl rfl rfl ?_
    refine kv_mid (p := 18) (L := [.ref (1076 + 1), .int x1, .int x2, .int x3, .int x4]) (S := [.int (if ((h 1084 x4.toNatClampNeg) &&& (v_162 x1)) = 0 then x3 else x4 : Int32)]) ?_ (fun hK => ?_)
    · refine kg_istore (L2 := [.ref (1076 + 1), .int x1, .int x2, .int (if ((h 1084 x4.toNatClampNeg) &&& (v_162 x1)) = 0 then x3 else x4 : Int32), .int x4]) hk_180 rfl (Nat.le_of_ble_eq_true rfl) rfl rfl ?_
      refine kg_iinc (y := (x4 + 1)) (L2 := [.ref (1076 + 1), .int x1, .int x2, .int (if ((h 1084 x4.toNatClampNeg) &&& (v_162 x1)) = 0 then x3 else x4 : Int32), .int (x4 + 1)]) hk_180 rfl rfl rfl rfl rfl ?_
      refine kg_goto hk_180 rfl ?_
      have hF := Option.some.inj hF
      exact hK _ hF.symm
    · by_cases cz3 : ((h 1084 x4.toNatClampNeg) &&& (v_162 x1)) = 0
      · have hK := kv_T cz3 hK
        refine kg_ifT hk_180 rfl (jc_T0 cz3) ?_
        refine kg_iload hk_180 rfl rfl rfl ?_
        exact hK
      · have hK := kv_F cz3 hK
        refine kg_ifF hk_180 rfl (jc_F0 cz3) rfl ?_
        refine kg_iload hk_180 rfl rfl rfl ?_
        refine kg_goto hk_180 rfl ?_
        exact hK
  · refine kg_icT hk_180 rfl (jc_T3 cz1) ?_
    refine kg_iload hk_180 rfl rfl rfl ?_
    have hF := Option.some.inj hF
    exact kg_iret hk_180 rfl (Or.inl rfl) (hX0 _ hF.symm)
theorem l_180_4_ok {X : List Int32} {o : kO}  {h : Hp} {x1 : Int32} {x2 : Int32}  {n : Nat} {s : Int32 × Int32} {e : Int32} (hF : w_lp (fun (s : Int32 × Int32) => l_180_4 h x1 x2 s.1 s.2) n s = some e) (hX0 : (.inl (some (.int e)), h) = o) : k_Go X 1 180 (4, [.ref (1076 + 1), .int x1, .int x2, .int s.1, .int s.2], []) h o := by
  exact w_lp_ok (P := (fun (s : Int32 × Int32) => k_Go X 1 180 (4, [.ref (1076 + 1), .int x1, .int x2, .int s.1, .int s.2], []) h o)) (Q := (fun (e : Int32) => ((.inl (some (.int e)), h) = o))) (fun s r hF hK hX => l_180_4_st hF hK (fun x hx => (hX _ hx))) n s e hF hX0
def p_180 (h : Hp) (x1 : Int32) (x2 : Int32) : Option (Int32) :=
  w_lp (fun (s : Int32 × Int32) => l_180_4 h x1 x2 s.1 s.2) w_N ((-1), 0)
theorem p_180_ok {X : List Int32}  {h : Hp} {x1 : Int32} {x2 : Int32}  {r : Int32} (hF : p_180 h x1 x2 = some r) : k_Ev X 1 180 [.ref (1076 + 1), .int x1, .int x2] h (.inl (some (.int r)), h) := by
  refine k_of hk_180 ?_
  show k_Go X 1 180 (0, [.ref (1076 + 1), .int x1, .int x2, (.retAddr 0), (.retAddr 0)], []) h _
  unfold p_180 at hF
  refine kg_push (x := (-1)) hk_180 rfl (by decide) rfl ?_
  refine kg_istore (L2 := [.ref (1076 + 1), .int x1, .int x2, .int (-1), (.retAddr 0)]) hk_180 rfl (Nat.le_of_ble_eq_true rfl) rfl rfl ?_
  refine kg_push (x := 0) hk_180 rfl (by decide) rfl ?_
  refine kg_istore (L2 := [.ref (1076 + 1), .int x1, .int x2, .int (-1), .int 0]) hk_180 rfl (Nat.le_of_ble_eq_true rfl) rfl rfl ?_
  exact l_180_4_ok hF rfl
-- NotebookWeirModel.definer(I)I
theorem hk_181 : jP[181]? = some (jc_181, 5, [], []) := by rfl
def l_181_21 (h : Hp) (x1 : Int32) (x3 : Int32) (x4 : Int32) : Option ((Int32 × Int32) ⊕ Int32) :=
  if x4 < (h 1076 2) then
    (w_gd (w_ix x4 16) <|
    some (.inl ((if ((h 1083 x4.toNatClampNeg) &&& (v_162 x1)) = 0 then x3 else x4 : Int32), (x4 + 1))))
  else
    (some (.inr x3))
theorem l_181_21_st {X : List Int32} {o : kO}  {h : Hp} {x1 : Int32} {x3 : Int32} {x4 : Int32}  {r : (Int32 × Int32) ⊕ Int32} (hF : l_181_21 h x1 x3 x4 = some r) (hK : ∀ s' : Int32 × Int32, r = .inl s' → ∀ (u2 : Value), k_Go X 2 181 (21, [.ref (1076 + 1), .int x1, u2, .int (s'.1), .int (s'.2)], []) h o) (hX0 : ∀ e : Int32, r = .inr e → (.inl (some (.int e)), h) = o) : ∀ (u2 : Value), k_Go X 2 181 (21, [.ref (1076 + 1), .int x1, u2, .int x3, .int x4], []) h o := by
  intro u2
  refine kg_iload hk_181 rfl rfl rfl ?_
  refine kg_aload hk_181 rfl rfl rfl ?_
  refine kg_get (v := .int (h 1076 2)) hk_181 rfl wk_1076_2 rfl rfl ?_
  refine wf_if hF (fun cz5 hF => ?_) (fun cz5 hF => ?_)
  · refine kg_icF hk_181 rfl (jc_F3 cz5) rfl ?_
    refine kg_aload hk_181 rfl rfl rfl ?_
    refine kg_get (v := .ref (1083 + 1)) hk_181 rfl wk_1076_7 rfl rfl ?_
    refine kg_iload hk_181 rfl rfl rfl ?_
    refine wf_gd hF (fun gz6 hF => ?_)
    refine kg_ald (y := (h 1083 x4.toNatClampNeg)) hk_181 rfl wc_1083 gz6 rfl rfl ?_
    refine kg_iload hk_181 rfl rfl rfl ?_
    refine kg_call (as := [.int x1]) (rest := [.int (h 1083 x4.toNatClampNeg)]) hk_181 rfl (Or.inl rfl) rfl rfl rfl (Nat.not_lt.mpr (Nat.le_of_ble_eq_true rfl)) (v_162_ok) (by decide) rfl ?_
    refine kg_bin (z := ((h 1083 x4.toNatClampNeg) &&& (v_162 x1))) hk_181 rfl rfl rfl ?_
    refine kv_mid (p := 36) (L := [.ref (1076 + 1), .int x1, u2, .int x3, .int x4]) (S := [.int (if ((h 1083 x4.toNatClampNeg) &&& (v_162 x1)) = 0 then x3 else x4 : Int32)]) ?_ (fun hK => ?_)
    · refine kg_istore (L2 := [.ref (1076 + 1), .int x1, u2, .int (if ((h 1083 x4.toNatClampNeg) &&& (v_162 x1)) = 0 then x3 else x4 : Int32), .int x4]) hk_181 rfl (Nat.le_of_ble_eq_true rfl) rfl rfl ?_
      refine kg_iinc (y := (x4 + 1)) (L2 := [.ref (1076 + 1), .int x1, u2, .int (if ((h 1083 x4.toNatClampNeg) &&& (v_162 x1)) = 0 then x3 else x4 : Int32), .int (x4 + 1)]) hk_181 rfl rfl rfl rfl rfl ?_
      refine kg_goto hk_181 rfl ?_
      have hF := Option.some.inj hF
      exact hK _ hF.symm _
    · by_cases cz7 : ((h 1083 x4.toNatClampNeg) &&& (v_162 x1)) = 0
      · have hK := kv_T cz7 hK
        refine kg_ifT hk_181 rfl (jc_T0 cz7) ?_
        refine kg_iload hk_181 rfl rfl rfl ?_
        exact hK
      · have hK := kv_F cz7 hK
        refine kg_ifF hk_181 rfl (jc_F0 cz7) rfl ?_
        refine kg_iload hk_181 rfl rfl rfl ?_
        refine kg_goto hk_181 rfl ?_
        exact hK
  · refine kg_icT hk_181 rfl (jc_T3 cz5) ?_
    refine kg_iload hk_181 rfl rfl rfl ?_
    have hF := Option.some.inj hF
    exact kg_iret hk_181 rfl (Or.inl rfl) (hX0 _ hF.symm)
theorem l_181_21_ok {X : List Int32} {o : kO}  {h : Hp} {x1 : Int32}  {n : Nat} {s : Int32 × Int32} {e : Int32} (hF : w_lp (fun (s : Int32 × Int32) => l_181_21 h x1 s.1 s.2) n s = some e) (hX0 : (.inl (some (.int e)), h) = o) : ∀ (u2 : Value), k_Go X 2 181 (21, [.ref (1076 + 1), .int x1, u2, .int s.1, .int s.2], []) h o := by
  exact w_lp_ok (P := (fun (s : Int32 × Int32) => ∀ (u2 : Value), k_Go X 2 181 (21, [.ref (1076 + 1), .int x1, u2, .int s.1, .int s.2], []) h o)) (Q := (fun (e : Int32) => ((.inl (some (.int e)), h) = o))) (fun s r hF hK hX => l_181_21_st hF hK (fun x hx => (hX _ hx))) n s e hF hX0
def q_181_9 (h : Hp) (x1 : Int32) (x2 : Int32) (s0 : Int32) : Option (Int32) :=
  if x2 = 1 then
    ((p_170 h x1).bind fun vz4 =>
    w_lp (fun (s : Int32 × Int32) => l_181_21 h x1 s.1 s.2) w_N ((16 + vz4), 0))
  else
    (some s0)
theorem q_181_9_ok {X : List Int32}   {h : Hp} {s0 : Int32} {x1 : Int32} {x2 : Int32}  {r : Int32} (hF : q_181_9 h x1 x2 s0 = some r)  : ∀ (u3 : Value) (u4 : Value), k_Go X 2 181 (9, [.ref (1076 + 1), .int x1, .int x2, u3, u4], [.int s0]) h (.inl (some (.int r)), h) := by
  intro u3 u4
  unfold q_181_9 at hF
  refine kg_istore (L2 := [.ref (1076 + 1), .int x1, .int x2, .int s0, u4]) hk_181 rfl (Nat.le_of_ble_eq_true rfl) rfl rfl ?_
  refine kg_iload hk_181 rfl rfl rfl ?_
  refine kg_push (x := 1) hk_181 rfl (by decide) rfl ?_
  refine wf_if hF (fun cz3 hF => ?_) (fun cz3 hF => ?_)
  · refine kg_icF hk_181 rfl (jc_F1 cz3) rfl ?_
    refine kg_push (x := 16) hk_181 rfl (by decide) rfl ?_
    refine kg_aload hk_181 rfl rfl rfl ?_
    refine kg_iload hk_181 rfl rfl rfl ?_
    refine wf_bind hF (fun vz4 hvz4 hF => ?_)
    refine kg_call (as := [.ref (1076 + 1), .int x1]) (rest := [.int 16]) hk_181 rfl (Or.inr (Or.inr (Or.inr ⟨Or.inl rfl, _, _, rfl, wc_1076⟩))) rfl rfl rfl (Nat.not_lt.mpr (Nat.le_of_ble_eq_true rfl)) (p_170_ok hvz4) (by decide) rfl ?_
    refine kg_bin (z := (16 + vz4)) hk_181 rfl rfl rfl ?_
    refine kg_istore (L2 := [.ref (1076 + 1), .int x1, .int x2, .int (16 + vz4), u4]) hk_181 rfl (Nat.le_of_ble_eq_true rfl) rfl rfl ?_
    refine kg_push (x := 0) hk_181 rfl (by decide) rfl ?_
    refine kg_istore (L2 := [.ref (1076 + 1), .int x1, .int x2, .int (16 + vz4), .int 0]) hk_181 rfl (Nat.le_of_ble_eq_true rfl) rfl rfl ?_
    exact l_181_21_ok hF rfl _
  · refine kg_icT hk_181 rfl (jc_T1 cz3) ?_
    refine kg_iload hk_181 rfl rfl rfl ?_
    have hF := Option.some.inj hF
    subst hF
    exact kg_iret hk_181 rfl (Or.inl rfl) rfl
def p_181 (h : Hp) (x1 : Int32) : Option (Int32) :=
  (p_179 h x1).bind fun vz1 =>
  q_181_9 h x1 vz1 (if vz1 = 0 then (-1) else (-2) : Int32)
theorem p_181_ok {X : List Int32}  {h : Hp} {x1 : Int32}  {r : Int32} (hF : p_181 h x1 = some r) : k_Ev X 2 181 [.ref (1076 + 1), .int x1] h (.inl (some (.int r)), h) := by
  refine k_of hk_181 ?_
  show k_Go X 2 181 (0, [.ref (1076 + 1), .int x1, (.retAddr 0), (.retAddr 0), (.retAddr 0)], []) h _
  unfold p_181 at hF
  refine kg_aload hk_181 rfl rfl rfl ?_
  refine kg_iload hk_181 rfl rfl rfl ?_
  refine wf_bind hF (fun vz1 hvz1 hF => ?_)
  refine kg_call (as := [.ref (1076 + 1), .int x1]) (rest := []) hk_181 rfl (Or.inr (Or.inr (Or.inr ⟨Or.inl rfl, _, _, rfl, wc_1076⟩))) rfl rfl rfl (Nat.not_lt.mpr (Nat.le_of_ble_eq_true rfl)) (p_179_ok hvz1) (by decide) rfl ?_
  refine kg_istore (L2 := [.ref (1076 + 1), .int x1, .int vz1, (.retAddr 0), (.retAddr 0)]) hk_181 rfl (Nat.le_of_ble_eq_true rfl) rfl rfl ?_
  refine kg_iload hk_181 rfl rfl rfl ?_
  refine kv_mid (p := 9) (L := [.ref (1076 + 1), .int x1, .int vz1, (.retAddr 0), (.retAddr 0)]) (S := [.int (if vz1 = 0 then (-1) else (-2) : Int32)]) ?_ (fun hK => ?_)
  · exact q_181_9_ok hF _ _
  · by_cases cz2 : vz1 = 0
    · have hK := kv_T cz2 hK
      refine kg_ifF hk_181 rfl (jc_F1 cz2) rfl ?_
      refine kg_push (x := (-1)) hk_181 rfl (by decide) rfl ?_
      refine kg_goto hk_181 rfl ?_
      exact hK
    · have hK := kv_F cz2 hK
      refine kg_ifT hk_181 rfl (jc_T1 cz2) ?_
      refine kg_push (x := (-2)) hk_181 rfl (by decide) rfl ?_
      exact hK
-- NotebookWeirModel.giver(II)I
theorem hk_182 : jP[182]? = some (jc_182, 5, [], []) := by rfl
def q_182_20 (h : Hp) (x2 : Int32) (s0 : Int32) (s1 : Int32) : Option (Int32) :=
  (p_180 h s1 s0).bind fun vz4 =>
  if vz4 = (-1) then
    ((p_181 h x2).bind fun vz6 =>
    some vz6)
  else
    (some vz4)
theorem q_182_20_ok {X : List Int32}   {h : Hp} {s0 : Int32} {s1 : Int32} {x2 : Int32}  {r : Int32} (hF : q_182_20 h x2 s0 s1 = some r)  : ∀ (u1 : Value) (u3 : Value) (u4 : Value), k_Go X 3 182 (20, [.ref (1076 + 1), u1, .int x2, u3, u4], [.int s0, .int s1, .ref (1076 + 1)]) h (.inl (some (.int r)), h) := by
  intro u1 u3 u4
  unfold q_182_20 at hF
  refine wf_bind hF (fun vz4 hvz4 hF => ?_)
  refine kg_call (as := [.ref (1076 + 1), .int s1, .int s0]) (rest := []) hk_182 rfl (Or.inr (Or.inr (Or.inr ⟨Or.inl rfl, _, _, rfl, wc_1076⟩))) rfl rfl rfl (Nat.not_lt.mpr (Nat.le_of_ble_eq_true rfl)) (p_180_ok hvz4) (by decide) rfl ?_
  refine kg_istore (L2 := [.ref (1076 + 1), u1, .int x2, u3, .int vz4]) hk_182 rfl (Nat.le_of_ble_eq_true rfl) rfl rfl ?_
  refine kg_iload hk_182 rfl rfl rfl ?_
  refine kg_push (x := (-1)) hk_182 rfl (by decide) rfl ?_
  refine wf_if hF (fun cz5 hF => ?_) (fun cz5 hF => ?_)
  · refine kg_icF hk_182 rfl (jc_F1 cz5) rfl ?_
    refine kg_aload hk_182 rfl rfl rfl ?_
    refine kg_iload hk_182 rfl rfl rfl ?_
    refine wf_bind hF (fun vz6 hvz6 hF => ?_)
    refine kg_call (as := [.ref (1076 + 1), .int x2]) (rest := []) hk_182 rfl (Or.inr (Or.inr (Or.inr ⟨Or.inl rfl, _, _, rfl, wc_1076⟩))) rfl rfl rfl (Nat.not_lt.mpr (Nat.le_of_ble_eq_true rfl)) (p_181_ok hvz6) (by decide) rfl ?_
    refine kg_goto hk_182 rfl ?_
    have hF := Option.some.inj hF
    subst hF
    exact kg_iret hk_182 rfl (Or.inl rfl) rfl
  · refine kg_icT hk_182 rfl (jc_T1 cz5) ?_
    refine kg_iload hk_182 rfl rfl rfl ?_
    have hF := Option.some.inj hF
    subst hF
    exact kg_iret hk_182 rfl (Or.inl rfl) rfl
def q_182_11 (h : Hp) (x1 : Int32) (x2 : Int32) (s0 : Int32) : Option (Int32) :=
  q_182_20 h x2 (if s0 = 0 then (h 1076 2) else x1 : Int32) x2
theorem q_182_11_ok {X : List Int32}   {h : Hp} {s0 : Int32} {x1 : Int32} {x2 : Int32}  {r : Int32} (hF : q_182_11 h x1 x2 s0 = some r)  : ∀ (u3 : Value) (u4 : Value), k_Go X 3 182 (11, [.ref (1076 + 1), .int x1, .int x2, u3, u4], [.int s0]) h (.inl (some (.int r)), h) := by
  intro u3 u4
  unfold q_182_11 at hF
  refine kg_istore (L2 := [.ref (1076 + 1), .int x1, .int x2, .int s0, u4]) hk_182 rfl (Nat.le_of_ble_eq_true rfl) rfl rfl ?_
  refine kg_aload hk_182 rfl rfl rfl ?_
  refine kg_iload hk_182 rfl rfl rfl ?_
  refine kg_iload hk_182 rfl rfl rfl ?_
  refine kv_mid (p := 20) (L := [.ref (1076 + 1), .int x1, .int x2, .int s0, u4]) (S := [.int (if s0 = 0 then (h 1076 2) else x1 : Int32), .int x2, .ref (1076 + 1)]) ?_ (fun hK => ?_)
  · exact q_182_20_ok hF _ _ _
  · by_cases cz3 : s0 = 0
    · have hK := kv_T cz3 hK
      refine kg_ifT hk_182 rfl (jc_T0 cz3) ?_
      refine kg_aload hk_182 rfl rfl rfl ?_
      refine kg_get (v := .int (h 1076 2)) hk_182 rfl wk_1076_2 rfl rfl ?_
      exact hK
    · have hK := kv_F cz3 hK
      refine kg_ifF hk_182 rfl (jc_F0 cz3) rfl ?_
      refine kg_iload hk_182 rfl rfl rfl ?_
      refine kg_goto hk_182 rfl ?_
      exact hK
def p_182 (h : Hp) (x1 : Int32) (x2 : Int32) : Option (Int32) :=
  w_gd (w_ix x1 16) <|
  q_182_11 h x1 x2 (if ((h 1084 x1.toNatClampNeg) &&& (v_162 x2)) = 0 then 0 else 1 : Int32)
theorem p_182_ok {X : List Int32}  {h : Hp} {x1 : Int32} {x2 : Int32}  {r : Int32} (hF : p_182 h x1 x2 = some r) : k_Ev X 3 182 [.ref (1076 + 1), .int x1, .int x2] h (.inl (some (.int r)), h) := by
  refine k_of hk_182 ?_
  show k_Go X 3 182 (0, [.ref (1076 + 1), .int x1, .int x2, (.retAddr 0), (.retAddr 0)], []) h _
  unfold p_182 at hF
  refine kg_aload hk_182 rfl rfl rfl ?_
  refine kg_get (v := .ref (1084 + 1)) hk_182 rfl wk_1076_8 rfl rfl ?_
  refine kg_iload hk_182 rfl rfl rfl ?_
  refine wf_gd hF (fun gz1 hF => ?_)
  refine kg_ald (y := (h 1084 x1.toNatClampNeg)) hk_182 rfl wc_1084 gz1 rfl rfl ?_
  refine kg_iload hk_182 rfl rfl rfl ?_
  refine kg_call (as := [.int x2]) (rest := [.int (h 1084 x1.toNatClampNeg)]) hk_182 rfl (Or.inl rfl) rfl rfl rfl (Nat.not_lt.mpr (Nat.le_of_ble_eq_true rfl)) (v_162_ok) (by decide) rfl ?_
  refine kg_bin (z := ((h 1084 x1.toNatClampNeg) &&& (v_162 x2))) hk_182 rfl rfl rfl ?_
  refine kv_mid (p := 11) (L := [.ref (1076 + 1), .int x1, .int x2, (.retAddr 0), (.retAddr 0)]) (S := [.int (if ((h 1084 x1.toNatClampNeg) &&& (v_162 x2)) = 0 then 0 else 1 : Int32)]) ?_ (fun hK => ?_)
  · exact q_182_11_ok hF _ _
  · by_cases cz2 : ((h 1084 x1.toNatClampNeg) &&& (v_162 x2)) = 0
    · have hK := kv_T cz2 hK
      refine kg_ifT hk_182 rfl (jc_T0 cz2) ?_
      refine kg_push (x := 0) hk_182 rfl (by decide) rfl ?_
      exact hK
    · have hK := kv_F cz2 hK
      refine kg_ifF hk_182 rfl (jc_F0 cz2) rfl ?_
      refine kg_push (x := 1) hk_182 rfl (by decide) rfl ?_
      refine kg_goto hk_182 rfl ?_
      exact hK
-- NotebookWeirModel.needsOf(I)I
theorem hk_183 : jP[183]? = some (jc_183, 6, [], []) := by rfl
def l_183_32 (h : Hp) (x3 : Int32) (x4 : Int32) (x2 : Int32) (x5 : Int32) : Option ((Int32 × Int32) ⊕ Int32) :=
  if x5 < (h 1076 2) then
    (if x4 = (-2) then
      (w_gd (w_ix x5 16) <|
      some (.inl ((x2 ||| (if ((h 1083 x5.toNatClampNeg) &&& (v_162 x3)) = 0 then 0 else (1 <<< (x5 &&& 31)) : Int32)), (x5 + 1))))
    else
      (some (.inr x2)))
  else
    (some (.inr x2))
theorem l_183_32_st {X : List Int32} {o : kO}  {h : Hp} {x1 : Int32} {x2 : Int32} {x3 : Int32} {x4 : Int32} {x5 : Int32}  {r : (Int32 × Int32) ⊕ Int32} (hF : l_183_32 h x3 x4 x2 x5 = some r) (hK : ∀ s' : Int32 × Int32, r = .inl s' → k_Go X 4 183 (32, [.ref (1076 + 1), .int x1, .int (s'.1), .int x3, .int x4, .int (s'.2)], []) h o) (hX0 : ∀ e : Int32, r = .inr e → ∀ (u5 : Value), k_Go X 4 183 (57, [.ref (1076 + 1), .int x1, .int e, .int x3, .int x4, u5], []) h o) : k_Go X 4 183 (32, [.ref (1076 + 1), .int x1, .int x2, .int x3, .int x4, .int x5], []) h o := by
  refine kg_iload hk_183 rfl rfl rfl ?_
  refine kg_aload hk_183 rfl rfl rfl ?_
  refine kg_get (v := .int (h 1076 2)) hk_183 rfl wk_1076_2 rfl rfl ?_
  refine wf_if hF (fun cz6 hF => ?_) (fun cz6 hF => ?_)
  · refine kg_icF hk_183 rfl (jc_F3 cz6) rfl ?_
    refine kg_iload hk_183 rfl rfl rfl ?_
    refine kg_push (x := (-2)) hk_183 rfl (by decide) rfl ?_
    refine wf_if hF (fun cz7 hF => ?_) (fun cz7 hF => ?_)
    · refine kg_icF hk_183 rfl (jc_F1 cz7) rfl ?_
      refine kg_iload hk_183 rfl rfl rfl ?_
      refine kg_aload hk_183 rfl rfl rfl ?_
      refine kg_get (v := .ref (1083 + 1)) hk_183 rfl wk_1076_7 rfl rfl ?_
      refine kg_iload hk_183 rfl rfl rfl ?_
      refine wf_gd hF (fun gz8 hF => ?_)
      refine kg_ald (y := (h 1083 x5.toNatClampNeg)) hk_183 rfl wc_1083 gz8 rfl rfl ?_
      refine kg_iload hk_183 rfl rfl rfl ?_
      refine kg_call (as := [.int x3]) (rest := [.int (h 1083 x5.toNatClampNeg), .int x2]) hk_183 rfl (Or.inl rfl) rfl rfl rfl (Nat.not_lt.mpr (Nat.le_of_ble_eq_true rfl)) (v_162_ok) (by decide) rfl ?_
      refine kg_bin (z := ((h 1083 x5.toNatClampNeg) &&& (v_162 x3))) hk_183 rfl rfl rfl ?_
      refine kv_mid (p := 53) (L := [.ref (1076 + 1), .int x1, .int x2, .int x3, .int x4, .int x5]) (S := [.int (if ((h 1083 x5.toNatClampNeg) &&& (v_162 x3)) = 0 then 0 else (1 <<< (x5 &&& 31)) : Int32), .int x2]) ?_ (fun hK => ?_)
      · refine kg_bin (z := (x2 ||| (if ((h 1083 x5.toNatClampNeg) &&& (v_162 x3)) = 0 then 0 else (1 <<< (x5 &&& 31)) : Int32))) hk_183 rfl rfl rfl ?_
        refine kg_istore (L2 := [.ref (1076 + 1), .int x1, .int (x2 ||| (if ((h 1083 x5.toNatClampNeg) &&& (v_162 x3)) = 0 then 0 else (1 <<< (x5 &&& 31)) : Int32)), .int x3, .int x4, .int x5]) hk_183 rfl (Nat.le_of_ble_eq_true rfl) rfl rfl ?_
        refine kg_iinc (y := (x5 + 1)) (L2 := [.ref (1076 + 1), .int x1, .int (x2 ||| (if ((h 1083 x5.toNatClampNeg) &&& (v_162 x3)) = 0 then 0 else (1 <<< (x5 &&& 31)) : Int32)), .int x3, .int x4, .int (x5 + 1)]) hk_183 rfl rfl rfl rfl rfl ?_
        refine kg_goto hk_183 rfl ?_
        have hF := Option.some.inj hF
        exact hK _ hF.symm
      · by_cases cz9 : ((h 1083 x5.toNatClampNeg) &&& (v_162 x3)) = 0
        · have hK := kv_T cz9 hK
          refine kg_ifT hk_183 rfl (jc_T0 cz9) ?_
          refine kg_push (x := 0) hk_183 rfl (by decide) rfl ?_
          exact hK
        · have hK := kv_F cz9 hK
          refine kg_ifF hk_183 rfl (jc_F0 cz9) rfl ?_
          refine kg_push (x := 1) hk_183 rfl (by decide) rfl ?_
          refine kg_iload hk_183 rfl rfl rfl ?_
          refine kg_bin (z := (1 <<< (x5 &&& 31))) hk_183 rfl rfl rfl ?_
          refine kg_goto hk_183 rfl ?_
          exact hK
    · refine kg_icT hk_183 rfl (jc_T1 cz7) ?_
      have hF := Option.some.inj hF
      exact hX0 _ hF.symm _
  · refine kg_icT hk_183 rfl (jc_T3 cz6) ?_
    have hF := Option.some.inj hF
    exact hX0 _ hF.symm _
theorem l_183_32_ok {X : List Int32} {o : kO}  {h : Hp} {x1 : Int32} {x3 : Int32} {x4 : Int32}  {n : Nat} {s : Int32 × Int32} {e : Int32} (hF : w_lp (fun (s : Int32 × Int32) => l_183_32 h x3 x4 s.1 s.2) n s = some e) (hX0 : ∀ (u5 : Value), k_Go X 4 183 (57, [.ref (1076 + 1), .int x1, .int e, .int x3, .int x4, u5], []) h o) : k_Go X 4 183 (32, [.ref (1076 + 1), .int x1, .int s.1, .int x3, .int x4, .int s.2], []) h o := by
  exact w_lp_ok (P := (fun (s : Int32 × Int32) => k_Go X 4 183 (32, [.ref (1076 + 1), .int x1, .int s.1, .int x3, .int x4, .int s.2], []) h o)) (Q := (fun (e : Int32) => (∀ (u5 : Value), k_Go X 4 183 (57, [.ref (1076 + 1), .int x1, .int e, .int x3, .int x4, u5], []) h o))) (fun s r hF hK hX => l_183_32_st hF hK (fun x hx => (hX _ hx))) n s e hF hX0
def q_183_57 (h : Hp) (x1 : Int32) (x2 : Int32) (x3 : Int32) (x4 : Int32) : Option ((Int32 × Int32) ⊕ Int32) :=
  if x4 = (-2) then
    ((p_170 h x3).bind fun vz12 =>
    if vz12 = (-1) then
      (some (.inl ((x2 ||| 0), (x3 + 1))))
    else
      ((p_170 h x3).bind fun vz14 =>
      some (.inl ((x2 ||| (1 <<< ((16 + vz14) &&& 31))), (x3 + 1)))))
  else
    (some (.inl ((x2 ||| 0), (x3 + 1))))
theorem q_183_57_ok {X : List Int32} {o : kO}  {h : Hp} {x1 : Int32} {x2 : Int32} {x3 : Int32} {x4 : Int32}  {r : (Int32 × Int32) ⊕ Int32} (hF : q_183_57 h x1 x2 x3 x4 = some r) (hK : ∀ s' : Int32 × Int32, r = .inl s' → ∀ (u4 : Value) (u5 : Value), k_Go X 4 183 (4, [.ref (1076 + 1), .int x1, .int (s'.1), .int (s'.2), u4, u5], []) h o) (hX0 : ∀ e : Int32, r = .inr e → ∀ (u0 : Value) (u3 : Value) (u4 : Value) (u5 : Value), k_Go X 4 183 (79, [u0, .int x1, .int e, u3, u4, u5], []) h o) : ∀ (u5 : Value), k_Go X 4 183 (57, [.ref (1076 + 1), .int x1, .int x2, .int x3, .int x4, u5], []) h o := by
  intro u5
  unfold q_183_57 at hF
  refine kg_iload hk_183 rfl rfl rfl ?_
  refine kg_iload hk_183 rfl rfl rfl ?_
  refine kg_push (x := (-2)) hk_183 rfl (by decide) rfl ?_
  refine wf_if hF (fun cz11 hF => ?_) (fun cz11 hF => ?_)
  · refine kg_icF hk_183 rfl (jc_F1 cz11) rfl ?_
    refine kg_aload hk_183 rfl rfl rfl ?_
    refine kg_iload hk_183 rfl rfl rfl ?_
    refine wf_bind hF (fun vz12 hvz12 hF => ?_)
    refine kg_call (as := [.ref (1076 + 1), .int x3]) (rest := [.int x2]) hk_183 rfl (Or.inr (Or.inr (Or.inr ⟨Or.inl rfl, _, _, rfl, wc_1076⟩))) rfl rfl rfl (Nat.not_lt.mpr (Nat.le_of_ble_eq_true rfl)) (p_170_ok hvz12) (by decide) rfl ?_
    refine kg_push (x := (-1)) hk_183 rfl (by decide) rfl ?_
    refine wf_if hF (fun cz13 hF => ?_) (fun cz13 hF => ?_)
    · refine kg_icT hk_183 rfl (jc_T0 cz13) ?_
      refine kg_push (x := 0) hk_183 rfl (by decide) rfl ?_
      refine kg_bin (z := (x2 ||| 0)) hk_183 rfl rfl rfl ?_
      refine kg_istore (L2 := [.ref (1076 + 1), .int x1, .int (x2 ||| 0), .int x3, .int x4, u5]) hk_183 rfl (Nat.le_of_ble_eq_true rfl) rfl rfl ?_
      refine kg_iinc (y := (x3 + 1)) (L2 := [.ref (1076 + 1), .int x1, .int (x2 ||| 0), .int (x3 + 1), .int x4, u5]) hk_183 rfl rfl rfl rfl rfl ?_
      refine kg_goto hk_183 rfl ?_
      have hF := Option.some.inj hF
      exact hK _ hF.symm _ _
    · refine kg_icF hk_183 rfl (jc_F0 cz13) rfl ?_
      refine kg_push (x := 1) hk_183 rfl (by decide) rfl ?_
      refine kg_push (x := 16) hk_183 rfl (by decide) rfl ?_
      refine kg_aload hk_183 rfl rfl rfl ?_
      refine kg_iload hk_183 rfl rfl rfl ?_
      refine wf_bind hF (fun vz14 hvz14 hF => ?_)
      refine kg_call (as := [.ref (1076 + 1), .int x3]) (rest := [.int 16, .int 1, .int x2]) hk_183 rfl (Or.inr (Or.inr (Or.inr ⟨Or.inl rfl, _, _, rfl, wc_1076⟩))) rfl rfl rfl (Nat.not_lt.mpr (Nat.le_of_ble_eq_true rfl)) (p_170_ok hvz14) (by decide) rfl ?_
      refine kg_bin (z := (16 + vz14)) hk_183 rfl rfl rfl ?_
      refine kg_bin (z := (1 <<< ((16 + vz14) &&& 31))) hk_183 rfl rfl rfl ?_
      refine kg_goto hk_183 rfl ?_
      refine kg_bin (z := (x2 ||| (1 <<< ((16 + vz14) &&& 31)))) hk_183 rfl rfl rfl ?_
      refine kg_istore (L2 := [.ref (1076 + 1), .int x1, .int (x2 ||| (1 <<< ((16 + vz14) &&& 31))), .int x3, .int x4, u5]) hk_183 rfl (Nat.le_of_ble_eq_true rfl) rfl rfl ?_
      refine kg_iinc (y := (x3 + 1)) (L2 := [.ref (1076 + 1), .int x1, .int (x2 ||| (1 <<< ((16 + vz14) &&& 31))), .int (x3 + 1), .int x4, u5]) hk_183 rfl rfl rfl rfl rfl ?_
      refine kg_goto hk_183 rfl ?_
      have hF := Option.some.inj hF
      exact hK _ hF.symm _ _
  · refine kg_icT hk_183 rfl (jc_T1 cz11) ?_
    refine kg_push (x := 0) hk_183 rfl (by decide) rfl ?_
    refine kg_bin (z := (x2 ||| 0)) hk_183 rfl rfl rfl ?_
    refine kg_istore (L2 := [.ref (1076 + 1), .int x1, .int (x2 ||| 0), .int x3, .int x4, u5]) hk_183 rfl (Nat.le_of_ble_eq_true rfl) rfl rfl ?_
    refine kg_iinc (y := (x3 + 1)) (L2 := [.ref (1076 + 1), .int x1, .int (x2 ||| 0), .int (x3 + 1), .int x4, u5]) hk_183 rfl rfl rfl rfl rfl ?_
    refine kg_goto hk_183 rfl ?_
    have hF := Option.some.inj hF
    exact hK _ hF.symm _ _
def q_183_28 (h : Hp) (x1 : Int32) (x3 : Int32) (x4 : Int32) (s0 : Int32) (s1 : Int32) : Option ((Int32 × Int32) ⊕ Int32) :=
  (w_lp (fun (s : Int32 × Int32) => l_183_32 h x3 x4 s.1 s.2) w_N ((s1 ||| s0), 0)).bind fun ez10 =>
  q_183_57 h x1 ez10 x3 x4
theorem q_183_28_ok {X : List Int32} {o : kO}  {h : Hp} {s0 : Int32} {s1 : Int32} {x1 : Int32} {x3 : Int32} {x4 : Int32}  {r : (Int32 × Int32) ⊕ Int32} (hF : q_183_28 h x1 x3 x4 s0 s1 = some r) (hK : ∀ s' : Int32 × Int32, r = .inl s' → ∀ (u4 : Value) (u5 : Value), k_Go X 4 183 (4, [.ref (1076 + 1), .int x1, .int (s'.1), .int (s'.2), u4, u5], []) h o) (hX0 : ∀ e : Int32, r = .inr e → ∀ (u0 : Value) (u3 : Value) (u4 : Value) (u5 : Value), k_Go X 4 183 (79, [u0, .int x1, .int e, u3, u4, u5], []) h o) : ∀ (u2 : Value) (u5 : Value), k_Go X 4 183 (28, [.ref (1076 + 1), .int x1, u2, .int x3, .int x4, u5], [.int s0, .int s1]) h o := by
  intro u2 u5
  unfold q_183_28 at hF
  refine kg_bin (z := (s1 ||| s0)) hk_183 rfl rfl rfl ?_
  refine kg_istore (L2 := [.ref (1076 + 1), .int x1, .int (s1 ||| s0), .int x3, .int x4, u5]) hk_183 rfl (Nat.le_of_ble_eq_true rfl) rfl rfl ?_
  refine kg_push (x := 0) hk_183 rfl (by decide) rfl ?_
  refine kg_istore (L2 := [.ref (1076 + 1), .int x1, .int (s1 ||| s0), .int x3, .int x4, .int 0]) hk_183 rfl (Nat.le_of_ble_eq_true rfl) rfl rfl ?_
  refine wf_bind hF (fun ez10 hez10 hF => ?_)
  refine l_183_32_ok hez10 ?_
  intro u5
  exact q_183_57_ok hF hK hX0 _
def l_183_4 (h : Hp) (x1 : Int32) (x2 : Int32) (x3 : Int32) : Option ((Int32 × Int32) ⊕ Int32) :=
  if x3 ≤ 122 then
    (w_gd (w_ix x1 16) <|
    if ((h 1085 x1.toNatClampNeg) &&& (v_162 x3)) = 0 then
      (some (.inl (x2, (x3 + 1))))
    else
      ((p_182 h x1 x3).bind fun vz4 =>
      q_183_28 h x1 x3 vz4 (if vz4 < 0 then 0 else (1 <<< (vz4 &&& 31)) : Int32) x2))
  else
    (some (.inr x2))
theorem l_183_4_st {X : List Int32} {o : kO}  {h : Hp} {x1 : Int32} {x2 : Int32} {x3 : Int32}  {r : (Int32 × Int32) ⊕ Int32} (hF : l_183_4 h x1 x2 x3 = some r) (hK : ∀ s' : Int32 × Int32, r = .inl s' → ∀ (u4 : Value) (u5 : Value), k_Go X 4 183 (4, [.ref (1076 + 1), .int x1, .int (s'.1), .int (s'.2), u4, u5], []) h o) (hX0 : ∀ e : Int32, r = .inr e → ∀ (u0 : Value) (u3 : Value) (u4 : Value) (u5 : Value), k_Go X 4 183 (79, [u0, .int x1, .int e, u3, u4, u5], []) h o) : ∀ (u4 : Value) (u5 : Value), k_Go X 4 183 (4, [.ref (1076 + 1), .int x1, .int x2, .int x3, u4, u5], []) h o := by
  intro u4 u5
  refine kg_iload hk_183 rfl rfl rfl ?_
  refine kg_push (x := 122) hk_183 rfl (by decide) rfl ?_
  refine wf_if hF (fun cz1 hF => ?_) (fun cz1 hF => ?_)
  · refine kg_icF hk_183 rfl (jc_F4 cz1) rfl ?_
    refine kg_aload hk_183 rfl rfl rfl ?_
    refine kg_get (v := .ref (1085 + 1)) hk_183 rfl wk_1076_9 rfl rfl ?_
    refine kg_iload hk_183 rfl rfl rfl ?_
    refine wf_gd hF (fun gz2 hF => ?_)
    refine kg_ald (y := (h 1085 x1.toNatClampNeg)) hk_183 rfl wc_1085 gz2 rfl rfl ?_
    refine kg_iload hk_183 rfl rfl rfl ?_
    refine kg_call (as := [.int x3]) (rest := [.int (h 1085 x1.toNatClampNeg)]) hk_183 rfl (Or.inl rfl) rfl rfl rfl (Nat.not_lt.mpr (Nat.le_of_ble_eq_true rfl)) (v_162_ok) (by decide) rfl ?_
    refine kg_bin (z := ((h 1085 x1.toNatClampNeg) &&& (v_162 x3))) hk_183 rfl rfl rfl ?_
    refine wf_if hF (fun cz3 hF => ?_) (fun cz3 hF => ?_)
    · refine kg_ifT hk_183 rfl (jc_T0 cz3) ?_
      refine kg_iinc (y := (x3 + 1)) (L2 := [.ref (1076 + 1), .int x1, .int x2, .int (x3 + 1), u4, u5]) hk_183 rfl rfl rfl rfl rfl ?_
      refine kg_goto hk_183 rfl ?_
      have hF := Option.some.inj hF
      exact hK _ hF.symm _ _
    · refine kg_ifF hk_183 rfl (jc_F0 cz3) rfl ?_
      refine kg_aload hk_183 rfl rfl rfl ?_
      refine kg_iload hk_183 rfl rfl rfl ?_
      refine kg_iload hk_183 rfl rfl rfl ?_
      refine wf_bind hF (fun vz4 hvz4 hF => ?_)
      refine kg_call (as := [.ref (1076 + 1), .int x1, .int x3]) (rest := []) hk_183 rfl (Or.inr (Or.inr (Or.inr ⟨Or.inl rfl, _, _, rfl, wc_1076⟩))) rfl rfl rfl (Nat.not_lt.mpr (Nat.le_of_ble_eq_true rfl)) (p_182_ok hvz4) (by decide) rfl ?_
      refine kg_istore (L2 := [.ref (1076 + 1), .int x1, .int x2, .int x3, .int vz4, u5]) hk_183 rfl (Nat.le_of_ble_eq_true rfl) rfl rfl ?_
      refine kg_iload hk_183 rfl rfl rfl ?_
      refine kg_iload hk_183 rfl rfl rfl ?_
      refine kv_mid (p := 28) (L := [.ref (1076 + 1), .int x1, .int x2, .int x3, .int vz4, u5]) (S := [.int (if vz4 < 0 then 0 else (1 <<< (vz4 &&& 31)) : Int32), .int x2]) ?_ (fun hK => ?_)
      · exact q_183_28_ok hF hK hX0 _ _
      · by_cases cz5 : vz4 < 0
        · have hK := kv_T cz5 hK
          refine kg_ifT hk_183 rfl (jc_T2 cz5) ?_
          refine kg_push (x := 0) hk_183 rfl (by decide) rfl ?_
          exact hK
        · have hK := kv_F cz5 hK
          refine kg_ifF hk_183 rfl (jc_F2 cz5) rfl ?_
          refine kg_push (x := 1) hk_183 rfl (by decide) rfl ?_
          refine kg_iload hk_183 rfl rfl rfl ?_
          refine kg_bin (z := (1 <<< (vz4 &&& 31))) hk_183 rfl rfl rfl ?_
          refine kg_goto hk_183 rfl ?_
          exact hK
  · refine kg_icT hk_183 rfl (jc_T4 cz1) ?_
    have hF := Option.some.inj hF
    exact hX0 _ hF.symm _ _ _ _
theorem l_183_4_ok {X : List Int32} {o : kO}  {h : Hp} {x1 : Int32}  {n : Nat} {s : Int32 × Int32} {e : Int32} (hF : w_lp (fun (s : Int32 × Int32) => l_183_4 h x1 s.1 s.2) n s = some e) (hX0 : ∀ (u0 : Value) (u3 : Value) (u4 : Value) (u5 : Value), k_Go X 4 183 (79, [u0, .int x1, .int e, u3, u4, u5], []) h o) : ∀ (u4 : Value) (u5 : Value), k_Go X 4 183 (4, [.ref (1076 + 1), .int x1, .int s.1, .int s.2, u4, u5], []) h o := by
  exact w_lp_ok (P := (fun (s : Int32 × Int32) => ∀ (u4 : Value) (u5 : Value), k_Go X 4 183 (4, [.ref (1076 + 1), .int x1, .int s.1, .int s.2, u4, u5], []) h o)) (Q := (fun (e : Int32) => (∀ (u0 : Value) (u3 : Value) (u4 : Value) (u5 : Value), k_Go X 4 183 (79, [u0, .int x1, .int e, u3, u4, u5], []) h o))) (fun s r hF hK hX => l_183_4_st hF hK (fun x hx => (hX _ hx))) n s e hF hX0
def p_183 (h : Hp) (x1 : Int32) : Option (Int32) :=
  (w_lp (fun (s : Int32 × Int32) => l_183_4 h x1 s.1 s.2) w_N (0, 97)).bind fun ez15 =>
  some (ez15 &&& ((1 <<< (x1 &&& 31)) ^^^ (-1)))
theorem p_183_ok {X : List Int32}  {h : Hp} {x1 : Int32}  {r : Int32} (hF : p_183 h x1 = some r) : k_Ev X 4 183 [.ref (1076 + 1), .int x1] h (.inl (some (.int r)), h) := by
  refine k_of hk_183 ?_
  show k_Go X 4 183 (0, [.ref (1076 + 1), .int x1, (.retAddr 0), (.retAddr 0), (.retAddr 0), (.retAddr 0)], []) h _
  unfold p_183 at hF
  refine kg_push (x := 0) hk_183 rfl (by decide) rfl ?_
  refine kg_istore (L2 := [.ref (1076 + 1), .int x1, .int 0, (.retAddr 0), (.retAddr 0), (.retAddr 0)]) hk_183 rfl (Nat.le_of_ble_eq_true rfl) rfl rfl ?_
  refine kg_push (x := 97) hk_183 rfl (by decide) rfl ?_
  refine kg_istore (L2 := [.ref (1076 + 1), .int x1, .int 0, .int 97, (.retAddr 0), (.retAddr 0)]) hk_183 rfl (Nat.le_of_ble_eq_true rfl) rfl rfl ?_
  refine wf_bind hF (fun ez15 hez15 hF => ?_)
  refine l_183_4_ok hez15 ?_ _ _
  intro u0 u3 u4 u5
  refine kg_iload hk_183 rfl rfl rfl ?_
  refine kg_push (x := 1) hk_183 rfl (by decide) rfl ?_
  refine kg_iload hk_183 rfl rfl rfl ?_
  refine kg_bin (z := (1 <<< (x1 &&& 31))) hk_183 rfl rfl rfl ?_
  refine kg_push (x := (-1)) hk_183 rfl (by decide) rfl ?_
  refine kg_bin (z := ((1 <<< (x1 &&& 31)) ^^^ (-1))) hk_183 rfl rfl rfl ?_
  refine kg_bin (z := (ez15 &&& ((1 <<< (x1 &&& 31)) ^^^ (-1)))) hk_183 rfl rfl rfl ?_
  have hF := Option.some.inj hF
  subst hF
  exact kg_iret hk_183 rfl (Or.inl rfl) rfl
-- NotebookWeirModel.looksAtNeeds()V
theorem hk_185 : jP[185]? = some (jc_185, 3, [], []) := by rfl
def l_185_2 (x1 : Int32) (h : Hp) : Option ((Int32 × Hp) ⊕ Hp) :=
  if x1 < (h 1076 2) then
    ((p_183 h x1).bind fun vz2 =>
    w_gd (w_ix x1 16) <|
    w_let (w_up h 1120 x1.toNatClampNeg vz2) fun hz4 =>
    w_gd (w_ix x1 16) <|
    w_gd (w_ix x1 16) <|
    w_let (w_up hz4 1121 x1.toNatClampNeg ((hz4 1120 x1.toNatClampNeg) &&& 65535)) fun hz7 =>
    some (.inl ((x1 + 1), hz7)))
  else
    (some (.inr h))
theorem l_185_2_st {X : List Int32} {o : kO}  {h : Hp} {x1 : Int32}  {r : (Int32 × Hp) ⊕ Hp} (hF : l_185_2 x1 h = some r) (hK : ∀ s' : Int32 × Hp, r = .inl s' → ∀ (u2 : Value), k_Go X 5 185 (2, [.ref (1076 + 1), .int (s'.1), u2], []) s'.2 o) (hX0 : ∀ e : Hp, r = .inr e → ∀ (u1 : Value) (u2 : Value), k_Go X 5 185 (25, [.ref (1076 + 1), u1, u2], []) e o) : ∀ (u2 : Value), k_Go X 5 185 (2, [.ref (1076 + 1), .int x1, u2], []) h o := by
  intro u2
  refine kg_iload hk_185 rfl rfl rfl ?_
  refine kg_aload hk_185 rfl rfl rfl ?_
  refine kg_get (v := .int (h 1076 2)) hk_185 rfl wk_1076_2 rfl rfl ?_
  refine wf_if hF (fun cz1 hF => ?_) (fun cz1 hF => ?_)
  · refine kg_icF hk_185 rfl (jc_F3 cz1) rfl ?_
    refine kg_aload hk_185 rfl rfl rfl ?_
    refine kg_get (v := .ref (1120 + 1)) hk_185 rfl wk_1076_57 rfl rfl ?_
    refine kg_iload hk_185 rfl rfl rfl ?_
    refine kg_aload hk_185 rfl rfl rfl ?_
    refine kg_iload hk_185 rfl rfl rfl ?_
    refine wf_bind hF (fun vz2 hvz2 hF => ?_)
    refine kg_call (as := [.ref (1076 + 1), .int x1]) (rest := [.int x1, .ref (1120 + 1)]) hk_185 rfl (Or.inr (Or.inr (Or.inr ⟨Or.inl rfl, _, _, rfl, wc_1076⟩))) rfl rfl rfl (Nat.not_lt.mpr (Nat.le_of_ble_eq_true rfl)) (p_183_ok hvz2) (by decide) rfl ?_
    refine wf_gd hF (fun gz3 hF => ?_)
    refine wf_let hF (fun hz4 hhz4 hF => ?_)
    refine kg_ast hk_185 rfl wc_1120 gz3 hhz4 rfl ?_
    refine kg_aload hk_185 rfl rfl rfl ?_
    refine kg_get (v := .ref (1121 + 1)) hk_185 rfl wk_1076_58 rfl rfl ?_
    refine kg_iload hk_185 rfl rfl rfl ?_
    refine kg_aload hk_185 rfl rfl rfl ?_
    refine kg_get (v := .ref (1120 + 1)) hk_185 rfl wk_1076_57 rfl rfl ?_
    refine kg_iload hk_185 rfl rfl rfl ?_
    refine wf_gd hF (fun gz5 hF => ?_)
    refine kg_ald (y := (hz4 1120 x1.toNatClampNeg)) hk_185 rfl wc_1120 gz5 rfl rfl ?_
    refine kg_push (x := 65535) hk_185 rfl (by decide) rfl ?_
    refine kg_bin (z := ((hz4 1120 x1.toNatClampNeg) &&& 65535)) hk_185 rfl rfl rfl ?_
    refine wf_gd hF (fun gz6 hF => ?_)
    refine wf_let hF (fun hz7 hhz7 hF => ?_)
    refine kg_ast hk_185 rfl wc_1121 gz6 hhz7 rfl ?_
    refine kg_iinc (y := (x1 + 1)) (L2 := [.ref (1076 + 1), .int (x1 + 1), u2]) hk_185 rfl rfl rfl rfl rfl ?_
    refine kg_goto hk_185 rfl ?_
    have hF := Option.some.inj hF
    exact hK _ hF.symm _
  · refine kg_icT hk_185 rfl (jc_T3 cz1) ?_
    have hF := Option.some.inj hF
    exact hX0 _ hF.symm _ _
theorem l_185_2_ok {X : List Int32} {o : kO}    {n : Nat} {s : Int32 × Hp} {e : Hp} (hF : w_lp (fun (s : Int32 × Hp) => l_185_2 s.1 s.2) n s = some e) (hX0 : ∀ (u1 : Value) (u2 : Value), k_Go X 5 185 (25, [.ref (1076 + 1), u1, u2], []) e o) : ∀ (u2 : Value), k_Go X 5 185 (2, [.ref (1076 + 1), .int s.1, u2], []) s.2 o := by
  exact w_lp_ok (P := (fun (s : Int32 × Hp) => ∀ (u2 : Value), k_Go X 5 185 (2, [.ref (1076 + 1), .int s.1, u2], []) s.2 o)) (Q := (fun (e : Hp) => (∀ (u1 : Value) (u2 : Value), k_Go X 5 185 (25, [.ref (1076 + 1), u1, u2], []) e o))) (fun s r hF hK hX => l_185_2_st hF hK (fun x hx => (hX _ hx))) n s e hF hX0
def l_185_33 (x1 : Int32) (x2 : Int32) (h : Hp) : Option ((Int32 × Hp) ⊕ Hp) :=
  if x2 < (h 1076 2) then
    (w_gd (w_ix x2 16) <|
    w_gd (w_ix x2 16) <|
    w_gd ((if (((h 1121 x2.toNatClampNeg) >>> (x1 &&& 31)) &&& 1) = 1 then w_ix x1 16 else true)) <|
    w_gd (w_ix x2 16) <|
    w_let (w_up h 1121 x2.toNatClampNeg ((h 1121 x2.toNatClampNeg) ||| (if (((h 1121 x2.toNatClampNeg) >>> (x1 &&& 31)) &&& 1) = 1 then (h 1121 x1.toNatClampNeg) else 0 : Int32))) fun hz17 =>
    some (.inl ((x2 + 1), hz17)))
  else
    (some (.inr h))
theorem l_185_33_st {X : List Int32} {o : kO}  {h : Hp} {x1 : Int32} {x2 : Int32}  {r : (Int32 × Hp) ⊕ Hp} (hF : l_185_33 x1 x2 h = some r) (hK : ∀ s' : Int32 × Hp, r = .inl s' → k_Go X 5 185 (33, [.ref (1076 + 1), .int x1, .int (s'.1)], []) s'.2 o) (hX0 : ∀ e : Hp, r = .inr e → ∀ (u2 : Value), k_Go X 5 185 (62, [.ref (1076 + 1), .int x1, u2], []) e o) : k_Go X 5 185 (33, [.ref (1076 + 1), .int x1, .int x2], []) h o := by
  refine kg_iload hk_185 rfl rfl rfl ?_
  refine kg_aload hk_185 rfl rfl rfl ?_
  refine kg_get (v := .int (h 1076 2)) hk_185 rfl wk_1076_2 rfl rfl ?_
  refine wf_if hF (fun cz10 hF => ?_) (fun cz10 hF => ?_)
  · refine kg_icF hk_185 rfl (jc_F3 cz10) rfl ?_
    refine kg_aload hk_185 rfl rfl rfl ?_
    refine kg_get (v := .ref (1121 + 1)) hk_185 rfl wk_1076_58 rfl rfl ?_
    refine kg_iload hk_185 rfl rfl rfl ?_
    refine kg_dup2 hk_185 rfl ⟨rfl, rfl⟩ rfl ?_
    refine wf_gd hF (fun gz11 hF => ?_)
    refine kg_ald (y := (h 1121 x2.toNatClampNeg)) hk_185 rfl wc_1121 gz11 rfl rfl ?_
    refine kg_aload hk_185 rfl rfl rfl ?_
    refine kg_get (v := .ref (1121 + 1)) hk_185 rfl wk_1076_58 rfl rfl ?_
    refine kg_iload hk_185 rfl rfl rfl ?_
    refine wf_gd hF (fun gz12 hF => ?_)
    refine kg_ald (y := (h 1121 x2.toNatClampNeg)) hk_185 rfl wc_1121 gz12 rfl rfl ?_
    refine kg_iload hk_185 rfl rfl rfl ?_
    refine kg_bin (z := ((h 1121 x2.toNatClampNeg) >>> (x1 &&& 31))) hk_185 rfl rfl rfl ?_
    refine kg_push (x := 1) hk_185 rfl (by decide) rfl ?_
    refine kg_bin (z := (((h 1121 x2.toNatClampNeg) >>> (x1 &&& 31)) &&& 1)) hk_185 rfl rfl rfl ?_
    refine kg_push (x := 1) hk_185 rfl (by decide) rfl ?_
    refine wf_gd hF (fun gz15 hF => ?_)
    refine kv_mid (p := 58) (L := [.ref (1076 + 1), .int x1, .int x2]) (S := [.int (if (((h 1121 x2.toNatClampNeg) >>> (x1 &&& 31)) &&& 1) = 1 then (h 1121 x1.toNatClampNeg) else 0 : Int32), .int (h 1121 x2.toNatClampNeg), .int x2, .ref (1121 + 1)]) ?_ (fun hK => ?_)
    · refine kg_bin (z := ((h 1121 x2.toNatClampNeg) ||| (if (((h 1121 x2.toNatClampNeg) >>> (x1 &&& 31)) &&& 1) = 1 then (h 1121 x1.toNatClampNeg) else 0 : Int32))) hk_185 rfl rfl rfl ?_
      refine wf_gd hF (fun gz16 hF => ?_)
      refine wf_let hF (fun hz17 hhz17 hF => ?_)
      refine kg_ast hk_185 rfl wc_1121 gz16 hhz17 rfl ?_
      refine kg_iinc (y := (x2 + 1)) (L2 := [.ref (1076 + 1), .int x1, .int (x2 + 1)]) hk_185 rfl rfl rfl rfl rfl ?_
      refine kg_goto hk_185 rfl ?_
      have hF := Option.some.inj hF
      exact hK _ hF.symm
    · have hg := gz15
      by_cases cz13 : (((h 1121 x2.toNatClampNeg) >>> (x1 &&& 31)) &&& 1) = 1
      · have hg := wv_T cz13 hg
        have hK := kv_T cz13 hK
        have gz14 := hg
        refine kg_icF hk_185 rfl (jc_F1 cz13) rfl ?_
        refine kg_aload hk_185 rfl rfl rfl ?_
        refine kg_get (v := .ref (1121 + 1)) hk_185 rfl wk_1076_58 rfl rfl ?_
        refine kg_iload hk_185 rfl rfl rfl ?_
        refine kg_ald (y := (h 1121 x1.toNatClampNeg)) hk_185 rfl wc_1121 gz14 rfl rfl ?_
        refine kg_goto hk_185 rfl ?_
        exact hK
      · have hK := kv_F cz13 hK
        refine kg_icT hk_185 rfl (jc_T1 cz13) ?_
        refine kg_push (x := 0) hk_185 rfl (by decide) rfl ?_
        exact hK
  · refine kg_icT hk_185 rfl (jc_T3 cz10) ?_
    have hF := Option.some.inj hF
    exact hX0 _ hF.symm _
theorem l_185_33_ok {X : List Int32} {o : kO}  {x1 : Int32}  {n : Nat} {s : Int32 × Hp} {e : Hp} (hF : w_lp (fun (s : Int32 × Hp) => l_185_33 x1 s.1 s.2) n s = some e) (hX0 : ∀ (u2 : Value), k_Go X 5 185 (62, [.ref (1076 + 1), .int x1, u2], []) e o) : k_Go X 5 185 (33, [.ref (1076 + 1), .int x1, .int s.1], []) s.2 o := by
  exact w_lp_ok (P := (fun (s : Int32 × Hp) => k_Go X 5 185 (33, [.ref (1076 + 1), .int x1, .int s.1], []) s.2 o)) (Q := (fun (e : Hp) => (∀ (u2 : Value), k_Go X 5 185 (62, [.ref (1076 + 1), .int x1, u2], []) e o))) (fun s r hF hK hX => l_185_33_st hF hK (fun x hx => (hX _ hx))) n s e hF hX0
def l_185_27 (x1 : Int32) (h : Hp) : Option ((Int32 × Hp) ⊕ Hp) :=
  if x1 < (h 1076 2) then
    ((w_lp (fun (s : Int32 × Hp) => l_185_33 x1 s.1 s.2) w_N (0, h)).bind fun ez18 =>
    some (.inl ((x1 + 1), ez18)))
  else
    (some (.inr h))
theorem l_185_27_st {X : List Int32} {o : kO}  {h : Hp} {x1 : Int32}  {r : (Int32 × Hp) ⊕ Hp} (hF : l_185_27 x1 h = some r) (hK : ∀ s' : Int32 × Hp, r = .inl s' → ∀ (u2 : Value), k_Go X 5 185 (27, [.ref (1076 + 1), .int (s'.1), u2], []) s'.2 o) (hX0 : ∀ e : Hp, r = .inr e → (.inl none, e) = o) : ∀ (u2 : Value), k_Go X 5 185 (27, [.ref (1076 + 1), .int x1, u2], []) h o := by
  intro u2
  refine kg_iload hk_185 rfl rfl rfl ?_
  refine kg_aload hk_185 rfl rfl rfl ?_
  refine kg_get (v := .int (h 1076 2)) hk_185 rfl wk_1076_2 rfl rfl ?_
  refine wf_if hF (fun cz9 hF => ?_) (fun cz9 hF => ?_)
  · refine kg_icF hk_185 rfl (jc_F3 cz9) rfl ?_
    refine kg_push (x := 0) hk_185 rfl (by decide) rfl ?_
    refine kg_istore (L2 := [.ref (1076 + 1), .int x1, .int 0]) hk_185 rfl (Nat.le_of_ble_eq_true rfl) rfl rfl ?_
    refine wf_bind hF (fun ez18 hez18 hF => ?_)
    refine l_185_33_ok hez18 ?_
    intro u2
    refine kg_iinc (y := (x1 + 1)) (L2 := [.ref (1076 + 1), .int (x1 + 1), u2]) hk_185 rfl rfl rfl rfl rfl ?_
    refine kg_goto hk_185 rfl ?_
    have hF := Option.some.inj hF
    exact hK _ hF.symm _
  · refine kg_icT hk_185 rfl (jc_T3 cz9) ?_
    have hF := Option.some.inj hF
    exact kg_ret hk_185 rfl (hX0 _ hF.symm)
theorem l_185_27_ok {X : List Int32} {o : kO}    {n : Nat} {s : Int32 × Hp} {e : Hp} (hF : w_lp (fun (s : Int32 × Hp) => l_185_27 s.1 s.2) n s = some e) (hX0 : (.inl none, e) = o) : ∀ (u2 : Value), k_Go X 5 185 (27, [.ref (1076 + 1), .int s.1, u2], []) s.2 o := by
  exact w_lp_ok (P := (fun (s : Int32 × Hp) => ∀ (u2 : Value), k_Go X 5 185 (27, [.ref (1076 + 1), .int s.1, u2], []) s.2 o)) (Q := (fun (e : Hp) => ((.inl none, e) = o))) (fun s r hF hK hX => l_185_27_st hF hK (fun x hx => (hX _ hx))) n s e hF hX0
def p_185 (h : Hp) : Option (Hp) :=
  (w_lp (fun (s : Int32 × Hp) => l_185_2 s.1 s.2) w_N (0, h)).bind fun ez8 =>
  w_lp (fun (s : Int32 × Hp) => l_185_27 s.1 s.2) w_N (0, ez8)
theorem p_185_ok {X : List Int32}  {h : Hp}   {r : Hp} (hF : p_185 h = some r) : k_Ev X 5 185 [.ref (1076 + 1)] h (.inl none, r) := by
  refine k_of hk_185 ?_
  show k_Go X 5 185 (0, [.ref (1076 + 1), (.retAddr 0), (.retAddr 0)], []) h _
  unfold p_185 at hF
  refine kg_push (x := 0) hk_185 rfl (by decide) rfl ?_
  refine kg_istore (L2 := [.ref (1076 + 1), .int 0, (.retAddr 0)]) hk_185 rfl (Nat.le_of_ble_eq_true rfl) rfl rfl ?_
  refine wf_bind hF (fun ez8 hez8 hF => ?_)
  refine l_185_2_ok hez8 ?_ _
  intro u1 u2
  refine kg_push (x := 0) hk_185 rfl (by decide) rfl ?_
  refine kg_istore (L2 := [.ref (1076 + 1), .int 0, u2]) hk_185 rfl (Nat.le_of_ble_eq_true rfl) rfl rfl ?_
  exact l_185_27_ok hF rfl _
-- NotebookWeirModel.ringOf(I)I
theorem hk_186 : jP[186]? = some (jc_186, 4, [], []) := by rfl
def l_186_4 (h : Hp) (x1 : Int32) (x2 : Int32) (x3 : Int32) : Option ((Int32 × Int32) ⊕ Int32) :=
  if x3 < (h 1076 2) then
    (w_gd (w_ix x1 16) <|
    w_gd ((if (((h 1121 x1.toNatClampNeg) >>> (x3 &&& 31)) &&& 1) = 1 then w_ix x3 16 else true)) <|
    some (.inl ((x2 ||| (if (((h 1121 x1.toNatClampNeg) >>> (x3 &&& 31)) &&& 1) = 1 then (if (((h 1121 x3.toNatClampNeg) >>> (x1 &&& 31)) &&& 1) = 1 then (1 <<< (x3 &&& 31)) else 0 : Int32) else 0 : Int32)), (x3 + 1))))
  else
    (some (.inr x2))
theorem l_186_4_st {X : List Int32} {o : kO}  {h : Hp} {x1 : Int32} {x2 : Int32} {x3 : Int32}  {r : (Int32 × Int32) ⊕ Int32} (hF : l_186_4 h x1 x2 x3 = some r) (hK : ∀ s' : Int32 × Int32, r = .inl s' → k_Go X 0 186 (4, [.ref (1076 + 1), .int x1, .int (s'.1), .int (s'.2)], []) h o) (hX0 : ∀ e : Int32, r = .inr e → (.inl (some (.int e)), h) = o) : k_Go X 0 186 (4, [.ref (1076 + 1), .int x1, .int x2, .int x3], []) h o := by
  refine kg_iload hk_186 rfl rfl rfl ?_
  refine kg_aload hk_186 rfl rfl rfl ?_
  refine kg_get (v := .int (h 1076 2)) hk_186 rfl wk_1076_2 rfl rfl ?_
  refine wf_if hF (fun cz1 hF => ?_) (fun cz1 hF => ?_)
  · refine kg_icF hk_186 rfl (jc_F3 cz1) rfl ?_
    refine kg_iload hk_186 rfl rfl rfl ?_
    refine kg_aload hk_186 rfl rfl rfl ?_
    refine kg_get (v := .ref (1121 + 1)) hk_186 rfl wk_1076_58 rfl rfl ?_
    refine kg_iload hk_186 rfl rfl rfl ?_
    refine wf_gd hF (fun gz2 hF => ?_)
    refine kg_ald (y := (h 1121 x1.toNatClampNeg)) hk_186 rfl wc_1121 gz2 rfl rfl ?_
    refine kg_iload hk_186 rfl rfl rfl ?_
    refine kg_bin (z := ((h 1121 x1.toNatClampNeg) >>> (x3 &&& 31))) hk_186 rfl rfl rfl ?_
    refine kg_push (x := 1) hk_186 rfl (by decide) rfl ?_
    refine kg_bin (z := (((h 1121 x1.toNatClampNeg) >>> (x3 &&& 31)) &&& 1)) hk_186 rfl rfl rfl ?_
    refine kg_push (x := 1) hk_186 rfl (by decide) rfl ?_
    refine wf_gd hF (fun gz6 hF => ?_)
    refine kv_mid (p := 34) (L := [.ref (1076 + 1), .int x1, .int x2, .int x3]) (S := [.int (if (((h 1121 x1.toNatClampNeg) >>> (x3 &&& 31)) &&& 1) = 1 then (if (((h 1121 x3.toNatClampNeg) >>> (x1 &&& 31)) &&& 1) = 1 then (1 <<< (x3 &&& 31)) else 0 : Int32) else 0 : Int32), .int x2]) ?_ (fun hK => ?_)
    · refine kg_bin (z := (x2 ||| (if (((h 1121 x1.toNatClampNeg) >>> (x3 &&& 31)) &&& 1) = 1 then (if (((h 1121 x3.toNatClampNeg) >>> (x1 &&& 31)) &&& 1) = 1 then (1 <<< (x3 &&& 31)) else 0 : Int32) else 0 : Int32))) hk_186 rfl rfl rfl ?_
      refine kg_istore (L2 := [.ref (1076 + 1), .int x1, .int (x2 ||| (if (((h 1121 x1.toNatClampNeg) >>> (x3 &&& 31)) &&& 1) = 1 then (if (((h 1121 x3.toNatClampNeg) >>> (x1 &&& 31)) &&& 1) = 1 then (1 <<< (x3 &&& 31)) else 0 : Int32) else 0 : Int32)), .int x3]) hk_186 rfl (Nat.le_of_ble_eq_true rfl) rfl rfl ?_
      refine kg_iinc (y := (x3 + 1)) (L2 := [.ref (1076 + 1), .int x1, .int (x2 ||| (if (((h 1121 x1.toNatClampNeg) >>> (x3 &&& 31)) &&& 1) = 1 then (if (((h 1121 x3.toNatClampNeg) >>> (x1 &&& 31)) &&& 1) = 1 then (1 <<< (x3 &&& 31)) else 0 : Int32) else 0 : Int32)), .int (x3 + 1)]) hk_186 rfl rfl rfl rfl rfl ?_
      refine kg_goto hk_186 rfl ?_
      have hF := Option.some.inj hF
      exact hK _ hF.symm
    · have hg := gz6
      by_cases cz3 : (((h 1121 x1.toNatClampNeg) >>> (x3 &&& 31)) &&& 1) = 1
      · have hg := wv_T cz3 hg
        have hK := kv_T cz3 hK
        have gz4 := hg
        refine kg_icF hk_186 rfl (jc_F1 cz3) rfl ?_
        refine kg_aload hk_186 rfl rfl rfl ?_
        refine kg_get (v := .ref (1121 + 1)) hk_186 rfl wk_1076_58 rfl rfl ?_
        refine kg_iload hk_186 rfl rfl rfl ?_
        refine kg_ald (y := (h 1121 x3.toNatClampNeg)) hk_186 rfl wc_1121 gz4 rfl rfl ?_
        refine kg_iload hk_186 rfl rfl rfl ?_
        refine kg_bin (z := ((h 1121 x3.toNatClampNeg) >>> (x1 &&& 31))) hk_186 rfl rfl rfl ?_
        refine kg_push (x := 1) hk_186 rfl (by decide) rfl ?_
        refine kg_bin (z := (((h 1121 x3.toNatClampNeg) >>> (x1 &&& 31)) &&& 1)) hk_186 rfl rfl rfl ?_
        refine kg_push (x := 1) hk_186 rfl (by decide) rfl ?_
        by_cases cz5 : (((h 1121 x3.toNatClampNeg) >>> (x1 &&& 31)) &&& 1) = 1
        · have hK := kv_T cz5 hK
          refine kg_icF hk_186 rfl (jc_F1 cz5) rfl ?_
          refine kg_push (x := 1) hk_186 rfl (by decide) rfl ?_
          refine kg_iload hk_186 rfl rfl rfl ?_
          refine kg_bin (z := (1 <<< (x3 &&& 31))) hk_186 rfl rfl rfl ?_
          refine kg_goto hk_186 rfl ?_
          exact hK
        · have hK := kv_F cz5 hK
          refine kg_icT hk_186 rfl (jc_T1 cz5) ?_
          refine kg_push (x := 0) hk_186 rfl (by decide) rfl ?_
          exact hK
      · have hK := kv_F cz3 hK
        refine kg_icT hk_186 rfl (jc_T1 cz3) ?_
        refine kg_push (x := 0) hk_186 rfl (by decide) rfl ?_
        exact hK
  · refine kg_icT hk_186 rfl (jc_T3 cz1) ?_
    refine kg_iload hk_186 rfl rfl rfl ?_
    have hF := Option.some.inj hF
    exact kg_iret hk_186 rfl (Or.inl rfl) (hX0 _ hF.symm)
theorem l_186_4_ok {X : List Int32} {o : kO}  {h : Hp} {x1 : Int32}  {n : Nat} {s : Int32 × Int32} {e : Int32} (hF : w_lp (fun (s : Int32 × Int32) => l_186_4 h x1 s.1 s.2) n s = some e) (hX0 : (.inl (some (.int e)), h) = o) : k_Go X 0 186 (4, [.ref (1076 + 1), .int x1, .int s.1, .int s.2], []) h o := by
  exact w_lp_ok (P := (fun (s : Int32 × Int32) => k_Go X 0 186 (4, [.ref (1076 + 1), .int x1, .int s.1, .int s.2], []) h o)) (Q := (fun (e : Int32) => ((.inl (some (.int e)), h) = o))) (fun s r hF hK hX => l_186_4_st hF hK (fun x hx => (hX _ hx))) n s e hF hX0
def p_186 (h : Hp) (x1 : Int32) : Option (Int32) :=
  w_lp (fun (s : Int32 × Int32) => l_186_4 h x1 s.1 s.2) w_N (0, 0)
theorem p_186_ok {X : List Int32}  {h : Hp} {x1 : Int32}  {r : Int32} (hF : p_186 h x1 = some r) : k_Ev X 0 186 [.ref (1076 + 1), .int x1] h (.inl (some (.int r)), h) := by
  refine k_of hk_186 ?_
  show k_Go X 0 186 (0, [.ref (1076 + 1), .int x1, (.retAddr 0), (.retAddr 0)], []) h _
  unfold p_186 at hF
  refine kg_push (x := 0) hk_186 rfl (by decide) rfl ?_
  refine kg_istore (L2 := [.ref (1076 + 1), .int x1, .int 0, (.retAddr 0)]) hk_186 rfl (Nat.le_of_ble_eq_true rfl) rfl rfl ?_
  refine kg_push (x := 0) hk_186 rfl (by decide) rfl ?_
  refine kg_istore (L2 := [.ref (1076 + 1), .int x1, .int 0, .int 0]) hk_186 rfl (Nat.le_of_ble_eq_true rfl) rfl rfl ?_
  exact l_186_4_ok hF rfl
