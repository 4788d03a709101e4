/-! ===== the methods as functions over the flat heap, and that the interpreter does what they say (printed by wip/whole/dec.py) ===== -/
-- NotebookWeirModel.runsQuery([I)V
theorem hk_211 : jP[211]? = some (jc_211, 9, [], []) := by rfl
def l_211_29 (x3 : Int32) (h : Hp) : Option ((Int32 × Hp) ⊕ Int32 × Hp) :=
  w_gd (g_150 h) <|
  if (v_149 (v_150 h)) = 0 then
    (some (.inr (x3, h)))
  else
    (w_gd (w_ix (h 1076 67) 40) <|
    w_let (w_up h 1076 67 ((h 1076 67) + 1)) fun h11 =>
    some (.inl ((((10 * x3) + (h 1127 (h 1076 67).toNatClampNeg)) - 48), h11)))
theorem l_211_29_st {X : List Int32} {o : kO}  {h : Hp} {q1 : Nat} {x2 : Int32} {x3 : Int32} (t1 : w_tab[q1]? = some (50, (w_len q1), [])) {r : (Int32 × Hp) ⊕ Int32 × Hp} (hF : l_211_29 x3 h = some r) (hK : ∀ s' : Int32 × Hp, r = .inl s' → ∀ (u4 : Value) (u5 : Value) (u6 : Value) (u7 : Value) (u8 : Value), k_Go X 5 211 (29, [.ref (1076 + 1), .ref (q1 + 1), .int x2, .int (s'.1), u4, u5, u6, u7, u8], []) s'.2 o) (hX0 : ∀ e : Int32 × Hp, r = .inr e → ∀ (u4 : Value) (u5 : Value) (u6 : Value) (u7 : Value) (u8 : Value), k_Go X 5 211 (52, [.ref (1076 + 1), .ref (q1 + 1), .int x2, .int e.1, u4, u5, u6, u7, u8], []) e.2 o) : ∀ (u4 : Value) (u5 : Value) (u6 : Value) (u7 : Value) (u8 : Value), k_Go X 5 211 (29, [.ref (1076 + 1), .ref (q1 + 1), .int x2, .int x3, u4, u5, u6, u7, u8], []) h o := by
  intro u4 u5 u6 u7 u8
  refine kg_aload hk_211 rfl rfl rfl ?_
  refine wf_gd hF (fun g8 hF => ?_)
  refine kg_call (as := [.ref (1076 + 1)]) (rest := []) hk_211 rfl (Or.inr (Or.inr (Or.inr ⟨Or.inl rfl, _, _, rfl, wc_1076⟩))) rfl rfl rfl (Nat.not_lt.mpr (Nat.le_of_ble_eq_true rfl)) (v_150_ok g8) (by decide) rfl ?_
  refine kg_call (as := [.int (v_150 h)]) (rest := []) hk_211 rfl (Or.inl rfl) rfl rfl rfl (Nat.not_lt.mpr (Nat.le_of_ble_eq_true rfl)) (v_149_ok) (by decide) rfl ?_
  refine wf_if hF (fun c9 hF => ?_) (fun c9 hF => ?_)
  · refine kg_ifT hk_211 rfl (jc_T0 c9) ?_
    have hF := Option.some.inj hF
    exact hX0 _ hF.symm _ _ _ _ _
  · refine kg_ifF hk_211 rfl (jc_F0 c9) rfl ?_
    refine kg_push (x := 10) hk_211 rfl (by decide) rfl ?_
    refine kg_iload hk_211 rfl rfl rfl ?_
    refine kg_bin (z := (10 * x3)) hk_211 rfl rfl rfl ?_
    refine kg_aload hk_211 rfl rfl rfl ?_
    refine kg_get (v := .ref (1127 + 1)) hk_211 rfl wk_1076_65 rfl rfl ?_
    refine kg_aload hk_211 rfl rfl rfl ?_
    refine kg_get (v := .int (h 1076 67)) hk_211 rfl wk_1076_67 rfl rfl ?_
    refine wf_gd hF (fun g10 hF => ?_)
    refine kg_ald (y := (h 1127 (h 1076 67).toNatClampNeg)) hk_211 rfl wc_1127 g10 rfl rfl ?_
    refine kg_bin (z := ((10 * x3) + (h 1127 (h 1076 67).toNatClampNeg))) hk_211 rfl rfl rfl ?_
    refine kg_push (x := 48) hk_211 rfl (by decide) rfl ?_
    refine kg_bin (z := (((10 * x3) + (h 1127 (h 1076 67).toNatClampNeg)) - 48)) hk_211 rfl rfl rfl ?_
    refine kg_istore (L2 := [.ref (1076 + 1), .ref (q1 + 1), .int x2, .int (((10 * x3) + (h 1127 (h 1076 67).toNatClampNeg)) - 48), u4, u5, u6, u7, u8]) hk_211 rfl (Nat.le_of_ble_eq_true rfl) rfl rfl ?_
    refine kg_aload hk_211 rfl rfl rfl ?_
    refine kg_dup hk_211 rfl rfl rfl ?_
    refine kg_get (v := .int (h 1076 67)) hk_211 rfl wk_1076_67 rfl rfl ?_
    refine kg_push (x := 1) hk_211 rfl (by decide) rfl ?_
    refine kg_bin (z := ((h 1076 67) + 1)) hk_211 rfl rfl rfl ?_
    refine wf_let hF (fun h11 hh11 hF => ?_)
    refine kg_put hk_211 rfl wk_1076_67 rfl rfl hh11 rfl ?_
    refine kg_goto hk_211 rfl ?_
    have hF := Option.some.inj hF
    exact hK _ hF.symm _ _ _ _ _
theorem l_211_29_ok {X : List Int32} {o : kO}  {q1 : Nat} {x2 : Int32} (t1 : w_tab[q1]? = some (50, (w_len q1), [])) {n : Nat} {s : Int32 × Hp} {e : Int32 × Hp} (hF : w_lp (fun (s : Int32 × Hp) => l_211_29 s.1 s.2) n s = some e) (hX0 : ∀ (u4 : Value) (u5 : Value) (u6 : Value) (u7 : Value) (u8 : Value), k_Go X 5 211 (52, [.ref (1076 + 1), .ref (q1 + 1), .int x2, .int e.1, u4, u5, u6, u7, u8], []) e.2 o) : ∀ (u4 : Value) (u5 : Value) (u6 : Value) (u7 : Value) (u8 : Value), k_Go X 5 211 (29, [.ref (1076 + 1), .ref (q1 + 1), .int x2, .int s.1, u4, u5, u6, u7, u8], []) s.2 o := by
  exact w_lp_ok (P := (fun (s : Int32 × Hp) => ∀ (u4 : Value) (u5 : Value) (u6 : Value) (u7 : Value) (u8 : Value), k_Go X 5 211 (29, [.ref (1076 + 1), .ref (q1 + 1), .int x2, .int s.1, u4, u5, u6, u7, u8], []) s.2 o)) (Q := (fun (e : Int32 × Hp) => (∀ (u4 : Value) (u5 : Value) (u6 : Value) (u7 : Value) (u8 : Value), k_Go X 5 211 (52, [.ref (1076 + 1), .ref (q1 + 1), .int x2, .int e.1, u4, u5, u6, u7, u8], []) e.2 o))) (fun s r hF hK hX => l_211_29_st t1 hF hK (fun x hx => (hX _ hx))) n s e hF hX0
def q_211_117 (h : Hp) (q1 : Nat) (x3 : Int32) (x4 : Int32) (x5 : Int32) (x6 : Int32) (x8 : Int32) (s0 : Int32) : Option ((Int32 × Int32 × Int32 × Int32 × Hp) ⊕ Int32 × Int32 × Int32 × Hp) :=
  w_gd (w_ix x8 9) <|
  w_gd (w_ix x6 400) <|
  w_let (w_up h 1130 x6.toNatClampNeg (h 1132 x8.toNatClampNeg)) fun h27 =>
  some (.inl (x5, x6, s0, (x8 + 1), h27))
theorem q_211_117_ok {X : List Int32} {o : kO}  {h : Hp} {q1 : Nat} {s0 : Int32} {x3 : Int32} {x4 : Int32} {x5 : Int32} {x6 : Int32} {x8 : Int32} (t1 : w_tab[q1]? = some (50, (w_len q1), [])) {r : (Int32 × Int32 × Int32 × Int32 × Hp) ⊕ Int32 × Int32 × Int32 × Hp} (hF : q_211_117 h q1 x3 x4 x5 x6 x8 s0 = some r) (hK : ∀ s' : Int32 × Int32 × Int32 × Int32 × Hp, r = .inl s' → ∀ (u2 : Value), k_Go X 5 211 (80, [.ref (1076 + 1), .ref (q1 + 1), u2, .int x3, .int x4, .int (s'.1), .int (s'.2.1), .int (s'.2.2.1), .int (s'.2.2.2.1)], []) s'.2.2.2.2 o) (hX0 : ∀ e : Int32 × Int32 × Int32 × Hp, r = .inr e → ∀ (u2 : Value) (u3 : Value) (u4 : Value) (u8 : Value), k_Go X 5 211 (128, [.ref (1076 + 1), .ref (q1 + 1), u2, u3, u4, .int e.1, .int e.2.1, .int e.2.2.1, u8], []) e.2.2.2 o) : ∀ (u2 : Value) (u7 : Value), k_Go X 5 211 (117, [.ref (1076 + 1), .ref (q1 + 1), u2, .int x3, .int x4, .int x5, .int x6, u7, .int x8], [.int s0]) h o := by
  intro u2 u7
  unfold q_211_117 at hF
  refine kg_istore (L2 := [.ref (1076 + 1), .ref (q1 + 1), u2, .int x3, .int x4, .int x5, .int x6, .int s0, .int x8]) hk_211 rfl (Nat.le_of_ble_eq_true rfl) rfl rfl ?_
  refine kg_aload hk_211 rfl rfl rfl ?_
  refine kg_get (v := .ref (1130 + 1)) hk_211 rfl wk_1076_71 rfl rfl ?_
  refine kg_iload hk_211 rfl rfl rfl ?_
  refine kg_aload hk_211 rfl rfl rfl ?_
  refine kg_get (v := .ref (1132 + 1)) hk_211 rfl wk_1076_78 rfl rfl ?_
  refine kg_iload hk_211 rfl rfl rfl ?_
  refine wf_gd hF (fun g25 hF => ?_)
  refine kg_ald (y := (h 1132 x8.toNatClampNeg)) hk_211 rfl wc_1132 g25 rfl rfl ?_
  refine wf_gd hF (fun g26 hF => ?_)
  refine wf_let hF (fun h27 hh27 hF => ?_)
  refine kg_ast hk_211 rfl wc_1130 g26 (by rw [j_nar50]; exact hh27) rfl ?_
  refine kg_iinc (y := (x8 + 1)) (L2 := [.ref (1076 + 1), .ref (q1 + 1), u2, .int x3, .int x4, .int x5, .int x6, .int s0, .int (x8 + 1)]) hk_211 rfl rfl rfl rfl rfl ?_
  refine kg_goto hk_211 rfl ?_
  have hF := Option.some.inj hF
  exact hK _ hF.symm _
def l_211_80 (x3 : Int32) (x4 : Int32) (x5 : Int32) (x6 : Int32) (x7 : Int32) (x8 : Int32) (h : Hp) : Option ((Int32 × Int32 × Int32 × Int32 × Hp) ⊕ Int32 × Int32 × Int32 × Hp) :=
  if x8 ≤ x4 then
    (w_gd (w_ix x8 9) <|
    if (v_210 (h 1132 x8.toNatClampNeg) (h 1127 3) x3) = 0 then
      (some (.inl (x5, x6, x7, (x8 + 1), h)))
    else
      (w_gd (w_ix x8 9) <|
      w_gd ((if (x6 + 1) = 1 then w_ix x8 9 else (w_ix x8 9) && ((if (h 1132 x8.toNatClampNeg) ≤ x7 then true else w_ix x8 9)))) <|
      q_211_117 h q1 x3 x4 (x5 + (h 1132 x8.toNatClampNeg)) (x6 + 1) x8 (if (x6 + 1) = 1 then (h 1132 x8.toNatClampNeg) else (if (h 1132 x8.toNatClampNeg) ≤ x7 then x7 else (h 1132 x8.toNatClampNeg)))))
  else
    (some (.inr (x5, x6, x7, h)))
theorem l_211_80_st {X : List Int32} {o : kO}  {h : Hp} {q1 : Nat} {x3 : Int32} {x4 : Int32} {x5 : Int32} {x6 : Int32} {x7 : Int32} {x8 : Int32} (t1 : w_tab[q1]? = some (50, (w_len q1), [])) {r : (Int32 × Int32 × Int32 × Int32 × Hp) ⊕ Int32 × Int32 × Int32 × Hp} (hF : l_211_80 x3 x4 x5 x6 x7 x8 h = some r) (hK : ∀ s' : Int32 × Int32 × Int32 × Int32 × Hp, r = .inl s' → ∀ (u2 : Value), k_Go X 5 211 (80, [.ref (1076 + 1), .ref (q1 + 1), u2, .int x3, .int x4, .int (s'.1), .int (s'.2.1), .int (s'.2.2.1), .int (s'.2.2.2.1)], []) s'.2.2.2.2 o) (hX0 : ∀ e : Int32 × Int32 × Int32 × Hp, r = .inr e → ∀ (u2 : Value) (u3 : Value) (u4 : Value) (u8 : Value), k_Go X 5 211 (128, [.ref (1076 + 1), .ref (q1 + 1), u2, u3, u4, .int e.1, .int e.2.1, .int e.2.2.1, u8], []) e.2.2.2 o) : ∀ (u2 : Value), k_Go X 5 211 (80, [.ref (1076 + 1), .ref (q1 + 1), u2, .int x3, .int x4, .int x5, .int x6, .int x7, .int x8], []) h o := by
  intro u2
  refine kg_iload hk_211 rfl rfl rfl ?_
  refine kg_iload hk_211 rfl rfl rfl ?_
  refine wf_if hF (fun c15 hF => ?_) (fun c15 hF => ?_)
  · refine kg_icF hk_211 rfl (jc_F4 c15) rfl ?_
    refine kg_aload hk_211 rfl rfl rfl ?_
    refine kg_get (v := .ref (1132 + 1)) hk_211 rfl wk_1076_78 rfl rfl ?_
    refine kg_iload hk_211 rfl rfl rfl ?_
    refine wf_gd hF (fun g16 hF => ?_)
    refine kg_ald (y := (h 1132 x8.toNatClampNeg)) hk_211 rfl wc_1132 g16 rfl rfl ?_
    refine kg_aload hk_211 rfl rfl rfl ?_
    refine kg_get (v := .ref (1127 + 1)) hk_211 rfl wk_1076_65 rfl rfl ?_
    refine kg_push (x := 3) hk_211 rfl (by decide) rfl ?_
    refine kg_ald (y := (h 1127 3)) hk_211 rfl wc_1127 (by decide) rfl rfl ?_
    refine kg_iload hk_211 rfl rfl rfl ?_
    refine kg_call (as := [.int (h 1132 x8.toNatClampNeg), .int (h 1127 3), .int x3]) (rest := []) hk_211 rfl (Or.inl rfl) rfl rfl rfl (Nat.not_lt.mpr (Nat.le_of_ble_eq_true rfl)) (v_210_ok) (by decide) rfl ?_
    refine wf_if hF (fun c17 hF => ?_) (fun c17 hF => ?_)
    · refine kg_ifT hk_211 rfl (jc_T0 c17) ?_
      refine kg_iinc (y := (x8 + 1)) (L2 := [.ref (1076 + 1), .ref (q1 + 1), u2, .int x3, .int x4, .int x5, .int x6, .int x7, .int (x8 + 1)]) hk_211 rfl rfl rfl rfl rfl ?_
      refine kg_goto hk_211 rfl ?_
      have hF := Option.some.inj hF
      exact hK _ hF.symm _
    · refine kg_ifF hk_211 rfl (jc_F0 c17) rfl ?_
      refine kg_iinc (y := (x6 + 1)) (L2 := [.ref (1076 + 1), .ref (q1 + 1), u2, .int x3, .int x4, .int x5, .int (x6 + 1), .int x7, .int x8]) hk_211 rfl rfl rfl rfl rfl ?_
      refine kg_iload hk_211 rfl rfl rfl ?_
      refine kg_aload hk_211 rfl rfl rfl ?_
      refine kg_get (v := .ref (1132 + 1)) hk_211 rfl wk_1076_78 rfl rfl ?_
      refine kg_iload hk_211 rfl rfl rfl ?_
      refine wf_gd hF (fun g18 hF => ?_)
      refine kg_ald (y := (h 1132 x8.toNatClampNeg)) hk_211 rfl wc_1132 g18 rfl rfl ?_
      refine kg_bin (z := (x5 + (h 1132 x8.toNatClampNeg))) hk_211 rfl rfl rfl ?_
      refine kg_istore (L2 := [.ref (1076 + 1), .ref (q1 + 1), u2, .int x3, .int x4, .int (x5 + (h 1132 x8.toNatClampNeg)), .int (x6 + 1), .int x7, .int x8]) hk_211 rfl (Nat.le_of_ble_eq_true rfl) rfl rfl ?_
      refine kg_iload hk_211 rfl rfl rfl ?_
      refine kg_push (x := 1) hk_211 rfl (by decide) rfl ?_
      refine wf_gd hF (fun g24 hF => ?_)
      refine kv_mid (p := 117) (L := [.ref (1076 + 1), .ref (q1 + 1), u2, .int x3, .int x4, .int (x5 + (h 1132 x8.toNatClampNeg)), .int (x6 + 1), .int x7, .int x8]) (S := [.int (if (x6 + 1) = 1 then (h 1132 x8.toNatClampNeg) else (if (h 1132 x8.toNatClampNeg) ≤ x7 then x7 else (h 1132 x8.toNatClampNeg)))]) ?_ (fun hK => ?_)
      · exact q_211_117_ok t1 hF hK hX0 _ _
      · have hg := g24
        by_cases c19 : (x6 + 1) = 1
        · have hg := wv_T c19 hg
          have hK := kv_T c19 hK
          have g20 := hg
          refine kg_icT hk_211 rfl (jc_T0 c19) ?_
          refine kg_aload hk_211 rfl rfl rfl ?_
          refine kg_get (v := .ref (1132 + 1)) hk_211 rfl wk_1076_78 rfl rfl ?_
          refine kg_iload hk_211 rfl rfl rfl ?_
          refine kg_ald (y := (h 1132 x8.toNatClampNeg)) hk_211 rfl wc_1132 g20 rfl rfl ?_
          refine kg_goto hk_211 rfl ?_
          exact hK
        · have hg := wv_F c19 hg
          have hK := kv_F c19 hK
          have g21 := wb_1 hg
          have hg := wb_2 hg
          refine kg_icF hk_211 rfl (jc_F0 c19) rfl ?_
          refine kg_aload hk_211 rfl rfl rfl ?_
          refine kg_get (v := .ref (1132 + 1)) hk_211 rfl wk_1076_78 rfl rfl ?_
          refine kg_iload hk_211 rfl rfl rfl ?_
          refine kg_ald (y := (h 1132 x8.toNatClampNeg)) hk_211 rfl wc_1132 g21 rfl rfl ?_
          refine kg_iload hk_211 rfl rfl rfl ?_
          by_cases c22 : (h 1132 x8.toNatClampNeg) ≤ x7
          · have hK := kv_T c22 hK
            refine kg_icT hk_211 rfl (jc_T5 c22) ?_
            refine kg_iload hk_211 rfl rfl rfl ?_
            exact hK
          · have hg := wv_F c22 hg
            have hK := kv_F c22 hK
            have g23 := hg
            refine kg_icF hk_211 rfl (jc_F5 c22) rfl ?_
            refine kg_aload hk_211 rfl rfl rfl ?_
            refine kg_get (v := .ref (1132 + 1)) hk_211 rfl wk_1076_78 rfl rfl ?_
            refine kg_iload hk_211 rfl rfl rfl ?_
            refine kg_ald (y := (h 1132 x8.toNatClampNeg)) hk_211 rfl wc_1132 g23 rfl rfl ?_
            refine kg_goto hk_211 rfl ?_
            exact hK
  · refine kg_icT hk_211 rfl (jc_T4 c15) ?_
    have hF := Option.some.inj hF
    exact hX0 _ hF.symm _ _ _ _
theorem l_211_80_ok {X : List Int32} {o : kO}  {q1 : Nat} {x3 : Int32} {x4 : Int32} (t1 : w_tab[q1]? = some (50, (w_len q1), [])) {n : Nat} {s : Int32 × Int32 × Int32 × Int32 × Hp} {e : Int32 × Int32 × Int32 × Hp} (hF : w_lp (fun (s : Int32 × Int32 × Int32 × Int32 × Hp) => l_211_80 x3 x4 s.1 s.2.1 s.2.2.1 s.2.2.2.1 s.2.2.2.2) n s = some e) (hX0 : ∀ (u2 : Value) (u3 : Value) (u4 : Value) (u8 : Value), k_Go X 5 211 (128, [.ref (1076 + 1), .ref (q1 + 1), u2, u3, u4, .int e.1, .int e.2.1, .int e.2.2.1, u8], []) e.2.2.2 o) : ∀ (u2 : Value), k_Go X 5 211 (80, [.ref (1076 + 1), .ref (q1 + 1), u2, .int x3, .int x4, .int s.1, .int s.2.1, .int s.2.2.1, .int s.2.2.2.1], []) s.2.2.2.2 o := by
  exact w_lp_ok (P := (fun (s : Int32 × Int32 × Int32 × Int32 × Hp) => ∀ (u2 : Value), k_Go X 5 211 (80, [.ref (1076 + 1), .ref (q1 + 1), u2, .int x3, .int x4, .int s.1, .int s.2.1, .int s.2.2.1, .int s.2.2.2.1], []) s.2.2.2.2 o)) (Q := (fun (e : Int32 × Int32 × Int32 × Hp) => (∀ (u2 : Value) (u3 : Value) (u4 : Value) (u8 : Value), k_Go X 5 211 (128, [.ref (1076 + 1), .ref (q1 + 1), u2, u3, u4, .int e.1, .int e.2.1, .int e.2.2.1, u8], []) e.2.2.2 o))) (fun s r hF hK hX => l_211_80_st t1 hF hK (fun x hx => (hX _ hx))) n s e hF hX0
def q_211_164 (h : Hp) (q1 : Nat) (s0 : Int32) (s1 : Int32) : Option (Hp) :=
  w_gd (w_ix s1 400) <|
  w_let (w_up h 1130 s1.toNatClampNeg s0) fun h41 =>
  (p_193 h41 1130 0 1131 (9 * ((h41 1127 0) - 97))).bind fun v42 =>
  (p_193 v42 1130 0 q1 (9 * (v42 1076 77))).bind fun v43 =>
  some v43
theorem q_211_164_ok {X : List Int32}   {h : Hp} {q1 : Nat} {s0 : Int32} {s1 : Int32} (t1 : w_tab[q1]? = some (50, (w_len q1), [])) {r : Hp} (hF : q_211_164 h q1 s0 s1 = some r)  : ∀ (u2 : Value) (u3 : Value) (u4 : Value) (u5 : Value) (u6 : Value) (u7 : Value) (u8 : Value), k_Go X 5 211 (164, [.ref (1076 + 1), .ref (q1 + 1), u2, u3, u4, u5, u6, u7, u8], [.int s0, .int s1, .ref (1130 + 1)]) h (.inl none, r) := by
  intro u2 u3 u4 u5 u6 u7 u8
  unfold q_211_164 at hF
  refine wf_gd hF (fun g40 hF => ?_)
  refine wf_let hF (fun h41 hh41 hF => ?_)
  refine kg_ast hk_211 rfl wc_1130 g40 (by rw [j_nar50]; exact hh41) rfl ?_
  refine kg_aload hk_211 rfl rfl rfl ?_
  refine kg_aload hk_211 rfl rfl rfl ?_
  refine kg_get (v := .ref (1130 + 1)) hk_211 rfl wk_1076_71 rfl rfl ?_
  refine kg_push (x := 0) hk_211 rfl (by decide) rfl ?_
  refine kg_aload hk_211 rfl rfl rfl ?_
  refine kg_get (v := .ref (1131 + 1)) hk_211 rfl wk_1076_73 rfl rfl ?_
  refine kg_push (x := 9) hk_211 rfl (by decide) rfl ?_
  refine kg_aload hk_211 rfl rfl rfl ?_
  refine kg_get (v := .ref (1127 + 1)) hk_211 rfl wk_1076_65 rfl rfl ?_
  refine kg_push (x := 0) hk_211 rfl (by decide) rfl ?_
  refine kg_ald (y := (h41 1127 0)) hk_211 rfl wc_1127 (by decide) rfl rfl ?_
  refine kg_push (x := 97) hk_211 rfl (by decide) rfl ?_
  refine kg_bin (z := ((h41 1127 0) - 97)) hk_211 rfl rfl rfl ?_
  refine kg_bin (z := (9 * ((h41 1127 0) - 97))) hk_211 rfl rfl rfl ?_
  refine wf_bind hF (fun v42 hv42 hF => ?_)
  refine kg_call (as := [.ref (1076 + 1), .ref (1130 + 1), .int 0, .ref (1131 + 1), .int (9 * ((h41 1127 0) - 97))]) (rest := []) hk_211 rfl (Or.inr (Or.inr (Or.inr ⟨Or.inl rfl, _, _, rfl, wc_1076⟩))) rfl rfl rfl (Nat.not_lt.mpr (Nat.le_of_ble_eq_true rfl)) (p_193_ok wc_1130 wc_1131 hv42) (by decide) rfl ?_
  refine kg_aload hk_211 rfl rfl rfl ?_
  refine kg_aload hk_211 rfl rfl rfl ?_
  refine kg_get (v := .ref (1130 + 1)) hk_211 rfl wk_1076_71 rfl rfl ?_
  refine kg_push (x := 0) hk_211 rfl (by decide) rfl ?_
  refine kg_aload hk_211 rfl rfl rfl ?_
  refine kg_push (x := 9) hk_211 rfl (by decide) rfl ?_
  refine kg_aload hk_211 rfl rfl rfl ?_
  refine kg_get (v := .int (v42 1076 77)) hk_211 rfl wk_1076_77 rfl rfl ?_
  refine kg_bin (z := (9 * (v42 1076 77))) hk_211 rfl rfl rfl ?_
  refine wf_bind hF (fun v43 hv43 hF => ?_)
  refine kg_call (as := [.ref (1076 + 1), .ref (1130 + 1), .int 0, .ref (q1 + 1), .int (9 * (v42 1076 77))]) (rest := []) hk_211 rfl (Or.inr (Or.inr (Or.inr ⟨Or.inl rfl, _, _, rfl, wc_1076⟩))) rfl rfl rfl (Nat.not_lt.mpr (Nat.le_of_ble_eq_true rfl)) (p_193_ok wc_1130 t1 hv43) (by decide) rfl ?_
  have hF := Option.some.inj hF
  subst hF
  exact kg_ret hk_211 rfl rfl
def q_211_138 (h : Hp) (q1 : Nat) (x5 : Int32) (x6 : Int32) (x7 : Int32) (s0 : Int32) (s1 : Int32) : Option (Hp) :=
  w_gd (w_ix s1 400) <|
  w_let (w_up h 1130 s1.toNatClampNeg s0) fun h32 =>
  w_gd (g_150 h32) <|
  w_gd ((if (v_150 h32) = 115 then true else (g_150 h32) && ((if (v_150 h32) = 99 then true else g_150 h32)))) <|
  q_211_164 h32 q1 (if (v_150 h32) = 115 then x5 else (if (v_150 h32) = 99 then x6 else (if (v_150 h32) = 109 then x7 else (h32 1130 1)))) 1
theorem q_211_138_ok {X : List Int32}   {h : Hp} {q1 : Nat} {s0 : Int32} {s1 : Int32} {x5 : Int32} {x6 : Int32} {x7 : Int32} (t1 : w_tab[q1]? = some (50, (w_len q1), [])) {r : Hp} (hF : q_211_138 h q1 x5 x6 x7 s0 s1 = some r)  : ∀ (u2 : Value) (u3 : Value) (u4 : Value) (u8 : Value), k_Go X 5 211 (138, [.ref (1076 + 1), .ref (q1 + 1), u2, u3, u4, .int x5, .int x6, .int x7, u8], [.int s0, .int s1, .ref (1130 + 1)]) h (.inl none, r) := by
  intro u2 u3 u4 u8
  unfold q_211_138 at hF
  refine wf_gd hF (fun g31 hF => ?_)
  refine wf_let hF (fun h32 hh32 hF => ?_)
  refine kg_ast hk_211 rfl wc_1130 g31 (by rw [j_nar50]; exact hh32) rfl ?_
  refine kg_aload hk_211 rfl rfl rfl ?_
  refine kg_get (v := .ref (1130 + 1)) hk_211 rfl wk_1076_71 rfl rfl ?_
  refine kg_push (x := 1) hk_211 rfl (by decide) rfl ?_
  refine kg_aload hk_211 rfl rfl rfl ?_
  refine wf_gd hF (fun g33 hF => ?_)
  refine kg_call (as := [.ref (1076 + 1)]) (rest := [.int 1, .ref (1130 + 1)]) hk_211 rfl (Or.inr (Or.inr (Or.inr ⟨Or.inl rfl, _, _, rfl, wc_1076⟩))) rfl rfl rfl (Nat.not_lt.mpr (Nat.le_of_ble_eq_true rfl)) (v_150_ok g33) (by decide) rfl ?_
  refine kg_push (x := 115) hk_211 rfl (by decide) rfl ?_
  refine wf_gd hF (fun g39 hF => ?_)
  refine kv_mid (p := 164) (L := [.ref (1076 + 1), .ref (q1 + 1), u2, u3, u4, .int x5, .int x6, .int x7, u8]) (S := [.int (if (v_150 h32) = 115 then x5 else (if (v_150 h32) = 99 then x6 else (if (v_150 h32) = 109 then x7 else (h32 1130 1)))), .int 1, .ref (1130 + 1)]) ?_ (fun hK => ?_)
  · exact q_211_164_ok t1 hF _ _ _ _ _ _ _
  · have hg := g39
    by_cases c34 : (v_150 h32) = 115
    · have hK := kv_T c34 hK
      refine kg_icF hk_211 rfl (jc_F1 c34) rfl ?_
      refine kg_iload hk_211 rfl rfl rfl ?_
      refine kg_goto hk_211 rfl ?_
      exact hK
    · have hg := wv_F c34 hg
      have hK := kv_F c34 hK
      have g35 := wb_1 hg
      have hg := wb_2 hg
      refine kg_icT hk_211 rfl (jc_T1 c34) ?_
      refine kg_aload hk_211 rfl rfl rfl ?_
      refine kg_call (as := [.ref (1076 + 1)]) (rest := [.int 1, .ref (1130 + 1)]) hk_211 rfl (Or.inr (Or.inr (Or.inr ⟨Or.inl rfl, _, _, rfl, wc_1076⟩))) rfl rfl rfl (Nat.not_lt.mpr (Nat.le_of_ble_eq_true rfl)) (v_150_ok g35) (by decide) rfl ?_
      refine kg_push (x := 99) hk_211 rfl (by decide) rfl ?_
      by_cases c36 : (v_150 h32) = 99
      · have hK := kv_T c36 hK
        refine kg_icF hk_211 rfl (jc_F1 c36) rfl ?_
        refine kg_iload hk_211 rfl rfl rfl ?_
        refine kg_goto hk_211 rfl ?_
        exact hK
      · have hg := wv_F c36 hg
        have hK := kv_F c36 hK
        have g37 := hg
        refine kg_icT hk_211 rfl (jc_T1 c36) ?_
        refine kg_aload hk_211 rfl rfl rfl ?_
        refine kg_call (as := [.ref (1076 + 1)]) (rest := [.int 1, .ref (1130 + 1)]) hk_211 rfl (Or.inr (Or.inr (Or.inr ⟨Or.inl rfl, _, _, rfl, wc_1076⟩))) rfl rfl rfl (Nat.not_lt.mpr (Nat.le_of_ble_eq_true rfl)) (v_150_ok g37) (by decide) rfl ?_
        refine kg_push (x := 109) hk_211 rfl (by decide) rfl ?_
        by_cases c38 : (v_150 h32) = 109
        · have hK := kv_T c38 hK
          refine kg_icF hk_211 rfl (jc_F1 c38) rfl ?_
          refine kg_iload hk_211 rfl rfl rfl ?_
          refine kg_goto hk_211 rfl ?_
          exact hK
        · have hK := kv_F c38 hK
          refine kg_icT hk_211 rfl (jc_T1 c38) ?_
          refine kg_aload hk_211 rfl rfl rfl ?_
          refine kg_get (v := .ref (1130 + 1)) hk_211 rfl wk_1076_71 rfl rfl ?_
          refine kg_push (x := 1) hk_211 rfl (by decide) rfl ?_
          refine kg_ald (y := (h32 1130 1)) hk_211 rfl wc_1130 (by decide) rfl rfl ?_
          exact hK
def q_211_71 (h : Hp) (q1 : Nat) (x3 : Int32) (s0 : Int32) : Option (Hp) :=
  (w_lp (fun (s : Int32 × Int32 × Int32 × Int32 × Hp) => l_211_80 x3 s0 s.1 s.2.1 s.2.2.1 s.2.2.2.1 s.2.2.2.2) w_N (0, 0, 0, 1, h)).bind fun e28 =>
  w_gd (g_150 e28.2.2.2) <|
  q_211_138 e28.2.2.2 q1 e28.1 e28.2.1 e28.2.2.1 (if (v_150 e28.2.2.2) = 108 then e28.2.1 else (-1)) 0
theorem q_211_71_ok {X : List Int32}   {h : Hp} {q1 : Nat} {s0 : Int32} {x3 : Int32} (t1 : w_tab[q1]? = some (50, (w_len q1), [])) {r : Hp} (hF : q_211_71 h q1 x3 s0 = some r)  : ∀ (u2 : Value) (u4 : Value) (u5 : Value) (u6 : Value) (u7 : Value) (u8 : Value), k_Go X 5 211 (71, [.ref (1076 + 1), .ref (q1 + 1), u2, .int x3, u4, u5, u6, u7, u8], [.int s0]) h (.inl none, r) := by
  intro u2 u4 u5 u6 u7 u8
  unfold q_211_71 at hF
  refine kg_istore (L2 := [.ref (1076 + 1), .ref (q1 + 1), u2, .int x3, .int s0, u5, u6, u7, u8]) hk_211 rfl (Nat.le_of_ble_eq_true rfl) rfl rfl ?_
  refine kg_push (x := 0) hk_211 rfl (by decide) rfl ?_
  refine kg_istore (L2 := [.ref (1076 + 1), .ref (q1 + 1), u2, .int x3, .int s0, .int 0, u6, u7, u8]) hk_211 rfl (Nat.le_of_ble_eq_true rfl) rfl rfl ?_
  refine kg_push (x := 0) hk_211 rfl (by decide) rfl ?_
  refine kg_istore (L2 := [.ref (1076 + 1), .ref (q1 + 1), u2, .int x3, .int s0, .int 0, .int 0, u7, u8]) hk_211 rfl (Nat.le_of_ble_eq_true rfl) rfl rfl ?_
  refine kg_push (x := 0) hk_211 rfl (by decide) rfl ?_
  refine kg_istore (L2 := [.ref (1076 + 1), .ref (q1 + 1), u2, .int x3, .int s0, .int 0, .int 0, .int 0, u8]) hk_211 rfl (Nat.le_of_ble_eq_true rfl) rfl rfl ?_
  refine kg_push (x := 1) hk_211 rfl (by decide) rfl ?_
  refine kg_istore (L2 := [.ref (1076 + 1), .ref (q1 + 1), u2, .int x3, .int s0, .int 0, .int 0, .int 0, .int 1]) hk_211 rfl (Nat.le_of_ble_eq_true rfl) rfl rfl ?_
  refine wf_bind hF (fun e28 he28 hF => ?_)
  refine l_211_80_ok t1 he28 ?_ _
  intro u2 u3 u4 u8
  refine kg_aload hk_211 rfl rfl rfl ?_
  refine kg_get (v := .ref (1130 + 1)) hk_211 rfl wk_1076_71 rfl rfl ?_
  refine kg_push (x := 0) hk_211 rfl (by decide) rfl ?_
  refine kg_aload hk_211 rfl rfl rfl ?_
  refine wf_gd hF (fun g29 hF => ?_)
  refine kg_call (as := [.ref (1076 + 1)]) (rest := [.int 0, .ref (1130 + 1)]) hk_211 rfl (Or.inr (Or.inr (Or.inr ⟨Or.inl rfl, _, _, rfl, wc_1076⟩))) rfl rfl rfl (Nat.not_lt.mpr (Nat.le_of_ble_eq_true rfl)) (v_150_ok g29) (by decide) rfl ?_
  refine kg_push (x := 108) hk_211 rfl (by decide) rfl ?_
  refine kv_mid (p := 138) (L := [.ref (1076 + 1), .ref (q1 + 1), u2, u3, u4, .int e28.1, .int e28.2.1, .int e28.2.2.1, u8]) (S := [.int (if (v_150 e28.2.2.2) = 108 then e28.2.1 else (-1)), .int 0, .ref (1130 + 1)]) ?_ (fun hK => ?_)
  · exact q_211_138_ok t1 hF _ _ _ _
  · by_cases c30 : (v_150 e28.2.2.2) = 108
    · have hK := kv_T c30 hK
      refine kg_icF hk_211 rfl (jc_F1 c30) rfl ?_
      refine kg_iload hk_211 rfl rfl rfl ?_
      refine kg_goto hk_211 rfl ?_
      exact hK
    · have hK := kv_F c30 hK
      refine kg_icT hk_211 rfl (jc_T1 c30) ?_
      refine kg_push (x := (-1)) hk_211 rfl (by decide) rfl ?_
      exact hK
def q_211_58 (h : Hp) (q1 : Nat) (s0 : Int32) : Option (Hp) :=
  q_211_71 h q1 s0 (if (h 1132 0) = (-1) then 1 else (h 1132 0))
theorem q_211_58_ok {X : List Int32}   {h : Hp} {q1 : Nat} {s0 : Int32} (t1 : w_tab[q1]? = some (50, (w_len q1), [])) {r : Hp} (hF : q_211_58 h q1 s0 = some r)  : ∀ (u2 : Value) (u3 : Value) (u4 : Value) (u5 : Value) (u6 : Value) (u7 : Value) (u8 : Value), k_Go X 5 211 (58, [.ref (1076 + 1), .ref (q1 + 1), u2, u3, u4, u5, u6, u7, u8], [.int s0]) h (.inl none, r) := by
  intro u2 u3 u4 u5 u6 u7 u8
  unfold q_211_58 at hF
  refine kg_istore (L2 := [.ref (1076 + 1), .ref (q1 + 1), u2, .int s0, u4, u5, u6, u7, u8]) hk_211 rfl (Nat.le_of_ble_eq_true rfl) rfl rfl ?_
  refine kg_aload hk_211 rfl rfl rfl ?_
  refine kg_get (v := .ref (1132 + 1)) hk_211 rfl wk_1076_78 rfl rfl ?_
  refine kg_push (x := 0) hk_211 rfl (by decide) rfl ?_
  refine kg_ald (y := (h 1132 0)) hk_211 rfl wc_1132 (by decide) rfl rfl ?_
  refine kg_push (x := (-1)) hk_211 rfl (by decide) rfl ?_
  refine kv_mid (p := 71) (L := [.ref (1076 + 1), .ref (q1 + 1), u2, .int s0, u4, u5, u6, u7, u8]) (S := [.int (if (h 1132 0) = (-1) then 1 else (h 1132 0))]) ?_ (fun hK => ?_)
  · exact q_211_71_ok t1 hF _ _ _ _ _ _
  · by_cases c14 : (h 1132 0) = (-1)
    · have hK := kv_T c14 hK
      refine kg_icF hk_211 rfl (jc_F1 c14) rfl ?_
      refine kg_push (x := 1) hk_211 rfl (by decide) rfl ?_
      refine kg_goto hk_211 rfl ?_
      exact hK
    · have hK := kv_F c14 hK
      refine kg_icT hk_211 rfl (jc_T1 c14) ?_
      refine kg_aload hk_211 rfl rfl rfl ?_
      refine kg_get (v := .ref (1132 + 1)) hk_211 rfl wk_1076_78 rfl rfl ?_
      refine kg_push (x := 0) hk_211 rfl (by decide) rfl ?_
      refine kg_ald (y := (h 1132 0)) hk_211 rfl wc_1132 (by decide) rfl rfl ?_
      exact hK
def q_211_25 (h : Hp) (q1 : Nat) (s0 : Int32) : Option (Hp) :=
  (p_155 h s0).bind fun v7 =>
  (w_lp (fun (s : Int32 × Hp) => l_211_29 s.1 s.2) w_N (0, v7.2)).bind fun e12 =>
  q_211_58 e12.2 q1 (if v7.1 = 0 then e12.1 else (-e12.1))
theorem q_211_25_ok {X : List Int32}   {h : Hp} {q1 : Nat} {s0 : Int32} (t1 : w_tab[q1]? = some (50, (w_len q1), [])) {r : Hp} (hF : q_211_25 h q1 s0 = some r)  : ∀ (u2 : Value) (u3 : Value) (u4 : Value) (u5 : Value) (u6 : Value) (u7 : Value) (u8 : Value), k_Go X 5 211 (25, [.ref (1076 + 1), .ref (q1 + 1), u2, u3, u4, u5, u6, u7, u8], [.int s0, .ref (1076 + 1)]) h (.inl none, r) := by
  intro u2 u3 u4 u5 u6 u7 u8
  unfold q_211_25 at hF
  refine wf_bind hF (fun v7 hv7 hF => ?_)
  refine kg_call (as := [.ref (1076 + 1), .int s0]) (rest := []) hk_211 rfl (Or.inr (Or.inr (Or.inr ⟨Or.inl rfl, _, _, rfl, wc_1076⟩))) rfl rfl rfl (Nat.not_lt.mpr (Nat.le_of_ble_eq_true rfl)) (p_155_ok hv7) (by decide) rfl ?_
  refine kg_istore (L2 := [.ref (1076 + 1), .ref (q1 + 1), .int v7.1, u3, u4, u5, u6, u7, u8]) hk_211 rfl (Nat.le_of_ble_eq_true rfl) rfl rfl ?_
  refine kg_push (x := 0) hk_211 rfl (by decide) rfl ?_
  refine kg_istore (L2 := [.ref (1076 + 1), .ref (q1 + 1), .int v7.1, .int 0, u4, u5, u6, u7, u8]) hk_211 rfl (Nat.le_of_ble_eq_true rfl) rfl rfl ?_
  refine wf_bind hF (fun e12 he12 hF => ?_)
  refine l_211_29_ok t1 he12 ?_ _ _ _ _ _
  intro u4 u5 u6 u7 u8
  refine kg_iload hk_211 rfl rfl rfl ?_
  refine kv_mid (p := 58) (L := [.ref (1076 + 1), .ref (q1 + 1), .int v7.1, .int e12.1, u4, u5, u6, u7, u8]) (S := [.int (if v7.1 = 0 then e12.1 else (-e12.1))]) ?_ (fun hK => ?_)
  · exact q_211_58_ok t1 hF _ _ _ _ _ _ _
  · by_cases c13 : v7.1 = 0
    · have hK := kv_T c13 hK
      refine kg_ifT hk_211 rfl (jc_T0 c13) ?_
      refine kg_iload hk_211 rfl rfl rfl ?_
      exact hK
    · have hK := kv_F c13 hK
      refine kg_ifF hk_211 rfl (jc_F0 c13) rfl ?_
      refine kg_iload hk_211 rfl rfl rfl ?_
      refine kg_un (z := (-e12.1)) hk_211 rfl rfl rfl ?_
      refine kg_goto hk_211 rfl ?_
      exact hK
def p_211 (h : Hp) (q1 : Nat) : Option (Hp) :=
  (p_194 h (h 1076 77) (h 1127 2)).bind fun v1 =>
  if v1.1 = 0 then
    ((p_195 v1.2 1 0).bind fun v3 =>
    some v3)
  else
    (w_let (w_up v1.2 1076 67 4) fun h4 =>
    w_gd (g_150 h4) <|
    q_211_25 h4 q1 (if (v_150 h4) = 45 then 1 else 0))
theorem p_211_ok {X : List Int32}  {h : Hp} {q1 : Nat} (t1 : w_tab[q1]? = some (50, w_len q1, [])) {r : Hp} (hF : p_211 h q1 = some r) : k_Ev X 5 211 [.ref (1076 + 1), .ref (q1 + 1)] h (.inl none, r) := by
  refine k_of hk_211 ?_
  show k_Go X 5 211 (0, [.ref (1076 + 1), .ref (q1 + 1), (.retAddr 0), (.retAddr 0), (.retAddr 0), (.retAddr 0), (.retAddr 0), (.retAddr 0), (.retAddr 0)], []) h _
  unfold p_211 at hF
  refine kg_aload hk_211 rfl rfl rfl ?_
  refine kg_aload hk_211 rfl rfl rfl ?_
  refine kg_get (v := .int (h 1076 77)) hk_211 rfl wk_1076_77 rfl rfl ?_
  refine kg_aload hk_211 rfl rfl rfl ?_
  refine kg_get (v := .ref (1127 + 1)) hk_211 rfl wk_1076_65 rfl rfl ?_
  refine kg_push (x := 2) hk_211 rfl (by decide) rfl ?_
  refine kg_ald (y := (h 1127 2)) hk_211 rfl wc_1127 (by decide) rfl rfl ?_
  refine wf_bind hF (fun v1 hv1 hF => ?_)
  refine kg_call (as := [.ref (1076 + 1), .int (h 1076 77), .int (h 1127 2)]) (rest := []) hk_211 rfl (Or.inr (Or.inr (Or.inr ⟨Or.inl rfl, _, _, rfl, wc_1076⟩))) rfl rfl rfl (Nat.not_lt.mpr (Nat.le_of_ble_eq_true rfl)) (p_194_ok hv1) (by decide) rfl ?_
  refine wf_if hF (fun c2 hF => ?_) (fun c2 hF => ?_)
  · refine kg_ifF hk_211 rfl (jc_F1 c2) rfl ?_
    refine kg_aload hk_211 rfl rfl rfl ?_
    refine kg_push (x := 1) hk_211 rfl (by decide) rfl ?_
    refine kg_push (x := 0) hk_211 rfl (by decide) rfl ?_
    refine wf_bind hF (fun v3 hv3 hF => ?_)
    refine kg_call (as := [.ref (1076 + 1), .int 1, .int 0]) (rest := []) hk_211 rfl (Or.inr (Or.inr (Or.inr ⟨Or.inl rfl, _, _, rfl, wc_1076⟩))) rfl rfl rfl (Nat.not_lt.mpr (Nat.le_of_ble_eq_true rfl)) (p_195_ok hv3) (by decide) rfl ?_
    have hF := Option.some.inj hF
    subst hF
    exact kg_ret hk_211 rfl rfl
  · refine kg_ifT hk_211 rfl (jc_T1 c2) ?_
    refine kg_aload hk_211 rfl rfl rfl ?_
    refine kg_push (x := 4) hk_211 rfl (by decide) rfl ?_
    refine wf_let hF (fun h4 hh4 hF => ?_)
    refine kg_put hk_211 rfl wk_1076_67 rfl rfl hh4 rfl ?_
    refine kg_aload hk_211 rfl rfl rfl ?_
    refine kg_aload hk_211 rfl rfl rfl ?_
    refine wf_gd hF (fun g5 hF => ?_)
    refine kg_call (as := [.ref (1076 + 1)]) (rest := [.ref (1076 + 1)]) hk_211 rfl (Or.inr (Or.inr (Or.inr ⟨Or.inl rfl, _, _, rfl, wc_1076⟩))) rfl rfl rfl (Nat.not_lt.mpr (Nat.le_of_ble_eq_true rfl)) (v_150_ok g5) (by decide) rfl ?_
    refine kg_push (x := 45) hk_211 rfl (by decide) rfl ?_
    refine kv_mid (p := 25) (L := [.ref (1076 + 1), .ref (q1 + 1), (.retAddr 0), (.retAddr 0), (.retAddr 0), (.retAddr 0), (.retAddr 0), (.retAddr 0), (.retAddr 0)]) (S := [.int (if (v_150 h4) = 45 then 1 else 0), .ref (1076 + 1)]) ?_ (fun hK => ?_)
    · exact q_211_25_ok t1 hF _ _ _ _ _ _ _
    · by_cases c6 : (v_150 h4) = 45
      · have hK := kv_T c6 hK
        refine kg_icF hk_211 rfl (jc_F1 c6) rfl ?_
        refine kg_push (x := 1) hk_211 rfl (by decide) rfl ?_
        refine kg_goto hk_211 rfl ?_
        exact hK
      · have hK := kv_F c6 hK
        refine kg_icT hk_211 rfl (jc_T1 c6) ?_
        refine kg_push (x := 0) hk_211 rfl (by decide) rfl ?_
        exact hK
-- NotebookWeirModel.holds(I)Z
theorem hk_212 : jP[212]? = some (jc_212, 3, [], []) := by rfl
def p_212 (h : Hp) (x1 : Int32) : Option (Int32 × Hp) :=
  (p_194 h (h 1076 77) x1).bind fun v1 =>
  some ((if v1.1 = 0 then 0 else (if (v1.2 1132 0) = (-1) then (if (v1.2 1132 1) = 0 then 0 else 1) else (if (v1.2 1132 0) ≤ 0 then 0 else 1))), v1.2)
theorem p_212_ok {X : List Int32}  {h : Hp} {x1 : Int32}  {r : Int32 × Hp} (hF : p_212 h x1 = some r) : k_Ev X 5 212 [.ref (1076 + 1), .int x1] h (.inl (some (.int r.1)), r.2) := by
  refine k_of hk_212 ?_
  show k_Go X 5 212 (0, [.ref (1076 + 1), .int x1, (.retAddr 0)], []) h _
  unfold p_212 at hF
  refine kg_aload hk_212 rfl rfl rfl ?_
  refine kg_aload hk_212 rfl rfl rfl ?_
  refine kg_get (v := .int (h 1076 77)) hk_212 rfl wk_1076_77 rfl rfl ?_
  refine kg_iload hk_212 rfl rfl rfl ?_
  refine wf_bind hF (fun v1 hv1 hF => ?_)
  refine kg_call (as := [.ref (1076 + 1), .int (h 1076 77), .int x1]) (rest := []) hk_212 rfl (Or.inr (Or.inr (Or.inr ⟨Or.inl rfl, _, _, rfl, wc_1076⟩))) rfl rfl rfl (Nat.not_lt.mpr (Nat.le_of_ble_eq_true rfl)) (p_194_ok hv1) (by decide) rfl ?_
  refine kg_istore (L2 := [.ref (1076 + 1), .int x1, .int v1.1]) hk_212 rfl (Nat.le_of_ble_eq_true rfl) rfl rfl ?_
  refine kg_iload hk_212 rfl rfl rfl ?_
  refine kv_mid (p := 28) (L := [.ref (1076 + 1), .int x1, .int v1.1]) (S := [.int (if v1.1 = 0 then 0 else (if (v1.2 1132 0) = (-1) then (if (v1.2 1132 1) = 0 then 0 else 1) else (if (v1.2 1132 0) ≤ 0 then 0 else 1)))]) ?_ (fun hK => ?_)
  · have hF := Option.some.inj hF
    subst hF
    exact kg_iret hk_212 rfl (Or.inr (w_boi rfl (w_boi (w_boi rfl rfl) (w_boi rfl rfl)))) rfl
  · by_cases c2 : v1.1 = 0
    · have hK := kv_T c2 hK
      refine kg_ifT hk_212 rfl (jc_T0 c2) ?_
      refine kg_push (x := 0) hk_212 rfl (by decide) rfl ?_
      exact hK
    · have hK := kv_F c2 hK
      refine kg_ifF hk_212 rfl (jc_F0 c2) rfl ?_
      refine kg_aload hk_212 rfl rfl rfl ?_
      refine kg_get (v := .ref (1132 + 1)) hk_212 rfl wk_1076_78 rfl rfl ?_
      refine kg_push (x := 0) hk_212 rfl (by decide) rfl ?_
      refine kg_ald (y := (v1.2 1132 0)) hk_212 rfl wc_1132 (by decide) rfl rfl ?_
      refine kg_push (x := (-1)) hk_212 rfl (by decide) rfl ?_
      by_cases c3 : (v1.2 1132 0) = (-1)
      · have hK := kv_T c3 hK
        refine kg_icF hk_212 rfl (jc_F1 c3) rfl ?_
        refine kg_aload hk_212 rfl rfl rfl ?_
        refine kg_get (v := .ref (1132 + 1)) hk_212 rfl wk_1076_78 rfl rfl ?_
        refine kg_push (x := 1) hk_212 rfl (by decide) rfl ?_
        refine kg_ald (y := (v1.2 1132 1)) hk_212 rfl wc_1132 (by decide) rfl rfl ?_
        by_cases c4 : (v1.2 1132 1) = 0
        · have hK := kv_T c4 hK
          refine kg_ifT hk_212 rfl (jc_T0 c4) ?_
          refine kg_push (x := 0) hk_212 rfl (by decide) rfl ?_
          exact hK
        · have hK := kv_F c4 hK
          refine kg_ifF hk_212 rfl (jc_F0 c4) rfl ?_
          refine kg_goto hk_212 rfl ?_
          refine kg_push (x := 1) hk_212 rfl (by decide) rfl ?_
          refine kg_goto hk_212 rfl ?_
          exact hK
      · have hK := kv_F c3 hK
        refine kg_icT hk_212 rfl (jc_T1 c3) ?_
        refine kg_aload hk_212 rfl rfl rfl ?_
        refine kg_get (v := .ref (1132 + 1)) hk_212 rfl wk_1076_78 rfl rfl ?_
        refine kg_push (x := 0) hk_212 rfl (by decide) rfl ?_
        refine kg_ald (y := (v1.2 1132 0)) hk_212 rfl wc_1132 (by decide) rfl rfl ?_
        by_cases c5 : (v1.2 1132 0) ≤ 0
        · have hK := kv_T c5 hK
          refine kg_ifT hk_212 rfl (jc_T5 c5) ?_
          refine kg_push (x := 0) hk_212 rfl (by decide) rfl ?_
          exact hK
        · have hK := kv_F c5 hK
          refine kg_ifF hk_212 rfl (jc_F5 c5) rfl ?_
          refine kg_push (x := 1) hk_212 rfl (by decide) rfl ?_
          refine kg_goto hk_212 rfl ?_
          exact hK
-- NotebookWeirModel.runsRules([I)V
theorem hk_213 : jP[213]? = some (jc_213, 9, [], []) := by rfl
def q_213_64 (h : Hp) (q1 : Nat) (x2 : Int32) (x3 : Int32) (x4 : Int32) (x5 : Int32) : Option ((Int32 × Int32 × Int32 × Hp) ⊕ Int32 × Hp) :=
  if x5 = 0 then
    (some (.inl ((x2 ||| 0), x3, (x4 + 1), h)))
  else
    (if (h 1076 75) = 0 then
      (w_gd (w_ix x4 40) <|
      (p_212 h (h 1127 x4.toNatClampNeg)).bind fun v17 =>
      w_gd ((if v17.1 = 0 then true else w_ix x4 40)) <|
      some (.inl ((x2 ||| (if v17.1 = 0 then 0 else (v_162 (v17.2 1127 x4.toNatClampNeg)))), x3, (x4 + 1), v17.2)))
    else
      (some (.inl ((x2 ||| 0), x3, (x4 + 1), h))))
theorem q_213_64_ok {X : List Int32} {o : kO}  {h : Hp} {q1 : Nat} {x2 : Int32} {x3 : Int32} {x4 : Int32} {x5 : Int32} (t1 : w_tab[q1]? = some (50, (w_len q1), [])) {r : (Int32 × Int32 × Int32 × Hp) ⊕ Int32 × Hp} (hF : q_213_64 h q1 x2 x3 x4 x5 = some r) (hK : ∀ s' : Int32 × Int32 × Int32 × Hp, r = .inl s' → ∀ (u5 : Value) (u6 : Value) (u7 : Value) (u8 : Value), k_Go X 6 213 (6, [.ref (1076 + 1), .ref (q1 + 1), .int (s'.1), .int (s'.2.1), .int (s'.2.2.1), u5, u6, u7, u8], []) s'.2.2.2 o) (hX0 : ∀ e : Int32 × Hp, r = .inr e → ∀ (u3 : Value) (u4 : Value) (u5 : Value) (u6 : Value) (u7 : Value) (u8 : Value), k_Go X 6 213 (88, [.ref (1076 + 1), .ref (q1 + 1), .int e.1, u3, u4, u5, u6, u7, u8], []) e.2 o) : ∀ (u6 : Value) (u7 : Value) (u8 : Value), k_Go X 6 213 (64, [.ref (1076 + 1), .ref (q1 + 1), .int x2, .int x3, .int x4, .int x5, u6, u7, u8], []) h o := by
  intro u6 u7 u8
  unfold q_213_64 at hF
  refine kg_iload hk_213 rfl rfl rfl ?_
  refine kg_iload hk_213 rfl rfl rfl ?_
  refine wf_if hF (fun c14 hF => ?_) (fun c14 hF => ?_)
  · refine kg_ifT hk_213 rfl (jc_T0 c14) ?_
    refine kg_push (x := 0) hk_213 rfl (by decide) rfl ?_
    refine kg_bin (z := (x2 ||| 0)) hk_213 rfl rfl rfl ?_
    refine kg_istore (L2 := [.ref (1076 + 1), .ref (q1 + 1), .int (x2 ||| 0), .int x3, .int x4, .int x5, u6, u7, u8]) hk_213 rfl (Nat.le_of_ble_eq_true rfl) rfl rfl ?_
    refine kg_iinc (y := (x4 + 1)) (L2 := [.ref (1076 + 1), .ref (q1 + 1), .int (x2 ||| 0), .int x3, .int (x4 + 1), .int x5, u6, u7, u8]) hk_213 rfl rfl rfl rfl rfl ?_
    refine kg_goto hk_213 rfl ?_
    have hF := Option.some.inj hF
    exact hK _ hF.symm _ _ _ _
  · refine kg_ifF hk_213 rfl (jc_F0 c14) rfl ?_
    refine kg_aload hk_213 rfl rfl rfl ?_
    refine kg_get (v := .int (h 1076 75)) hk_213 rfl wk_1076_75 rfl rfl ?_
    refine wf_if hF (fun c15 hF => ?_) (fun c15 hF => ?_)
    · refine kg_ifF hk_213 rfl (jc_F1 c15) rfl ?_
      refine kg_aload hk_213 rfl rfl rfl ?_
      refine kg_aload hk_213 rfl rfl rfl ?_
      refine kg_get (v := .ref (1127 + 1)) hk_213 rfl wk_1076_65 rfl rfl ?_
      refine kg_iload hk_213 rfl rfl rfl ?_
      refine wf_gd hF (fun g16 hF => ?_)
      refine kg_ald (y := (h 1127 x4.toNatClampNeg)) hk_213 rfl wc_1127 g16 rfl rfl ?_
      refine wf_bind hF (fun v17 hv17 hF => ?_)
      refine kg_call (as := [.ref (1076 + 1), .int (h 1127 x4.toNatClampNeg)]) (rest := [.int x2]) hk_213 rfl (Or.inr (Or.inr (Or.inr ⟨Or.inl rfl, _, _, rfl, wc_1076⟩))) rfl rfl rfl (Nat.not_lt.mpr (Nat.le_of_ble_eq_true rfl)) (p_212_ok hv17) (by decide) rfl ?_
      refine wf_gd hF (fun g20 hF => ?_)
      refine kv_mid (p := 84) (L := [.ref (1076 + 1), .ref (q1 + 1), .int x2, .int x3, .int x4, .int x5, u6, u7, u8]) (S := [.int (if v17.1 = 0 then 0 else (v_162 (v17.2 1127 x4.toNatClampNeg))), .int x2]) ?_ (fun hK => ?_)
      · refine kg_bin (z := (x2 ||| (if v17.1 = 0 then 0 else (v_162 (v17.2 1127 x4.toNatClampNeg))))) hk_213 rfl rfl rfl ?_
        refine kg_istore (L2 := [.ref (1076 + 1), .ref (q1 + 1), .int (x2 ||| (if v17.1 = 0 then 0 else (v_162 (v17.2 1127 x4.toNatClampNeg)))), .int x3, .int x4, .int x5, u6, u7, u8]) hk_213 rfl (Nat.le_of_ble_eq_true rfl) rfl rfl ?_
        refine kg_iinc (y := (x4 + 1)) (L2 := [.ref (1076 + 1), .ref (q1 + 1), .int (x2 ||| (if v17.1 = 0 then 0 else (v_162 (v17.2 1127 x4.toNatClampNeg)))), .int x3, .int (x4 + 1), .int x5, u6, u7, u8]) hk_213 rfl rfl rfl rfl rfl ?_
        refine kg_goto hk_213 rfl ?_
        have hF := Option.some.inj hF
        exact hK _ hF.symm _ _ _ _
      · have hg := g20
        by_cases c18 : v17.1 = 0
        · have hK := kv_T c18 hK
          refine kg_ifT hk_213 rfl (jc_T0 c18) ?_
          refine kg_push (x := 0) hk_213 rfl (by decide) rfl ?_
          exact hK
        · have hg := wv_F c18 hg
          have hK := kv_F c18 hK
          have g19 := hg
          refine kg_ifF hk_213 rfl (jc_F0 c18) rfl ?_
          refine kg_aload hk_213 rfl rfl rfl ?_
          refine kg_get (v := .ref (1127 + 1)) hk_213 rfl wk_1076_65 rfl rfl ?_
          refine kg_iload hk_213 rfl rfl rfl ?_
          refine kg_ald (y := (v17.2 1127 x4.toNatClampNeg)) hk_213 rfl wc_1127 g19 rfl rfl ?_
          refine kg_call (as := [.int (v17.2 1127 x4.toNatClampNeg)]) (rest := [.int x2]) hk_213 rfl (Or.inl rfl) rfl rfl rfl (Nat.not_lt.mpr (Nat.le_of_ble_eq_true rfl)) (v_162_ok) (by decide) rfl ?_
          refine kg_goto hk_213 rfl ?_
          exact hK
    · refine kg_ifT hk_213 rfl (jc_T1 c15) ?_
      refine kg_push (x := 0) hk_213 rfl (by decide) rfl ?_
      refine kg_bin (z := (x2 ||| 0)) hk_213 rfl rfl rfl ?_
      refine kg_istore (L2 := [.ref (1076 + 1), .ref (q1 + 1), .int (x2 ||| 0), .int x3, .int x4, .int x5, u6, u7, u8]) hk_213 rfl (Nat.le_of_ble_eq_true rfl) rfl rfl ?_
      refine kg_iinc (y := (x4 + 1)) (L2 := [.ref (1076 + 1), .ref (q1 + 1), .int (x2 ||| 0), .int x3, .int (x4 + 1), .int x5, u6, u7, u8]) hk_213 rfl rfl rfl rfl rfl ?_
      refine kg_goto hk_213 rfl ?_
      have hF := Option.some.inj hF
      exact hK _ hF.symm _ _ _ _
def q_213_48 (h : Hp) (q1 : Nat) (x2 : Int32) (x3 : Int32) (x4 : Int32) (s0 : Int32) : Option ((Int32 × Int32 × Int32 × Hp) ⊕ Int32 × Hp) :=
  if s0 = 0 then
    (q_213_64 h q1 x2 x3 x4 s0)
  else
    (w_gd (w_ix x4 40) <|
    (p_194 h (h 1076 77) (h 1127 x4.toNatClampNeg)).bind fun v22 =>
    if v22.1 = 0 then
      ((p_195 v22.2 1 x3).bind fun v24 =>
      q_213_64 v24 q1 x2 x3 x4 s0)
    else
      (q_213_64 v22.2 q1 x2 x3 x4 s0))
theorem q_213_48_ok {X : List Int32} {o : kO}  {h : Hp} {q1 : Nat} {s0 : Int32} {x2 : Int32} {x3 : Int32} {x4 : Int32} (t1 : w_tab[q1]? = some (50, (w_len q1), [])) {r : (Int32 × Int32 × Int32 × Hp) ⊕ Int32 × Hp} (hF : q_213_48 h q1 x2 x3 x4 s0 = some r) (hK : ∀ s' : Int32 × Int32 × Int32 × Hp, r = .inl s' → ∀ (u5 : Value) (u6 : Value) (u7 : Value) (u8 : Value), k_Go X 6 213 (6, [.ref (1076 + 1), .ref (q1 + 1), .int (s'.1), .int (s'.2.1), .int (s'.2.2.1), u5, u6, u7, u8], []) s'.2.2.2 o) (hX0 : ∀ e : Int32 × Hp, r = .inr e → ∀ (u3 : Value) (u4 : Value) (u5 : Value) (u6 : Value) (u7 : Value) (u8 : Value), k_Go X 6 213 (88, [.ref (1076 + 1), .ref (q1 + 1), .int e.1, u3, u4, u5, u6, u7, u8], []) e.2 o) : ∀ (u5 : Value) (u6 : Value) (u7 : Value) (u8 : Value), k_Go X 6 213 (48, [.ref (1076 + 1), .ref (q1 + 1), .int x2, .int x3, .int x4, u5, u6, u7, u8], [.int s0]) h o := by
  intro u5 u6 u7 u8
  unfold q_213_48 at hF
  refine kg_istore (L2 := [.ref (1076 + 1), .ref (q1 + 1), .int x2, .int x3, .int x4, .int s0, u6, u7, u8]) hk_213 rfl (Nat.le_of_ble_eq_true rfl) rfl rfl ?_
  refine kg_iload hk_213 rfl rfl rfl ?_
  refine wf_if hF (fun c13 hF => ?_) (fun c13 hF => ?_)
  · refine kg_ifT hk_213 rfl (jc_T0 c13) ?_
    exact q_213_64_ok t1 hF hK hX0 _ _ _
  · refine kg_ifF hk_213 rfl (jc_F0 c13) rfl ?_
    refine kg_aload hk_213 rfl rfl rfl ?_
    refine kg_aload hk_213 rfl rfl rfl ?_
    refine kg_get (v := .int (h 1076 77)) hk_213 rfl wk_1076_77 rfl rfl ?_
    refine kg_aload hk_213 rfl rfl rfl ?_
    refine kg_get (v := .ref (1127 + 1)) hk_213 rfl wk_1076_65 rfl rfl ?_
    refine kg_iload hk_213 rfl rfl rfl ?_
    refine wf_gd hF (fun g21 hF => ?_)
    refine kg_ald (y := (h 1127 x4.toNatClampNeg)) hk_213 rfl wc_1127 g21 rfl rfl ?_
    refine wf_bind hF (fun v22 hv22 hF => ?_)
    refine kg_call (as := [.ref (1076 + 1), .int (h 1076 77), .int (h 1127 x4.toNatClampNeg)]) (rest := []) hk_213 rfl (Or.inr (Or.inr (Or.inr ⟨Or.inl rfl, _, _, rfl, wc_1076⟩))) rfl rfl rfl (Nat.not_lt.mpr (Nat.le_of_ble_eq_true rfl)) (p_194_ok hv22) (by decide) rfl ?_
    refine wf_if hF (fun c23 hF => ?_) (fun c23 hF => ?_)
    · refine kg_ifF hk_213 rfl (jc_F1 c23) rfl ?_
      refine kg_aload hk_213 rfl rfl rfl ?_
      refine kg_push (x := 1) hk_213 rfl (by decide) rfl ?_
      refine kg_iload hk_213 rfl rfl rfl ?_
      refine wf_bind hF (fun v24 hv24 hF => ?_)
      refine kg_call (as := [.ref (1076 + 1), .int 1, .int x3]) (rest := []) hk_213 rfl (Or.inr (Or.inr (Or.inr ⟨Or.inl rfl, _, _, rfl, wc_1076⟩))) rfl rfl rfl (Nat.not_lt.mpr (Nat.le_of_ble_eq_true rfl)) (p_195_ok hv24) (by decide) rfl ?_
      exact q_213_64_ok t1 hF hK hX0 _ _ _
    · refine kg_ifT hk_213 rfl (jc_T1 c23) ?_
      exact q_213_64_ok t1 hF hK hX0 _ _ _
def q_213_26 (h : Hp) (q1 : Nat) (x2 : Int32) (x4 : Int32) (s0 : Int32) : Option ((Int32 × Int32 × Int32 × Hp) ⊕ Int32 × Hp) :=
  w_gd (w_ix x4 40) <|
  w_gd ((if (v_148 (h 1127 x4.toNatClampNeg)) = 0 then true else (w_ix (h 1076 77) 16) && (w_ix x4 40))) <|
  q_213_48 h q1 x2 s0 x4 (if (v_148 (h 1127 x4.toNatClampNeg)) = 0 then 0 else (if ((h 1083 (h 1076 77).toNatClampNeg) &&& (v_162 (h 1127 x4.toNatClampNeg))) = 0 then 1 else 0))
theorem q_213_26_ok {X : List Int32} {o : kO}  {h : Hp} {q1 : Nat} {s0 : Int32} {x2 : Int32} {x4 : Int32} (t1 : w_tab[q1]? = some (50, (w_len q1), [])) {r : (Int32 × Int32 × Int32 × Hp) ⊕ Int32 × Hp} (hF : q_213_26 h q1 x2 x4 s0 = some r) (hK : ∀ s' : Int32 × Int32 × Int32 × Hp, r = .inl s' → ∀ (u5 : Value) (u6 : Value) (u7 : Value) (u8 : Value), k_Go X 6 213 (6, [.ref (1076 + 1), .ref (q1 + 1), .int (s'.1), .int (s'.2.1), .int (s'.2.2.1), u5, u6, u7, u8], []) s'.2.2.2 o) (hX0 : ∀ e : Int32 × Hp, r = .inr e → ∀ (u3 : Value) (u4 : Value) (u5 : Value) (u6 : Value) (u7 : Value) (u8 : Value), k_Go X 6 213 (88, [.ref (1076 + 1), .ref (q1 + 1), .int e.1, u3, u4, u5, u6, u7, u8], []) e.2 o) : ∀ (u3 : Value) (u5 : Value) (u6 : Value) (u7 : Value) (u8 : Value), k_Go X 6 213 (26, [.ref (1076 + 1), .ref (q1 + 1), .int x2, u3, .int x4, u5, u6, u7, u8], [.int s0]) h o := by
  intro u3 u5 u6 u7 u8
  unfold q_213_26 at hF
  refine kg_istore (L2 := [.ref (1076 + 1), .ref (q1 + 1), .int x2, .int s0, .int x4, u5, u6, u7, u8]) hk_213 rfl (Nat.le_of_ble_eq_true rfl) rfl rfl ?_
  refine kg_aload hk_213 rfl rfl rfl ?_
  refine kg_get (v := .ref (1127 + 1)) hk_213 rfl wk_1076_65 rfl rfl ?_
  refine kg_iload hk_213 rfl rfl rfl ?_
  refine wf_gd hF (fun g7 hF => ?_)
  refine kg_ald (y := (h 1127 x4.toNatClampNeg)) hk_213 rfl wc_1127 g7 rfl rfl ?_
  refine kg_call (as := [.int (h 1127 x4.toNatClampNeg)]) (rest := []) hk_213 rfl (Or.inl rfl) rfl rfl rfl (Nat.not_lt.mpr (Nat.le_of_ble_eq_true rfl)) (v_148_ok) (by decide) rfl ?_
  refine wf_gd hF (fun g12 hF => ?_)
  refine kv_mid (p := 48) (L := [.ref (1076 + 1), .ref (q1 + 1), .int x2, .int s0, .int x4, u5, u6, u7, u8]) (S := [.int (if (v_148 (h 1127 x4.toNatClampNeg)) = 0 then 0 else (if ((h 1083 (h 1076 77).toNatClampNeg) &&& (v_162 (h 1127 x4.toNatClampNeg))) = 0 then 1 else 0))]) ?_ (fun hK => ?_)
  · exact q_213_48_ok t1 hF hK hX0 _ _ _ _
  · have hg := g12
    by_cases c8 : (v_148 (h 1127 x4.toNatClampNeg)) = 0
    · have hK := kv_T c8 hK
      refine kg_ifT hk_213 rfl (jc_T0 c8) ?_
      refine kg_push (x := 0) hk_213 rfl (by decide) rfl ?_
      exact hK
    · have hg := wv_F c8 hg
      have hK := kv_F c8 hK
      have g9 := wb_1 hg
      have hg := wb_2 hg
      have g10 := hg
      refine kg_ifF hk_213 rfl (jc_F0 c8) rfl ?_
      refine kg_aload hk_213 rfl rfl rfl ?_
      refine kg_get (v := .ref (1083 + 1)) hk_213 rfl wk_1076_7 rfl rfl ?_
      refine kg_aload hk_213 rfl rfl rfl ?_
      refine kg_get (v := .int (h 1076 77)) hk_213 rfl wk_1076_77 rfl rfl ?_
      refine kg_ald (y := (h 1083 (h 1076 77).toNatClampNeg)) hk_213 rfl wc_1083 g9 rfl rfl ?_
      refine kg_aload hk_213 rfl rfl rfl ?_
      refine kg_get (v := .ref (1127 + 1)) hk_213 rfl wk_1076_65 rfl rfl ?_
      refine kg_iload hk_213 rfl rfl rfl ?_
      refine kg_ald (y := (h 1127 x4.toNatClampNeg)) hk_213 rfl wc_1127 g10 rfl rfl ?_
      refine kg_call (as := [.int (h 1127 x4.toNatClampNeg)]) (rest := [.int (h 1083 (h 1076 77).toNatClampNeg)]) hk_213 rfl (Or.inl rfl) rfl rfl rfl (Nat.not_lt.mpr (Nat.le_of_ble_eq_true rfl)) (v_162_ok) (by decide) rfl ?_
      refine kg_bin (z := ((h 1083 (h 1076 77).toNatClampNeg) &&& (v_162 (h 1127 x4.toNatClampNeg)))) hk_213 rfl rfl rfl ?_
      by_cases c11 : ((h 1083 (h 1076 77).toNatClampNeg) &&& (v_162 (h 1127 x4.toNatClampNeg))) = 0
      · have hK := kv_T c11 hK
        refine kg_ifF hk_213 rfl (jc_F1 c11) rfl ?_
        refine kg_push (x := 1) hk_213 rfl (by decide) rfl ?_
        refine kg_goto hk_213 rfl ?_
        exact hK
      · have hK := kv_F c11 hK
        refine kg_ifT hk_213 rfl (jc_T1 c11) ?_
        refine kg_push (x := 0) hk_213 rfl (by decide) rfl ?_
        exact hK
def l_213_6 (x2 : Int32) (x3 : Int32) (x4 : Int32) (h : Hp) : Option ((Int32 × Int32 × Int32 × Hp) ⊕ Int32 × Hp) :=
  if x4 < (h 1076 66) then
    (if (h 1076 75) = 0 then
      (w_gd ((if x4 = 0 then true else w_ix (x4 - 1) 40)) <|
      q_213_26 h q1 x2 x4 (if x4 = 0 then x4 else (if (h 1127 (x4 - 1).toNatClampNeg) = 59 then x4 else x3)))
    else
      (some (.inr (x2, h))))
  else
    (some (.inr (x2, h)))
theorem l_213_6_st {X : List Int32} {o : kO}  {h : Hp} {q1 : Nat} {x2 : Int32} {x3 : Int32} {x4 : Int32} (t1 : w_tab[q1]? = some (50, (w_len q1), [])) {r : (Int32 × Int32 × Int32 × Hp) ⊕ Int32 × Hp} (hF : l_213_6 x2 x3 x4 h = some r) (hK : ∀ s' : Int32 × Int32 × Int32 × Hp, r = .inl s' → ∀ (u5 : Value) (u6 : Value) (u7 : Value) (u8 : Value), k_Go X 6 213 (6, [.ref (1076 + 1), .ref (q1 + 1), .int (s'.1), .int (s'.2.1), .int (s'.2.2.1), u5, u6, u7, u8], []) s'.2.2.2 o) (hX0 : ∀ e : Int32 × Hp, r = .inr e → ∀ (u3 : Value) (u4 : Value) (u5 : Value) (u6 : Value) (u7 : Value) (u8 : Value), k_Go X 6 213 (88, [.ref (1076 + 1), .ref (q1 + 1), .int e.1, u3, u4, u5, u6, u7, u8], []) e.2 o) : ∀ (u5 : Value) (u6 : Value) (u7 : Value) (u8 : Value), k_Go X 6 213 (6, [.ref (1076 + 1), .ref (q1 + 1), .int x2, .int x3, .int x4, u5, u6, u7, u8], []) h o := by
  intro u5 u6 u7 u8
  refine kg_iload hk_213 rfl rfl rfl ?_
  refine kg_aload hk_213 rfl rfl rfl ?_
  refine kg_get (v := .int (h 1076 66)) hk_213 rfl wk_1076_66 rfl rfl ?_
  refine wf_if hF (fun c1 hF => ?_) (fun c1 hF => ?_)
  · refine kg_icF hk_213 rfl (jc_F3 c1) rfl ?_
    refine kg_aload hk_213 rfl rfl rfl ?_
    refine kg_get (v := .int (h 1076 75)) hk_213 rfl wk_1076_75 rfl rfl ?_
    refine wf_if hF (fun c2 hF => ?_) (fun c2 hF => ?_)
    · refine kg_ifF hk_213 rfl (jc_F1 c2) rfl ?_
      refine kg_iload hk_213 rfl rfl rfl ?_
      refine wf_gd hF (fun g6 hF => ?_)
      refine kv_mid (p := 26) (L := [.ref (1076 + 1), .ref (q1 + 1), .int x2, .int x3, .int x4, u5, u6, u7, u8]) (S := [.int (if x4 = 0 then x4 else (if (h 1127 (x4 - 1).toNatClampNeg) = 59 then x4 else x3))]) ?_ (fun hK => ?_)
      · exact q_213_26_ok t1 hF hK hX0 _ _ _ _ _
      · have hg := g6
        by_cases c3 : x4 = 0
        · have hK := kv_T c3 hK
          refine kg_ifT hk_213 rfl (jc_T0 c3) ?_
          refine kg_iload hk_213 rfl rfl rfl ?_
          refine kg_goto hk_213 rfl ?_
          exact hK
        · have hg := wv_F c3 hg
          have hK := kv_F c3 hK
          have g4 := hg
          refine kg_ifF hk_213 rfl (jc_F0 c3) rfl ?_
          refine kg_aload hk_213 rfl rfl rfl ?_
          refine kg_get (v := .ref (1127 + 1)) hk_213 rfl wk_1076_65 rfl rfl ?_
          refine kg_iload hk_213 rfl rfl rfl ?_
          refine kg_push (x := 1) hk_213 rfl (by decide) rfl ?_
          refine kg_bin (z := (x4 - 1)) hk_213 rfl rfl rfl ?_
          refine kg_ald (y := (h 1127 (x4 - 1).toNatClampNeg)) hk_213 rfl wc_1127 g4 rfl rfl ?_
          refine kg_push (x := 59) hk_213 rfl (by decide) rfl ?_
          by_cases c5 : (h 1127 (x4 - 1).toNatClampNeg) = 59
          · have hK := kv_T c5 hK
            refine kg_icF hk_213 rfl (jc_F1 c5) rfl ?_
            refine kg_iload hk_213 rfl rfl rfl ?_
            refine kg_goto hk_213 rfl ?_
            exact hK
          · have hK := kv_F c5 hK
            refine kg_icT hk_213 rfl (jc_T1 c5) ?_
            refine kg_iload hk_213 rfl rfl rfl ?_
            exact hK
    · refine kg_ifT hk_213 rfl (jc_T1 c2) ?_
      have hF := Option.some.inj hF
      exact hX0 _ hF.symm _ _ _ _ _ _
  · refine kg_icT hk_213 rfl (jc_T3 c1) ?_
    have hF := Option.some.inj hF
    exact hX0 _ hF.symm _ _ _ _ _ _
theorem l_213_6_ok {X : List Int32} {o : kO}  {q1 : Nat} (t1 : w_tab[q1]? = some (50, (w_len q1), [])) {n : Nat} {s : Int32 × Int32 × Int32 × Hp} {e : Int32 × Hp} (hF : w_lp (fun (s : Int32 × Int32 × Int32 × Hp) => l_213_6 s.1 s.2.1 s.2.2.1 s.2.2.2) n s = some e) (hX0 : ∀ (u3 : Value) (u4 : Value) (u5 : Value) (u6 : Value) (u7 : Value) (u8 : Value), k_Go X 6 213 (88, [.ref (1076 + 1), .ref (q1 + 1), .int e.1, u3, u4, u5, u6, u7, u8], []) e.2 o) : ∀ (u5 : Value) (u6 : Value) (u7 : Value) (u8 : Value), k_Go X 6 213 (6, [.ref (1076 + 1), .ref (q1 + 1), .int s.1, .int s.2.1, .int s.2.2.1, u5, u6, u7, u8], []) s.2.2.2 o := by
  exact w_lp_ok (P := (fun (s : Int32 × Int32 × Int32 × Hp) => ∀ (u5 : Value) (u6 : Value) (u7 : Value) (u8 : Value), k_Go X 6 213 (6, [.ref (1076 + 1), .ref (q1 + 1), .int s.1, .int s.2.1, .int s.2.2.1, u5, u6, u7, u8], []) s.2.2.2 o)) (Q := (fun (e : Int32 × Hp) => (∀ (u3 : Value) (u4 : Value) (u5 : Value) (u6 : Value) (u7 : Value) (u8 : Value), k_Go X 6 213 (88, [.ref (1076 + 1), .ref (q1 + 1), .int e.1, u3, u4, u5, u6, u7, u8], []) e.2 o))) (fun s r hF hK hX => l_213_6_st t1 hF hK (fun x hx => (hX _ hx))) n s e hF hX0
def q_213_149 (h : Hp) (q1 : Nat) (x2 : Int32) (x4 : Int32) (x7 : Int32) : Option ((Int32 × Int32 × Int32 × Int32 × Int32) ⊕ Int32 × Int32) :=
  w_gd (w_ix x7 40) <|
  some (.inl (x2, x4, (v_162 (h 1127 x7.toNatClampNeg)), 1, (x7 + 1)))
theorem q_213_149_ok {X : List Int32} {o : kO}  {h : Hp} {q1 : Nat} {x2 : Int32} {x4 : Int32} {x7 : Int32} (t1 : w_tab[q1]? = some (50, (w_len q1), [])) {r : (Int32 × Int32 × Int32 × Int32 × Int32) ⊕ Int32 × Int32} (hF : q_213_149 h q1 x2 x4 x7 = some r) (hK : ∀ s' : Int32 × Int32 × Int32 × Int32 × Int32, r = .inl s' → ∀ (u3 : Value) (u8 : Value), k_Go X 6 213 (105, [.ref (1076 + 1), .ref (q1 + 1), .int (s'.1), u3, .int (s'.2.1), .int (s'.2.2.1), .int (s'.2.2.2.1), .int (s'.2.2.2.2), u8], []) h o) (hX0 : ∀ e : Int32 × Int32, r = .inr e → ∀ (u3 : Value) (u5 : Value) (u6 : Value) (u7 : Value) (u8 : Value), k_Go X 6 213 (182, [.ref (1076 + 1), .ref (q1 + 1), .int e.1, u3, .int e.2, u5, u6, u7, u8], []) h o) : ∀ (u3 : Value) (u5 : Value) (u6 : Value) (u8 : Value), k_Go X 6 213 (149, [.ref (1076 + 1), .ref (q1 + 1), .int x2, u3, .int x4, u5, u6, .int x7, u8], []) h o := by
  intro u3 u5 u6 u8
  unfold q_213_149 at hF
  refine kg_aload hk_213 rfl rfl rfl ?_
  refine kg_get (v := .ref (1127 + 1)) hk_213 rfl wk_1076_65 rfl rfl ?_
  refine kg_iload hk_213 rfl rfl rfl ?_
  refine wf_gd hF (fun g36 hF => ?_)
  refine kg_ald (y := (h 1127 x7.toNatClampNeg)) hk_213 rfl wc_1127 g36 rfl rfl ?_
  refine kg_call (as := [.int (h 1127 x7.toNatClampNeg)]) (rest := []) hk_213 rfl (Or.inl rfl) rfl rfl rfl (Nat.not_lt.mpr (Nat.le_of_ble_eq_true rfl)) (v_162_ok) (by decide) rfl ?_
  refine kg_istore (L2 := [.ref (1076 + 1), .ref (q1 + 1), .int x2, u3, .int x4, .int (v_162 (h 1127 x7.toNatClampNeg)), u6, .int x7, u8]) hk_213 rfl (Nat.le_of_ble_eq_true rfl) rfl rfl ?_
  refine kg_push (x := 1) hk_213 rfl (by decide) rfl ?_
  refine kg_istore (L2 := [.ref (1076 + 1), .ref (q1 + 1), .int x2, u3, .int x4, .int (v_162 (h 1127 x7.toNatClampNeg)), .int 1, .int x7, u8]) hk_213 rfl (Nat.le_of_ble_eq_true rfl) rfl rfl ?_
  refine kg_goto hk_213 rfl ?_
  refine kg_iinc (y := (x7 + 1)) (L2 := [.ref (1076 + 1), .ref (q1 + 1), .int x2, u3, .int x4, .int (v_162 (h 1127 x7.toNatClampNeg)), .int 1, .int (x7 + 1), u8]) hk_213 rfl rfl rfl rfl rfl ?_
  refine kg_goto hk_213 rfl ?_
  have hF := Option.some.inj hF
  exact hK _ hF.symm _ _
def q_213_158 (h : Hp) (q1 : Nat) (x2 : Int32) (x4 : Int32) (x5 : Int32) (x6 : Int32) (x7 : Int32) (x8 : Int32) : Option ((Int32 × Int32 × Int32 × Int32 × Int32) ⊕ Int32 × Int32) :=
  if x8 = 0 then
    (w_gd (w_ix x7 40) <|
    if (v_148 (h 1127 x7.toNatClampNeg)) = 0 then
      (some (.inl (x2, x4, x5, x6, (x7 + 1))))
    else
      (w_gd ((if x6 = 0 then true else w_ix x7 40)) <|
      some (.inl (x2, x4, x5, (if x6 = 0 then 0 else (if (x2 &&& (v_162 (h 1127 x7.toNatClampNeg))) = 0 then 0 else 1)), (x7 + 1)))))
  else
    (some (.inl (x2, x4, x5, x6, (x7 + 1))))
theorem q_213_158_ok {X : List Int32} {o : kO}  {h : Hp} {q1 : Nat} {x2 : Int32} {x4 : Int32} {x5 : Int32} {x6 : Int32} {x7 : Int32} {x8 : Int32} (t1 : w_tab[q1]? = some (50, (w_len q1), [])) {r : (Int32 × Int32 × Int32 × Int32 × Int32) ⊕ Int32 × Int32} (hF : q_213_158 h q1 x2 x4 x5 x6 x7 x8 = some r) (hK : ∀ s' : Int32 × Int32 × Int32 × Int32 × Int32, r = .inl s' → ∀ (u3 : Value) (u8 : Value), k_Go X 6 213 (105, [.ref (1076 + 1), .ref (q1 + 1), .int (s'.1), u3, .int (s'.2.1), .int (s'.2.2.1), .int (s'.2.2.2.1), .int (s'.2.2.2.2), u8], []) h o) (hX0 : ∀ e : Int32 × Int32, r = .inr e → ∀ (u3 : Value) (u5 : Value) (u6 : Value) (u7 : Value) (u8 : Value), k_Go X 6 213 (182, [.ref (1076 + 1), .ref (q1 + 1), .int e.1, u3, .int e.2, u5, u6, u7, u8], []) h o) : ∀ (u3 : Value), k_Go X 6 213 (158, [.ref (1076 + 1), .ref (q1 + 1), .int x2, u3, .int x4, .int x5, .int x6, .int x7, .int x8], []) h o := by
  intro u3
  unfold q_213_158 at hF
  refine kg_iload hk_213 rfl rfl rfl ?_
  refine wf_if hF (fun c39 hF => ?_) (fun c39 hF => ?_)
  · refine kg_ifF hk_213 rfl (jc_F1 c39) rfl ?_
    refine kg_aload hk_213 rfl rfl rfl ?_
    refine kg_get (v := .ref (1127 + 1)) hk_213 rfl wk_1076_65 rfl rfl ?_
    refine kg_iload hk_213 rfl rfl rfl ?_
    refine wf_gd hF (fun g40 hF => ?_)
    refine kg_ald (y := (h 1127 x7.toNatClampNeg)) hk_213 rfl wc_1127 g40 rfl rfl ?_
    refine kg_call (as := [.int (h 1127 x7.toNatClampNeg)]) (rest := []) hk_213 rfl (Or.inl rfl) rfl rfl rfl (Nat.not_lt.mpr (Nat.le_of_ble_eq_true rfl)) (v_148_ok) (by decide) rfl ?_
    refine wf_if hF (fun c41 hF => ?_) (fun c41 hF => ?_)
    · refine kg_ifT hk_213 rfl (jc_T0 c41) ?_
      refine kg_iinc (y := (x7 + 1)) (L2 := [.ref (1076 + 1), .ref (q1 + 1), .int x2, u3, .int x4, .int x5, .int x6, .int (x7 + 1), .int x8]) hk_213 rfl rfl rfl rfl rfl ?_
      refine kg_goto hk_213 rfl ?_
      have hF := Option.some.inj hF
      exact hK _ hF.symm _ _
    · refine kg_ifF hk_213 rfl (jc_F0 c41) rfl ?_
      refine kg_iload hk_213 rfl rfl rfl ?_
      refine wf_gd hF (fun g45 hF => ?_)
      refine kv_mid (p := 179) (L := [.ref (1076 + 1), .ref (q1 + 1), .int x2, u3, .int x4, .int x5, .int x6, .int x7, .int x8]) (S := [.int (if x6 = 0 then 0 else (if (x2 &&& (v_162 (h 1127 x7.toNatClampNeg))) = 0 then 0 else 1))]) ?_ (fun hK => ?_)
      · refine kg_istore (L2 := [.ref (1076 + 1), .ref (q1 + 1), .int x2, u3, .int x4, .int x5, .int (if x6 = 0 then 0 else (if (x2 &&& (v_162 (h 1127 x7.toNatClampNeg))) = 0 then 0 else 1)), .int x7, .int x8]) hk_213 rfl (Nat.le_of_ble_eq_true rfl) rfl rfl ?_
        refine kg_iinc (y := (x7 + 1)) (L2 := [.ref (1076 + 1), .ref (q1 + 1), .int x2, u3, .int x4, .int x5, .int (if x6 = 0 then 0 else (if (x2 &&& (v_162 (h 1127 x7.toNatClampNeg))) = 0 then 0 else 1)), .int (x7 + 1), .int x8]) hk_213 rfl rfl rfl rfl rfl ?_
        refine kg_goto hk_213 rfl ?_
        have hF := Option.some.inj hF
        exact hK _ hF.symm _ _
      · have hg := g45
        by_cases c42 : x6 = 0
        · have hK := kv_T c42 hK
          refine kg_ifT hk_213 rfl (jc_T0 c42) ?_
          refine kg_push (x := 0) hk_213 rfl (by decide) rfl ?_
          exact hK
        · have hg := wv_F c42 hg
          have hK := kv_F c42 hK
          have g43 := hg
          refine kg_ifF hk_213 rfl (jc_F0 c42) rfl ?_
          refine kg_iload hk_213 rfl rfl rfl ?_
          refine kg_aload hk_213 rfl rfl rfl ?_
          refine kg_get (v := .ref (1127 + 1)) hk_213 rfl wk_1076_65 rfl rfl ?_
          refine kg_iload hk_213 rfl rfl rfl ?_
          refine kg_ald (y := (h 1127 x7.toNatClampNeg)) hk_213 rfl wc_1127 g43 rfl rfl ?_
          refine kg_call (as := [.int (h 1127 x7.toNatClampNeg)]) (rest := [.int x2]) hk_213 rfl (Or.inl rfl) rfl rfl rfl (Nat.not_lt.mpr (Nat.le_of_ble_eq_true rfl)) (v_162_ok) (by decide) rfl ?_
          refine kg_bin (z := (x2 &&& (v_162 (h 1127 x7.toNatClampNeg)))) hk_213 rfl rfl rfl ?_
          by_cases c44 : (x2 &&& (v_162 (h 1127 x7.toNatClampNeg))) = 0
          · have hK := kv_T c44 hK
            refine kg_ifT hk_213 rfl (jc_T0 c44) ?_
            refine kg_push (x := 0) hk_213 rfl (by decide) rfl ?_
            exact hK
          · have hK := kv_F c44 hK
            refine kg_ifF hk_213 rfl (jc_F0 c44) rfl ?_
            refine kg_push (x := 1) hk_213 rfl (by decide) rfl ?_
            refine kg_goto hk_213 rfl ?_
            exact hK
  · refine kg_ifT hk_213 rfl (jc_T1 c39) ?_
    refine kg_iinc (y := (x7 + 1)) (L2 := [.ref (1076 + 1), .ref (q1 + 1), .int x2, u3, .int x4, .int x5, .int x6, .int (x7 + 1), .int x8]) hk_213 rfl rfl rfl rfl rfl ?_
    refine kg_goto hk_213 rfl ?_
    have hF := Option.some.inj hF
    exact hK _ hF.symm _ _
def q_213_137 (h : Hp) (q1 : Nat) (x2 : Int32) (x4 : Int32) (x5 : Int32) (x6 : Int32) (x7 : Int32) (x8 : Int32) : Option ((Int32 × Int32 × Int32 × Int32 × Int32) ⊕ Int32 × Int32) :=
  if x8 = 0 then
    (if x7 = 0 then
      (q_213_149 h q1 x2 x4 x7)
    else
      (w_gd (w_ix (x7 - 1) 40) <|
      if (h 1127 (x7 - 1).toNatClampNeg) = 59 then
        (q_213_149 h q1 x2 x4 x7)
      else
        (q_213_158 h q1 x2 x4 x5 x6 x7 x8)))
  else
    (q_213_158 h q1 x2 x4 x5 x6 x7 x8)
theorem q_213_137_ok {X : List Int32} {o : kO}  {h : Hp} {q1 : Nat} {x2 : Int32} {x4 : Int32} {x5 : Int32} {x6 : Int32} {x7 : Int32} {x8 : Int32} (t1 : w_tab[q1]? = some (50, (w_len q1), [])) {r : (Int32 × Int32 × Int32 × Int32 × Int32) ⊕ Int32 × Int32} (hF : q_213_137 h q1 x2 x4 x5 x6 x7 x8 = some r) (hK : ∀ s' : Int32 × Int32 × Int32 × Int32 × Int32, r = .inl s' → ∀ (u3 : Value) (u8 : Value), k_Go X 6 213 (105, [.ref (1076 + 1), .ref (q1 + 1), .int (s'.1), u3, .int (s'.2.1), .int (s'.2.2.1), .int (s'.2.2.2.1), .int (s'.2.2.2.2), u8], []) h o) (hX0 : ∀ e : Int32 × Int32, r = .inr e → ∀ (u3 : Value) (u5 : Value) (u6 : Value) (u7 : Value) (u8 : Value), k_Go X 6 213 (182, [.ref (1076 + 1), .ref (q1 + 1), .int e.1, u3, .int e.2, u5, u6, u7, u8], []) h o) : ∀ (u3 : Value), k_Go X 6 213 (137, [.ref (1076 + 1), .ref (q1 + 1), .int x2, u3, .int x4, .int x5, .int x6, .int x7, .int x8], []) h o := by
  intro u3
  unfold q_213_137 at hF
  refine kg_iload hk_213 rfl rfl rfl ?_
  refine wf_if hF (fun c34 hF => ?_) (fun c34 hF => ?_)
  · refine kg_ifF hk_213 rfl (jc_F1 c34) rfl ?_
    refine kg_iload hk_213 rfl rfl rfl ?_
    refine wf_if hF (fun c35 hF => ?_) (fun c35 hF => ?_)
    · refine kg_ifT hk_213 rfl (jc_T0 c35) ?_
      exact q_213_149_ok t1 hF hK hX0 _ _ _ _
    · refine kg_ifF hk_213 rfl (jc_F0 c35) rfl ?_
      refine kg_aload hk_213 rfl rfl rfl ?_
      refine kg_get (v := .ref (1127 + 1)) hk_213 rfl wk_1076_65 rfl rfl ?_
      refine kg_iload hk_213 rfl rfl rfl ?_
      refine kg_push (x := 1) hk_213 rfl (by decide) rfl ?_
      refine kg_bin (z := (x7 - 1)) hk_213 rfl rfl rfl ?_
      refine wf_gd hF (fun g37 hF => ?_)
      refine kg_ald (y := (h 1127 (x7 - 1).toNatClampNeg)) hk_213 rfl wc_1127 g37 rfl rfl ?_
      refine kg_push (x := 59) hk_213 rfl (by decide) rfl ?_
      refine wf_if hF (fun c38 hF => ?_) (fun c38 hF => ?_)
      · refine kg_icF hk_213 rfl (jc_F1 c38) rfl ?_
        exact q_213_149_ok t1 hF hK hX0 _ _ _ _
      · refine kg_icT hk_213 rfl (jc_T1 c38) ?_
        exact q_213_158_ok t1 hF hK hX0 _
  · refine kg_ifT hk_213 rfl (jc_T1 c34) ?_
    exact q_213_158_ok t1 hF hK hX0 _
def q_213_122 (h : Hp) (q1 : Nat) (x2 : Int32) (x4 : Int32) (x5 : Int32) (x6 : Int32) (x7 : Int32) (s0 : Int32) : Option ((Int32 × Int32 × Int32 × Int32 × Int32) ⊕ Int32 × Int32) :=
  if s0 = 0 then
    (q_213_137 h q1 x2 x4 x5 x6 x7 s0)
  else
    (if x6 = 0 then
      (q_213_137 h q1 x2 x4 x5 x6 x7 s0)
    else
      (if (x2 &&& x5) = 0 then
        (q_213_137 h q1 (x2 ||| x5) 1 x5 x6 x7 s0)
      else
        (q_213_137 h q1 x2 x4 x5 x6 x7 s0)))
theorem q_213_122_ok {X : List Int32} {o : kO}  {h : Hp} {q1 : Nat} {s0 : Int32} {x2 : Int32} {x4 : Int32} {x5 : Int32} {x6 : Int32} {x7 : Int32} (t1 : w_tab[q1]? = some (50, (w_len q1), [])) {r : (Int32 × Int32 × Int32 × Int32 × Int32) ⊕ Int32 × Int32} (hF : q_213_122 h q1 x2 x4 x5 x6 x7 s0 = some r) (hK : ∀ s' : Int32 × Int32 × Int32 × Int32 × Int32, r = .inl s' → ∀ (u3 : Value) (u8 : Value), k_Go X 6 213 (105, [.ref (1076 + 1), .ref (q1 + 1), .int (s'.1), u3, .int (s'.2.1), .int (s'.2.2.1), .int (s'.2.2.2.1), .int (s'.2.2.2.2), u8], []) h o) (hX0 : ∀ e : Int32 × Int32, r = .inr e → ∀ (u3 : Value) (u5 : Value) (u6 : Value) (u7 : Value) (u8 : Value), k_Go X 6 213 (182, [.ref (1076 + 1), .ref (q1 + 1), .int e.1, u3, .int e.2, u5, u6, u7, u8], []) h o) : ∀ (u3 : Value) (u8 : Value), k_Go X 6 213 (122, [.ref (1076 + 1), .ref (q1 + 1), .int x2, u3, .int x4, .int x5, .int x6, .int x7, u8], [.int s0]) h o := by
  intro u3 u8
  unfold q_213_122 at hF
  refine kg_istore (L2 := [.ref (1076 + 1), .ref (q1 + 1), .int x2, u3, .int x4, .int x5, .int x6, .int x7, .int s0]) hk_213 rfl (Nat.le_of_ble_eq_true rfl) rfl rfl ?_
  refine kg_iload hk_213 rfl rfl rfl ?_
  refine wf_if hF (fun c33 hF => ?_) (fun c33 hF => ?_)
  · refine kg_ifT hk_213 rfl (jc_T0 c33) ?_
    exact q_213_137_ok t1 hF hK hX0 _
  · refine kg_ifF hk_213 rfl (jc_F0 c33) rfl ?_
    refine kg_iload hk_213 rfl rfl rfl ?_
    refine wf_if hF (fun c46 hF => ?_) (fun c46 hF => ?_)
    · refine kg_ifT hk_213 rfl (jc_T0 c46) ?_
      exact q_213_137_ok t1 hF hK hX0 _
    · refine kg_ifF hk_213 rfl (jc_F0 c46) rfl ?_
      refine kg_iload hk_213 rfl rfl rfl ?_
      refine kg_iload hk_213 rfl rfl rfl ?_
      refine kg_bin (z := (x2 &&& x5)) hk_213 rfl rfl rfl ?_
      refine wf_if hF (fun c47 hF => ?_) (fun c47 hF => ?_)
      · refine kg_ifF hk_213 rfl (jc_F1 c47) rfl ?_
        refine kg_iload hk_213 rfl rfl rfl ?_
        refine kg_iload hk_213 rfl rfl rfl ?_
        refine kg_bin (z := (x2 ||| x5)) hk_213 rfl rfl rfl ?_
        refine kg_istore (L2 := [.ref (1076 + 1), .ref (q1 + 1), .int (x2 ||| x5), u3, .int x4, .int x5, .int x6, .int x7, .int s0]) hk_213 rfl (Nat.le_of_ble_eq_true rfl) rfl rfl ?_
        refine kg_push (x := 1) hk_213 rfl (by decide) rfl ?_
        refine kg_istore (L2 := [.ref (1076 + 1), .ref (q1 + 1), .int (x2 ||| x5), u3, .int 1, .int x5, .int x6, .int x7, .int s0]) hk_213 rfl (Nat.le_of_ble_eq_true rfl) rfl rfl ?_
        exact q_213_137_ok t1 hF hK hX0 _
      · refine kg_ifT hk_213 rfl (jc_T1 c47) ?_
        exact q_213_137_ok t1 hF hK hX0 _
def l_213_105 (h : Hp) (x2 : Int32) (x4 : Int32) (x5 : Int32) (x6 : Int32) (x7 : Int32) : Option ((Int32 × Int32 × Int32 × Int32 × Int32) ⊕ Int32 × Int32) :=
  if x7 ≤ (h 1076 66) then
    (w_gd ((if x7 = (h 1076 66) then true else w_ix x7 40)) <|
    q_213_122 h q1 x2 x4 x5 x6 x7 (if x7 = (h 1076 66) then 1 else (if (h 1127 x7.toNatClampNeg) = 59 then 1 else 0)))
  else
    (some (.inr (x2, x4)))
theorem l_213_105_st {X : List Int32} {o : kO}  {h : Hp} {q1 : Nat} {x2 : Int32} {x4 : Int32} {x5 : Int32} {x6 : Int32} {x7 : Int32} (t1 : w_tab[q1]? = some (50, (w_len q1), [])) {r : (Int32 × Int32 × Int32 × Int32 × Int32) ⊕ Int32 × Int32} (hF : l_213_105 h x2 x4 x5 x6 x7 = some r) (hK : ∀ s' : Int32 × Int32 × Int32 × Int32 × Int32, r = .inl s' → ∀ (u3 : Value) (u8 : Value), k_Go X 6 213 (105, [.ref (1076 + 1), .ref (q1 + 1), .int (s'.1), u3, .int (s'.2.1), .int (s'.2.2.1), .int (s'.2.2.2.1), .int (s'.2.2.2.2), u8], []) h o) (hX0 : ∀ e : Int32 × Int32, r = .inr e → ∀ (u3 : Value) (u5 : Value) (u6 : Value) (u7 : Value) (u8 : Value), k_Go X 6 213 (182, [.ref (1076 + 1), .ref (q1 + 1), .int e.1, u3, .int e.2, u5, u6, u7, u8], []) h o) : ∀ (u3 : Value) (u8 : Value), k_Go X 6 213 (105, [.ref (1076 + 1), .ref (q1 + 1), .int x2, u3, .int x4, .int x5, .int x6, .int x7, u8], []) h o := by
  intro u3 u8
  refine kg_iload hk_213 rfl rfl rfl ?_
  refine kg_aload hk_213 rfl rfl rfl ?_
  refine kg_get (v := .int (h 1076 66)) hk_213 rfl wk_1076_66 rfl rfl ?_
  refine wf_if hF (fun c28 hF => ?_) (fun c28 hF => ?_)
  · refine kg_icF hk_213 rfl (jc_F4 c28) rfl ?_
    refine kg_iload hk_213 rfl rfl rfl ?_
    refine kg_aload hk_213 rfl rfl rfl ?_
    refine kg_get (v := .int (h 1076 66)) hk_213 rfl wk_1076_66 rfl rfl ?_
    refine wf_gd hF (fun g32 hF => ?_)
    refine kv_mid (p := 122) (L := [.ref (1076 + 1), .ref (q1 + 1), .int x2, u3, .int x4, .int x5, .int x6, .int x7, u8]) (S := [.int (if x7 = (h 1076 66) then 1 else (if (h 1127 x7.toNatClampNeg) = 59 then 1 else 0))]) ?_ (fun hK => ?_)
    · exact q_213_122_ok t1 hF hK hX0 _ _
    · have hg := g32
      by_cases c29 : x7 = (h 1076 66)
      · have hK := kv_T c29 hK
        refine kg_icT hk_213 rfl (jc_T0 c29) ?_
        refine kg_push (x := 1) hk_213 rfl (by decide) rfl ?_
        refine kg_goto hk_213 rfl ?_
        exact hK
      · have hg := wv_F c29 hg
        have hK := kv_F c29 hK
        have g30 := hg
        refine kg_icF hk_213 rfl (jc_F0 c29) rfl ?_
        refine kg_aload hk_213 rfl rfl rfl ?_
        refine kg_get (v := .ref (1127 + 1)) hk_213 rfl wk_1076_65 rfl rfl ?_
        refine kg_iload hk_213 rfl rfl rfl ?_
        refine kg_ald (y := (h 1127 x7.toNatClampNeg)) hk_213 rfl wc_1127 g30 rfl rfl ?_
        refine kg_push (x := 59) hk_213 rfl (by decide) rfl ?_
        by_cases c31 : (h 1127 x7.toNatClampNeg) = 59
        · have hK := kv_T c31 hK
          refine kg_icF hk_213 rfl (jc_F1 c31) rfl ?_
          refine kg_push (x := 1) hk_213 rfl (by decide) rfl ?_
          refine kg_goto hk_213 rfl ?_
          exact hK
        · have hK := kv_F c31 hK
          refine kg_icT hk_213 rfl (jc_T1 c31) ?_
          refine kg_push (x := 0) hk_213 rfl (by decide) rfl ?_
          exact hK
  · refine kg_icT hk_213 rfl (jc_T4 c28) ?_
    have hF := Option.some.inj hF
    exact hX0 _ hF.symm _ _ _ _ _
theorem l_213_105_ok {X : List Int32} {o : kO}  {h : Hp} {q1 : Nat} (t1 : w_tab[q1]? = some (50, (w_len q1), [])) {n : Nat} {s : Int32 × Int32 × Int32 × Int32 × Int32} {e : Int32 × Int32} (hF : w_lp (fun (s : Int32 × Int32 × Int32 × Int32 × Int32) => l_213_105 h s.1 s.2.1 s.2.2.1 s.2.2.2.1 s.2.2.2.2) n s = some e) (hX0 : ∀ (u3 : Value) (u5 : Value) (u6 : Value) (u7 : Value) (u8 : Value), k_Go X 6 213 (182, [.ref (1076 + 1), .ref (q1 + 1), .int e.1, u3, .int e.2, u5, u6, u7, u8], []) h o) : ∀ (u3 : Value) (u8 : Value), k_Go X 6 213 (105, [.ref (1076 + 1), .ref (q1 + 1), .int s.1, u3, .int s.2.1, .int s.2.2.1, .int s.2.2.2.1, .int s.2.2.2.2, u8], []) h o := by
  exact w_lp_ok (P := (fun (s : Int32 × Int32 × Int32 × Int32 × Int32) => ∀ (u3 : Value) (u8 : Value), k_Go X 6 213 (105, [.ref (1076 + 1), .ref (q1 + 1), .int s.1, u3, .int s.2.1, .int s.2.2.1, .int s.2.2.2.1, .int s.2.2.2.2, u8], []) h o)) (Q := (fun (e : Int32 × Int32) => (∀ (u3 : Value) (u5 : Value) (u6 : Value) (u7 : Value) (u8 : Value), k_Go X 6 213 (182, [.ref (1076 + 1), .ref (q1 + 1), .int e.1, u3, .int e.2, u5, u6, u7, u8], []) h o))) (fun s r hF hK hX => l_213_105_st t1 hF hK (fun x hx => (hX _ hx))) n s e hF hX0
def l_213_95 (h : Hp) (x2 : Int32) (x4 : Int32) : Option ((Int32 × Int32) ⊕ Int32) :=
  if x4 = 0 then
    (some (.inr x2))
  else
    ((w_lp (fun (s : Int32 × Int32 × Int32 × Int32 × Int32) => l_213_105 h s.1 s.2.1 s.2.2.1 s.2.2.2.1 s.2.2.2.2) w_N (x2, 0, 0, 1, 0)).bind fun e48 =>
    some (.inl (e48.1, e48.2)))
theorem l_213_95_st {X : List Int32} {o : kO}  {h : Hp} {q1 : Nat} {x2 : Int32} {x4 : Int32} (t1 : w_tab[q1]? = some (50, (w_len q1), [])) {r : (Int32 × Int32) ⊕ Int32} (hF : l_213_95 h x2 x4 = some r) (hK : ∀ s' : Int32 × Int32, r = .inl s' → ∀ (u3 : Value) (u5 : Value) (u6 : Value) (u7 : Value) (u8 : Value), k_Go X 6 213 (95, [.ref (1076 + 1), .ref (q1 + 1), .int (s'.1), u3, .int (s'.2), u5, u6, u7, u8], []) h o) (hX0 : ∀ e : Int32, r = .inr e → ∀ (u3 : Value) (u4 : Value) (u5 : Value) (u6 : Value) (u7 : Value) (u8 : Value), k_Go X 6 213 (183, [.ref (1076 + 1), .ref (q1 + 1), .int e, u3, u4, u5, u6, u7, u8], []) h o) : ∀ (u3 : Value) (u5 : Value) (u6 : Value) (u7 : Value) (u8 : Value), k_Go X 6 213 (95, [.ref (1076 + 1), .ref (q1 + 1), .int x2, u3, .int x4, u5, u6, u7, u8], []) h o := by
  intro u3 u5 u6 u7 u8
  refine kg_iload hk_213 rfl rfl rfl ?_
  refine wf_if hF (fun c27 hF => ?_) (fun c27 hF => ?_)
  · refine kg_ifT hk_213 rfl (jc_T0 c27) ?_
    have hF := Option.some.inj hF
    exact hX0 _ hF.symm _ _ _ _ _ _
  · refine kg_ifF hk_213 rfl (jc_F0 c27) rfl ?_
    refine kg_push (x := 0) hk_213 rfl (by decide) rfl ?_
    refine kg_istore (L2 := [.ref (1076 + 1), .ref (q1 + 1), .int x2, u3, .int 0, u5, u6, u7, u8]) hk_213 rfl (Nat.le_of_ble_eq_true rfl) rfl rfl ?_
    refine kg_push (x := 0) hk_213 rfl (by decide) rfl ?_
    refine kg_istore (L2 := [.ref (1076 + 1), .ref (q1 + 1), .int x2, u3, .int 0, .int 0, u6, u7, u8]) hk_213 rfl (Nat.le_of_ble_eq_true rfl) rfl rfl ?_
    refine kg_push (x := 1) hk_213 rfl (by decide) rfl ?_
    refine kg_istore (L2 := [.ref (1076 + 1), .ref (q1 + 1), .int x2, u3, .int 0, .int 0, .int 1, u7, u8]) hk_213 rfl (Nat.le_of_ble_eq_true rfl) rfl rfl ?_
    refine kg_push (x := 0) hk_213 rfl (by decide) rfl ?_
    refine kg_istore (L2 := [.ref (1076 + 1), .ref (q1 + 1), .int x2, u3, .int 0, .int 0, .int 1, .int 0, u8]) hk_213 rfl (Nat.le_of_ble_eq_true rfl) rfl rfl ?_
    refine wf_bind hF (fun e48 he48 hF => ?_)
    refine l_213_105_ok t1 he48 ?_ _ _
    intro u3 u5 u6 u7 u8
    refine kg_goto hk_213 rfl ?_
    have hF := Option.some.inj hF
    exact hK _ hF.symm _ _ _ _ _
theorem l_213_95_ok {X : List Int32} {o : kO}  {h : Hp} {q1 : Nat} (t1 : w_tab[q1]? = some (50, (w_len q1), [])) {n : Nat} {s : Int32 × Int32} {e : Int32} (hF : w_lp (fun (s : Int32 × Int32) => l_213_95 h s.1 s.2) n s = some e) (hX0 : ∀ (u3 : Value) (u4 : Value) (u5 : Value) (u6 : Value) (u7 : Value) (u8 : Value), k_Go X 6 213 (183, [.ref (1076 + 1), .ref (q1 + 1), .int e, u3, u4, u5, u6, u7, u8], []) h o) : ∀ (u3 : Value) (u5 : Value) (u6 : Value) (u7 : Value) (u8 : Value), k_Go X 6 213 (95, [.ref (1076 + 1), .ref (q1 + 1), .int s.1, u3, .int s.2, u5, u6, u7, u8], []) h o := by
  exact w_lp_ok (P := (fun (s : Int32 × Int32) => ∀ (u3 : Value) (u5 : Value) (u6 : Value) (u7 : Value) (u8 : Value), k_Go X 6 213 (95, [.ref (1076 + 1), .ref (q1 + 1), .int s.1, u3, .int s.2, u5, u6, u7, u8], []) h o)) (Q := (fun (e : Int32) => (∀ (u3 : Value) (u4 : Value) (u5 : Value) (u6 : Value) (u7 : Value) (u8 : Value), k_Go X 6 213 (183, [.ref (1076 + 1), .ref (q1 + 1), .int e, u3, u4, u5, u6, u7, u8], []) h o))) (fun s r hF hK hX => l_213_95_st t1 hF hK (fun x hx => (hX _ hx))) n s e hF hX0
def l_213_187 (x2 : Int32) (x5 : Int32) (x6 : Int32) (h : Hp) : Option ((Int32 × Int32 × Hp) ⊕ Int32 × Hp) :=
  if x6 < 26 then
    (w_gd (w_ix (h 1076 77) 16) <|
    w_gd (w_ix (9 * x6) 234) <|
    w_let (w_up h 1131 ((9 * x6).toNatClampNeg) (-1)) fun h53 =>
    w_gd (w_ix ((9 * x6) + 1) 234) <|
    w_let (w_up h53 1131 (((9 * x6) + 1).toNatClampNeg) (((x2 >>> (x6 &&& 31)) &&& ((h 1083 (h 1076 77).toNatClampNeg) >>> (x6 &&& 31))) &&& 1)) fun h55 =>
    some (.inl ((x5 + (((x2 >>> (x6 &&& 31)) &&& ((h 1083 (h 1076 77).toNatClampNeg) >>> (x6 &&& 31))) &&& 1)), (x6 + 1), h55)))
  else
    (some (.inr (x5, h)))
theorem l_213_187_st {X : List Int32} {o : kO}  {h : Hp} {q1 : Nat} {x2 : Int32} {x5 : Int32} {x6 : Int32} (t1 : w_tab[q1]? = some (50, (w_len q1), [])) {r : (Int32 × Int32 × Hp) ⊕ Int32 × Hp} (hF : l_213_187 x2 x5 x6 h = some r) (hK : ∀ s' : Int32 × Int32 × Hp, r = .inl s' → ∀ (u3 : Value) (u4 : Value) (u7 : Value) (u8 : Value), k_Go X 6 213 (187, [.ref (1076 + 1), .ref (q1 + 1), .int x2, u3, u4, .int (s'.1), .int (s'.2.1), u7, u8], []) s'.2.2 o) (hX0 : ∀ e : Int32 × Hp, r = .inr e → ∀ (u2 : Value) (u3 : Value) (u4 : Value) (u6 : Value) (u7 : Value) (u8 : Value), k_Go X 6 213 (226, [.ref (1076 + 1), .ref (q1 + 1), u2, u3, u4, .int e.1, u6, u7, u8], []) e.2 o) : ∀ (u3 : Value) (u4 : Value) (u7 : Value) (u8 : Value), k_Go X 6 213 (187, [.ref (1076 + 1), .ref (q1 + 1), .int x2, u3, u4, .int x5, .int x6, u7, u8], []) h o := by
  intro u3 u4 u7 u8
  refine kg_iload hk_213 rfl rfl rfl ?_
  refine kg_push (x := 26) hk_213 rfl (by decide) rfl ?_
  refine wf_if hF (fun c50 hF => ?_) (fun c50 hF => ?_)
  · refine kg_icF hk_213 rfl (jc_F3 c50) rfl ?_
    refine kg_iload hk_213 rfl rfl rfl ?_
    refine kg_iload hk_213 rfl rfl rfl ?_
    refine kg_bin (z := (x2 >>> (x6 &&& 31))) hk_213 rfl rfl rfl ?_
    refine kg_aload hk_213 rfl rfl rfl ?_
    refine kg_get (v := .ref (1083 + 1)) hk_213 rfl wk_1076_7 rfl rfl ?_
    refine kg_aload hk_213 rfl rfl rfl ?_
    refine kg_get (v := .int (h 1076 77)) hk_213 rfl wk_1076_77 rfl rfl ?_
    refine wf_gd hF (fun g51 hF => ?_)
    refine kg_ald (y := (h 1083 (h 1076 77).toNatClampNeg)) hk_213 rfl wc_1083 g51 rfl rfl ?_
    refine kg_iload hk_213 rfl rfl rfl ?_
    refine kg_bin (z := ((h 1083 (h 1076 77).toNatClampNeg) >>> (x6 &&& 31))) hk_213 rfl rfl rfl ?_
    refine kg_bin (z := ((x2 >>> (x6 &&& 31)) &&& ((h 1083 (h 1076 77).toNatClampNeg) >>> (x6 &&& 31)))) hk_213 rfl rfl rfl ?_
    refine kg_push (x := 1) hk_213 rfl (by decide) rfl ?_
    refine kg_bin (z := (((x2 >>> (x6 &&& 31)) &&& ((h 1083 (h 1076 77).toNatClampNeg) >>> (x6 &&& 31))) &&& 1)) hk_213 rfl rfl rfl ?_
    refine kg_istore (L2 := [.ref (1076 + 1), .ref (q1 + 1), .int x2, u3, u4, .int x5, .int x6, .int (((x2 >>> (x6 &&& 31)) &&& ((h 1083 (h 1076 77).toNatClampNeg) >>> (x6 &&& 31))) &&& 1), u8]) hk_213 rfl (Nat.le_of_ble_eq_true rfl) rfl rfl ?_
    refine kg_iload hk_213 rfl rfl rfl ?_
    refine kg_iload hk_213 rfl rfl rfl ?_
    refine kg_bin (z := (x5 + (((x2 >>> (x6 &&& 31)) &&& ((h 1083 (h 1076 77).toNatClampNeg) >>> (x6 &&& 31))) &&& 1))) hk_213 rfl rfl rfl ?_
    refine kg_istore (L2 := [.ref (1076 + 1), .ref (q1 + 1), .int x2, u3, u4, .int (x5 + (((x2 >>> (x6 &&& 31)) &&& ((h 1083 (h 1076 77).toNatClampNeg) >>> (x6 &&& 31))) &&& 1)), .int x6, .int (((x2 >>> (x6 &&& 31)) &&& ((h 1083 (h 1076 77).toNatClampNeg) >>> (x6 &&& 31))) &&& 1), u8]) hk_213 rfl (Nat.le_of_ble_eq_true rfl) rfl rfl ?_
    refine kg_aload hk_213 rfl rfl rfl ?_
    refine kg_get (v := .ref (1131 + 1)) hk_213 rfl wk_1076_73 rfl rfl ?_
    refine kg_push (x := 9) hk_213 rfl (by decide) rfl ?_
    refine kg_iload hk_213 rfl rfl rfl ?_
    refine kg_bin (z := (9 * x6)) hk_213 rfl rfl rfl ?_
    refine kg_push (x := (-1)) hk_213 rfl (by decide) rfl ?_
    refine wf_gd hF (fun g52 hF => ?_)
    refine wf_let hF (fun h53 hh53 hF => ?_)
    refine kg_ast hk_213 rfl wc_1131 g52 (by rw [j_nar50]; exact hh53) rfl ?_
    refine kg_aload hk_213 rfl rfl rfl ?_
    refine kg_get (v := .ref (1131 + 1)) hk_213 rfl wk_1076_73 rfl rfl ?_
    refine kg_push (x := 9) hk_213 rfl (by decide) rfl ?_
    refine kg_iload hk_213 rfl rfl rfl ?_
    refine kg_bin (z := (9 * x6)) hk_213 rfl rfl rfl ?_
    refine kg_push (x := 1) hk_213 rfl (by decide) rfl ?_
    refine kg_bin (z := ((9 * x6) + 1)) hk_213 rfl rfl rfl ?_
    refine kg_iload hk_213 rfl rfl rfl ?_
    refine wf_gd hF (fun g54 hF => ?_)
    refine wf_let hF (fun h55 hh55 hF => ?_)
    refine kg_ast hk_213 rfl wc_1131 g54 (by rw [j_nar50]; exact hh55) rfl ?_
    refine kg_iinc (y := (x6 + 1)) (L2 := [.ref (1076 + 1), .ref (q1 + 1), .int x2, u3, u4, .int (x5 + (((x2 >>> (x6 &&& 31)) &&& ((h 1083 (h 1076 77).toNatClampNeg) >>> (x6 &&& 31))) &&& 1)), .int (x6 + 1), .int (((x2 >>> (x6 &&& 31)) &&& ((h 1083 (h 1076 77).toNatClampNeg) >>> (x6 &&& 31))) &&& 1), u8]) hk_213 rfl rfl rfl rfl rfl ?_
    refine kg_goto hk_213 rfl ?_
    have hF := Option.some.inj hF
    exact hK _ hF.symm _ _ _ _
  · refine kg_icT hk_213 rfl (jc_T3 c50) ?_
    have hF := Option.some.inj hF
    exact hX0 _ hF.symm _ _ _ _ _ _
theorem l_213_187_ok {X : List Int32} {o : kO}  {q1 : Nat} {x2 : Int32} (t1 : w_tab[q1]? = some (50, (w_len q1), [])) {n : Nat} {s : Int32 × Int32 × Hp} {e : Int32 × Hp} (hF : w_lp (fun (s : Int32 × Int32 × Hp) => l_213_187 x2 s.1 s.2.1 s.2.2) n s = some e) (hX0 : ∀ (u2 : Value) (u3 : Value) (u4 : Value) (u6 : Value) (u7 : Value) (u8 : Value), k_Go X 6 213 (226, [.ref (1076 + 1), .ref (q1 + 1), u2, u3, u4, .int e.1, u6, u7, u8], []) e.2 o) : ∀ (u3 : Value) (u4 : Value) (u7 : Value) (u8 : Value), k_Go X 6 213 (187, [.ref (1076 + 1), .ref (q1 + 1), .int x2, u3, u4, .int s.1, .int s.2.1, u7, u8], []) s.2.2 o := by
  exact w_lp_ok (P := (fun (s : Int32 × Int32 × Hp) => ∀ (u3 : Value) (u4 : Value) (u7 : Value) (u8 : Value), k_Go X 6 213 (187, [.ref (1076 + 1), .ref (q1 + 1), .int x2, u3, u4, .int s.1, .int s.2.1, u7, u8], []) s.2.2 o)) (Q := (fun (e : Int32 × Hp) => (∀ (u2 : Value) (u3 : Value) (u4 : Value) (u6 : Value) (u7 : Value) (u8 : Value), k_Go X 6 213 (226, [.ref (1076 + 1), .ref (q1 + 1), u2, u3, u4, .int e.1, u6, u7, u8], []) e.2 o))) (fun s r hF hK hX => l_213_187_st t1 hF hK (fun x hx => (hX _ hx))) n s e hF hX0
def q_213_94 (h : Hp) (q1 : Nat) (x2 : Int32) (s0 : Int32) : Option (Hp) :=
  (w_lp (fun (s : Int32 × Int32) => l_213_95 h s.1 s.2) w_N (x2, s0)).bind fun e49 =>
  (w_lp (fun (s : Int32 × Int32 × Hp) => l_213_187 e49 s.1 s.2.1 s.2.2) w_N (0, 0, h)).bind fun e56 =>
  w_gd (w_ix (9 * (e56.2 1076 77)) (w_len q1)) <|
  w_let (w_up e56.2 q1 ((9 * (e56.2 1076 77)).toNatClampNeg) (-1)) fun h58 =>
  w_gd (w_ix ((9 * (h58 1076 77)) + 1) (w_len q1)) <|
  w_let (w_up h58 q1 (((9 * (h58 1076 77)) + 1).toNatClampNeg) e56.1) fun h60 =>
  some h60
theorem q_213_94_ok {X : List Int32}   {h : Hp} {q1 : Nat} {s0 : Int32} {x2 : Int32} (t1 : w_tab[q1]? = some (50, (w_len q1), [])) {r : Hp} (hF : q_213_94 h q1 x2 s0 = some r)  : ∀ (u3 : Value) (u4 : Value) (u5 : Value) (u6 : Value) (u7 : Value) (u8 : Value), k_Go X 6 213 (94, [.ref (1076 + 1), .ref (q1 + 1), .int x2, u3, u4, u5, u6, u7, u8], [.int s0]) h (.inl none, r) := by
  intro u3 u4 u5 u6 u7 u8
  unfold q_213_94 at hF
  refine kg_istore (L2 := [.ref (1076 + 1), .ref (q1 + 1), .int x2, u3, .int s0, u5, u6, u7, u8]) hk_213 rfl (Nat.le_of_ble_eq_true rfl) rfl rfl ?_
  refine wf_bind hF (fun e49 he49 hF => ?_)
  refine l_213_95_ok t1 he49 ?_ _ _ _ _ _
  intro u3 u4 u5 u6 u7 u8
  refine kg_push (x := 0) hk_213 rfl (by decide) rfl ?_
  refine kg_istore (L2 := [.ref (1076 + 1), .ref (q1 + 1), .int e49, u3, u4, .int 0, u6, u7, u8]) hk_213 rfl (Nat.le_of_ble_eq_true rfl) rfl rfl ?_
  refine kg_push (x := 0) hk_213 rfl (by decide) rfl ?_
  refine kg_istore (L2 := [.ref (1076 + 1), .ref (q1 + 1), .int e49, u3, u4, .int 0, .int 0, u7, u8]) hk_213 rfl (Nat.le_of_ble_eq_true rfl) rfl rfl ?_
  refine wf_bind hF (fun e56 he56 hF => ?_)
  refine l_213_187_ok t1 he56 ?_ _ _ _ _
  intro u2 u3 u4 u6 u7 u8
  refine kg_aload hk_213 rfl rfl rfl ?_
  refine kg_push (x := 9) hk_213 rfl (by decide) rfl ?_
  refine kg_aload hk_213 rfl rfl rfl ?_
  refine kg_get (v := .int (e56.2 1076 77)) hk_213 rfl wk_1076_77 rfl rfl ?_
  refine kg_bin (z := (9 * (e56.2 1076 77))) hk_213 rfl rfl rfl ?_
  refine kg_push (x := (-1)) hk_213 rfl (by decide) rfl ?_
  refine wf_gd hF (fun g57 hF => ?_)
  refine wf_let hF (fun h58 hh58 hF => ?_)
  refine kg_ast hk_213 rfl t1 g57 (by rw [j_nar50]; exact hh58) rfl ?_
  refine kg_aload hk_213 rfl rfl rfl ?_
  refine kg_push (x := 9) hk_213 rfl (by decide) rfl ?_
  refine kg_aload hk_213 rfl rfl rfl ?_
  refine kg_get (v := .int (h58 1076 77)) hk_213 rfl wk_1076_77 rfl rfl ?_
  refine kg_bin (z := (9 * (h58 1076 77))) hk_213 rfl rfl rfl ?_
  refine kg_push (x := 1) hk_213 rfl (by decide) rfl ?_
  refine kg_bin (z := ((9 * (h58 1076 77)) + 1)) hk_213 rfl rfl rfl ?_
  refine kg_iload hk_213 rfl rfl rfl ?_
  refine wf_gd hF (fun g59 hF => ?_)
  refine wf_let hF (fun h60 hh60 hF => ?_)
  refine kg_ast hk_213 rfl t1 g59 (by rw [j_nar50]; exact hh60) rfl ?_
  have hF := Option.some.inj hF
  subst hF
  exact kg_ret hk_213 rfl rfl
def q_213_88 (h : Hp) (q1 : Nat) (x2 : Int32) : Option (Hp) :=
  q_213_94 h q1 x2 (if (h 1076 75) = 0 then 1 else 0)
theorem q_213_88_ok {X : List Int32}   {h : Hp} {q1 : Nat} {x2 : Int32} (t1 : w_tab[q1]? = some (50, (w_len q1), [])) {r : Hp} (hF : q_213_88 h q1 x2 = some r)  : ∀ (u3 : Value) (u4 : Value) (u5 : Value) (u6 : Value) (u7 : Value) (u8 : Value), k_Go X 6 213 (88, [.ref (1076 + 1), .ref (q1 + 1), .int x2, u3, u4, u5, u6, u7, u8], []) h (.inl none, r) := by
  intro u3 u4 u5 u6 u7 u8
  unfold q_213_88 at hF
  refine kg_aload hk_213 rfl rfl rfl ?_
  refine kg_get (v := .int (h 1076 75)) hk_213 rfl wk_1076_75 rfl rfl ?_
  refine kv_mid (p := 94) (L := [.ref (1076 + 1), .ref (q1 + 1), .int x2, u3, u4, u5, u6, u7, u8]) (S := [.int (if (h 1076 75) = 0 then 1 else 0)]) ?_ (fun hK => ?_)
  · exact q_213_94_ok t1 hF _ _ _ _ _ _
  · by_cases c26 : (h 1076 75) = 0
    · have hK := kv_T c26 hK
      refine kg_ifF hk_213 rfl (jc_F1 c26) rfl ?_
      refine kg_push (x := 1) hk_213 rfl (by decide) rfl ?_
      refine kg_goto hk_213 rfl ?_
      exact hK
    · have hK := kv_F c26 hK
      refine kg_ifT hk_213 rfl (jc_T1 c26) ?_
      refine kg_push (x := 0) hk_213 rfl (by decide) rfl ?_
      exact hK
def p_213 (h : Hp) (q1 : Nat) : Option (Hp) :=
  (w_lp (fun (s : Int32 × Int32 × Int32 × Hp) => l_213_6 s.1 s.2.1 s.2.2.1 s.2.2.2) w_N (0, 0, 0, h)).bind fun e25 =>
  q_213_88 e25.2 q1 e25.1
theorem p_213_ok {X : List Int32}  {h : Hp} {q1 : Nat} (t1 : w_tab[q1]? = some (50, w_len q1, [])) {r : Hp} (hF : p_213 h q1 = some r) : k_Ev X 6 213 [.ref (1076 + 1), .ref (q1 + 1)] h (.inl none, r) := by
  refine k_of hk_213 ?_
  show k_Go X 6 213 (0, [.ref (1076 + 1), .ref (q1 + 1), (.retAddr 0), (.retAddr 0), (.retAddr 0), (.retAddr 0), (.retAddr 0), (.retAddr 0), (.retAddr 0)], []) h _
  unfold p_213 at hF
  refine kg_push (x := 0) hk_213 rfl (by decide) rfl ?_
  refine kg_istore (L2 := [.ref (1076 + 1), .ref (q1 + 1), .int 0, (.retAddr 0), (.retAddr 0), (.retAddr 0), (.retAddr 0), (.retAddr 0), (.retAddr 0)]) hk_213 rfl (Nat.le_of_ble_eq_true rfl) rfl rfl ?_
  refine kg_push (x := 0) hk_213 rfl (by decide) rfl ?_
  refine kg_istore (L2 := [.ref (1076 + 1), .ref (q1 + 1), .int 0, .int 0, (.retAddr 0), (.retAddr 0), (.retAddr 0), (.retAddr 0), (.retAddr 0)]) hk_213 rfl (Nat.le_of_ble_eq_true rfl) rfl rfl ?_
  refine kg_push (x := 0) hk_213 rfl (by decide) rfl ?_
  refine kg_istore (L2 := [.ref (1076 + 1), .ref (q1 + 1), .int 0, .int 0, .int 0, (.retAddr 0), (.retAddr 0), (.retAddr 0), (.retAddr 0)]) hk_213 rfl (Nat.le_of_ble_eq_true rfl) rfl rfl ?_
  refine wf_bind hF (fun e25 he25 hF => ?_)
  refine l_213_6_ok t1 he25 ?_ _ _ _ _
  intro u3 u4 u5 u6 u7 u8
  exact q_213_88_ok t1 hF _ _ _ _ _ _
-- NotebookWeirModel.evaluates(II[I[I)Z
theorem hk_216 : jP[216]? = some (jc_216, 8, [], []) := by rfl
def l_216_34 (x1 : Int32) (x5 : Int32) (h : Hp) : Option ((Int32 × Hp) ⊕ Hp) :=
  if x5 < (h 1076 28) then
    (w_gd (w_ix ((40 * x1) + x5) 640) <|
    w_gd (w_ix x5 40) <|
    w_let (w_up h 1099 x5.toNatClampNeg (h 1095 ((40 * x1) + x5).toNatClampNeg)) fun h9 =>
    some (.inl ((x5 + 1), h9)))
  else
    (some (.inr h))
theorem l_216_34_st {X : List Int32} {o : kO}  {h : Hp} {q3 : Nat} {q4 : Nat} {x1 : Int32} {x5 : Int32} (t3 : w_tab[q3]? = some (50, (w_len q3), [])) (t4 : w_tab[q4]? = some (50, (w_len q4), [])) {r : (Int32 × Hp) ⊕ Hp} (hF : l_216_34 x1 x5 h = some r) (hK : ∀ s' : Int32 × Hp, r = .inl s' → ∀ (u2 : Value) (u6 : Value) (u7 : Value), k_Go X 9 216 (34, [.ref (1076 + 1), .int x1, u2, .ref (q3 + 1), .ref (q4 + 1), .int (s'.1), u6, u7], []) s'.2 o) (hX0 : ∀ e : Hp, r = .inr e → ∀ (u2 : Value) (u5 : Value) (u6 : Value) (u7 : Value), k_Go X 9 216 (52, [.ref (1076 + 1), .int x1, u2, .ref (q3 + 1), .ref (q4 + 1), u5, u6, u7], []) e o) : ∀ (u2 : Value) (u6 : Value) (u7 : Value), k_Go X 9 216 (34, [.ref (1076 + 1), .int x1, u2, .ref (q3 + 1), .ref (q4 + 1), .int x5, u6, u7], []) h o := by
  intro u2 u6 u7
  refine kg_iload hk_216 rfl rfl rfl ?_
  refine kg_aload hk_216 rfl rfl rfl ?_
  refine kg_get (v := .int (h 1076 28)) hk_216 rfl wk_1076_28 rfl rfl ?_
  refine wf_if hF (fun c6 hF => ?_) (fun c6 hF => ?_)
  · refine kg_icF hk_216 rfl (jc_F3 c6) rfl ?_
    refine kg_aload hk_216 rfl rfl rfl ?_
    refine kg_get (v := .ref (1099 + 1)) hk_216 rfl wk_1076_27 rfl rfl ?_
    refine kg_iload hk_216 rfl rfl rfl ?_
    refine kg_aload hk_216 rfl rfl rfl ?_
    refine kg_get (v := .ref (1095 + 1)) hk_216 rfl wk_1076_23 rfl rfl ?_
    refine kg_push (x := 40) hk_216 rfl (by decide) rfl ?_
    refine kg_iload hk_216 rfl rfl rfl ?_
    refine kg_bin (z := (40 * x1)) hk_216 rfl rfl rfl ?_
    refine kg_iload hk_216 rfl rfl rfl ?_
    refine kg_bin (z := ((40 * x1) + x5)) hk_216 rfl rfl rfl ?_
    refine wf_gd hF (fun g7 hF => ?_)
    refine kg_ald (y := (h 1095 ((40 * x1) + x5).toNatClampNeg)) hk_216 rfl wc_1095 g7 rfl rfl ?_
    refine wf_gd hF (fun g8 hF => ?_)
    refine wf_let hF (fun h9 hh9 hF => ?_)
    refine kg_ast hk_216 rfl wc_1099 g8 (by rw [j_nar50]; exact hh9) rfl ?_
    refine kg_iinc (y := (x5 + 1)) (L2 := [.ref (1076 + 1), .int x1, u2, .ref (q3 + 1), .ref (q4 + 1), .int (x5 + 1), u6, u7]) hk_216 rfl rfl rfl rfl rfl ?_
    refine kg_goto hk_216 rfl ?_
    have hF := Option.some.inj hF
    exact hK _ hF.symm _ _ _
  · refine kg_icT hk_216 rfl (jc_T3 c6) ?_
    have hF := Option.some.inj hF
    exact hX0 _ hF.symm _ _ _ _
theorem l_216_34_ok {X : List Int32} {o : kO}  {q3 : Nat} {q4 : Nat} {x1 : Int32} (t3 : w_tab[q3]? = some (50, (w_len q3), [])) (t4 : w_tab[q4]? = some (50, (w_len q4), [])) {n : Nat} {s : Int32 × Hp} {e : Hp} (hF : w_lp (fun (s : Int32 × Hp) => l_216_34 x1 s.1 s.2) n s = some e) (hX0 : ∀ (u2 : Value) (u5 : Value) (u6 : Value) (u7 : Value), k_Go X 9 216 (52, [.ref (1076 + 1), .int x1, u2, .ref (q3 + 1), .ref (q4 + 1), u5, u6, u7], []) e o) : ∀ (u2 : Value) (u6 : Value) (u7 : Value), k_Go X 9 216 (34, [.ref (1076 + 1), .int x1, u2, .ref (q3 + 1), .ref (q4 + 1), .int s.1, u6, u7], []) s.2 o := by
  exact w_lp_ok (P := (fun (s : Int32 × Hp) => ∀ (u2 : Value) (u6 : Value) (u7 : Value), k_Go X 9 216 (34, [.ref (1076 + 1), .int x1, u2, .ref (q3 + 1), .ref (q4 + 1), .int s.1, u6, u7], []) s.2 o)) (Q := (fun (e : Hp) => (∀ (u2 : Value) (u5 : Value) (u6 : Value) (u7 : Value), k_Go X 9 216 (52, [.ref (1076 + 1), .int x1, u2, .ref (q3 + 1), .ref (q4 + 1), u5, u6, u7], []) e o))) (fun s r hF hK hX => l_216_34_st t3 t4 hF hK (fun x hx => (hX _ hx))) n s e hF hX0
def l_216_105 (x1 : Int32) (q3 : Nat) (x5 : Int32) (x6 : Int32) (h : Hp) : Option ((Int32 × Hp) ⊕ Hp) :=
  if x6 < 26 then
    (w_gd (w_ix ((234 * x1) + (9 * x6)) (w_len q3)) <|
    w_let (w_up h q3 (((234 * x1) + (9 * x6)).toNatClampNeg) (-2)) fun h24 =>
    if (h24 1076 75) = 0 then
      (if ((x5 >>> (x6 &&& 31)) &&& 1) = 1 then
        ((p_193 h24 1131 (9 * x6) q3 ((234 * x1) + (9 * x6))).bind fun v27 =>
        some (.inl ((x6 + 1), v27)))
      else
        (some (.inl ((x6 + 1), h24))))
    else
      (some (.inl ((x6 + 1), h24))))
  else
    (some (.inr h))
theorem l_216_105_st {X : List Int32} {o : kO}  {h : Hp} {q3 : Nat} {x1 : Int32} {x5 : Int32} {x6 : Int32} (t3 : w_tab[q3]? = some (50, (w_len q3), [])) {r : (Int32 × Hp) ⊕ Hp} (hF : l_216_105 x1 q3 x5 x6 h = some r) (hK : ∀ s' : Int32 × Hp, r = .inl s' → ∀ (u2 : Value) (u4 : Value) (u7 : Value), k_Go X 9 216 (105, [.ref (1076 + 1), .int x1, u2, .ref (q3 + 1), u4, .int x5, .int (s'.1), u7], []) s'.2 o) (hX0 : ∀ e : Hp, r = .inr e → ∀ (u1 : Value) (u2 : Value) (u3 : Value) (u4 : Value) (u5 : Value) (u6 : Value) (u7 : Value), k_Go X 9 216 (141, [.ref (1076 + 1), u1, u2, u3, u4, u5, u6, u7], []) e o) : ∀ (u2 : Value) (u4 : Value) (u7 : Value), k_Go X 9 216 (105, [.ref (1076 + 1), .int x1, u2, .ref (q3 + 1), u4, .int x5, .int x6, u7], []) h o := by
  intro u2 u4 u7
  refine kg_iload hk_216 rfl rfl rfl ?_
  refine kg_push (x := 26) hk_216 rfl (by decide) rfl ?_
  refine wf_if hF (fun c22 hF => ?_) (fun c22 hF => ?_)
  · refine kg_icF hk_216 rfl (jc_F3 c22) rfl ?_
    refine kg_push (x := 234) hk_216 rfl (by decide) rfl ?_
    refine kg_iload hk_216 rfl rfl rfl ?_
    refine kg_bin (z := (234 * x1)) hk_216 rfl rfl rfl ?_
    refine kg_push (x := 9) hk_216 rfl (by decide) rfl ?_
    refine kg_iload hk_216 rfl rfl rfl ?_
    refine kg_bin (z := (9 * x6)) hk_216 rfl rfl rfl ?_
    refine kg_bin (z := ((234 * x1) + (9 * x6))) hk_216 rfl rfl rfl ?_
    refine kg_istore (L2 := [.ref (1076 + 1), .int x1, u2, .ref (q3 + 1), u4, .int x5, .int x6, .int ((234 * x1) + (9 * x6))]) hk_216 rfl (Nat.le_of_ble_eq_true rfl) rfl rfl ?_
    refine kg_aload hk_216 rfl rfl rfl ?_
    refine kg_iload hk_216 rfl rfl rfl ?_
    refine kg_push (x := (-2)) hk_216 rfl (by decide) rfl ?_
    refine wf_gd hF (fun g23 hF => ?_)
    refine wf_let hF (fun h24 hh24 hF => ?_)
    refine kg_ast hk_216 rfl t3 g23 (by rw [j_nar50]; exact hh24) rfl ?_
    refine kg_aload hk_216 rfl rfl rfl ?_
    refine kg_get (v := .int (h24 1076 75)) hk_216 rfl wk_1076_75 rfl rfl ?_
    refine wf_if hF (fun c25 hF => ?_) (fun c25 hF => ?_)
    · refine kg_ifF hk_216 rfl (jc_F1 c25) rfl ?_
      refine kg_iload hk_216 rfl rfl rfl ?_
      refine kg_iload hk_216 rfl rfl rfl ?_
      refine kg_bin (z := (x5 >>> (x6 &&& 31))) hk_216 rfl rfl rfl ?_
      refine kg_push (x := 1) hk_216 rfl (by decide) rfl ?_
      refine kg_bin (z := ((x5 >>> (x6 &&& 31)) &&& 1)) hk_216 rfl rfl rfl ?_
      refine kg_push (x := 1) hk_216 rfl (by decide) rfl ?_
      refine wf_if hF (fun c26 hF => ?_) (fun c26 hF => ?_)
      · refine kg_icF hk_216 rfl (jc_F1 c26) rfl ?_
        refine kg_aload hk_216 rfl rfl rfl ?_
        refine kg_aload hk_216 rfl rfl rfl ?_
        refine kg_get (v := .ref (1131 + 1)) hk_216 rfl wk_1076_73 rfl rfl ?_
        refine kg_push (x := 9) hk_216 rfl (by decide) rfl ?_
        refine kg_iload hk_216 rfl rfl rfl ?_
        refine kg_bin (z := (9 * x6)) hk_216 rfl rfl rfl ?_
        refine kg_aload hk_216 rfl rfl rfl ?_
        refine kg_iload hk_216 rfl rfl rfl ?_
        refine wf_bind hF (fun v27 hv27 hF => ?_)
        refine kg_call (as := [.ref (1076 + 1), .ref (1131 + 1), .int (9 * x6), .ref (q3 + 1), .int ((234 * x1) + (9 * x6))]) (rest := []) hk_216 rfl (Or.inr (Or.inr (Or.inr ⟨Or.inl rfl, _, _, rfl, wc_1076⟩))) rfl rfl rfl (Nat.not_lt.mpr (Nat.le_of_ble_eq_true rfl)) (p_193_ok wc_1131 t3 hv27) (by decide) rfl ?_
        refine kg_iinc (y := (x6 + 1)) (L2 := [.ref (1076 + 1), .int x1, u2, .ref (q3 + 1), u4, .int x5, .int (x6 + 1), .int ((234 * x1) + (9 * x6))]) hk_216 rfl rfl rfl rfl rfl ?_
        refine kg_goto hk_216 rfl ?_
        have hF := Option.some.inj hF
        exact hK _ hF.symm _ _ _
      · refine kg_icT hk_216 rfl (jc_T1 c26) ?_
        refine kg_iinc (y := (x6 + 1)) (L2 := [.ref (1076 + 1), .int x1, u2, .ref (q3 + 1), u4, .int x5, .int (x6 + 1), .int ((234 * x1) + (9 * x6))]) hk_216 rfl rfl rfl rfl rfl ?_
        refine kg_goto hk_216 rfl ?_
        have hF := Option.some.inj hF
        exact hK _ hF.symm _ _ _
    · refine kg_ifT hk_216 rfl (jc_T1 c25) ?_
      refine kg_iinc (y := (x6 + 1)) (L2 := [.ref (1076 + 1), .int x1, u2, .ref (q3 + 1), u4, .int x5, .int (x6 + 1), .int ((234 * x1) + (9 * x6))]) hk_216 rfl rfl rfl rfl rfl ?_
      refine kg_goto hk_216 rfl ?_
      have hF := Option.some.inj hF
      exact hK _ hF.symm _ _ _
  · refine kg_icT hk_216 rfl (jc_T3 c22) ?_
    have hF := Option.some.inj hF
    exact hX0 _ hF.symm _ _ _ _ _ _ _
theorem l_216_105_ok {X : List Int32} {o : kO}  {q3 : Nat} {x1 : Int32} {x5 : Int32} (t3 : w_tab[q3]? = some (50, (w_len q3), [])) {n : Nat} {s : Int32 × Hp} {e : Hp} (hF : w_lp (fun (s : Int32 × Hp) => l_216_105 x1 q3 x5 s.1 s.2) n s = some e) (hX0 : ∀ (u1 : Value) (u2 : Value) (u3 : Value) (u4 : Value) (u5 : Value) (u6 : Value) (u7 : Value), k_Go X 9 216 (141, [.ref (1076 + 1), u1, u2, u3, u4, u5, u6, u7], []) e o) : ∀ (u2 : Value) (u4 : Value) (u7 : Value), k_Go X 9 216 (105, [.ref (1076 + 1), .int x1, u2, .ref (q3 + 1), u4, .int x5, .int s.1, u7], []) s.2 o := by
  exact w_lp_ok (P := (fun (s : Int32 × Hp) => ∀ (u2 : Value) (u4 : Value) (u7 : Value), k_Go X 9 216 (105, [.ref (1076 + 1), .int x1, u2, .ref (q3 + 1), u4, .int x5, .int s.1, u7], []) s.2 o)) (Q := (fun (e : Hp) => (∀ (u1 : Value) (u2 : Value) (u3 : Value) (u4 : Value) (u5 : Value) (u6 : Value) (u7 : Value), k_Go X 9 216 (141, [.ref (1076 + 1), u1, u2, u3, u4, u5, u6, u7], []) e o))) (fun s r hF hK hX => l_216_105_st t3 hF hK (fun x hx => (hX _ hx))) n s e hF hX0
def q_216_93 (h : Hp) (x1 : Int32) (q3 : Nat) : Option (Int32 × Hp) :=
  w_gd (w_ix x1 16) <|
  w_gd (w_ix x1 16) <|
  (w_lp (fun (s : Int32 × Hp) => l_216_105 x1 q3 ((h 1083 x1.toNatClampNeg) ||| (h 1084 x1.toNatClampNeg)) s.1 s.2) w_N (0, h)).bind fun e28 =>
  w_let (w_up e28 1076 29 0) fun h29 =>
  some ((if (h29 1076 75) = 0 then 1 else 0), h29)
theorem q_216_93_ok {X : List Int32}   {h : Hp} {q3 : Nat} {x1 : Int32} (t3 : w_tab[q3]? = some (50, (w_len q3), [])) {r : Int32 × Hp} (hF : q_216_93 h x1 q3 = some r)  : ∀ (u2 : Value) (u4 : Value) (u5 : Value) (u6 : Value) (u7 : Value), k_Go X 9 216 (93, [.ref (1076 + 1), .int x1, u2, .ref (q3 + 1), u4, u5, u6, u7], []) h (.inl (some (.int r.1)), r.2) := by
  intro u2 u4 u5 u6 u7
  unfold q_216_93 at hF
  refine kg_aload hk_216 rfl rfl rfl ?_
  refine kg_get (v := .ref (1083 + 1)) hk_216 rfl wk_1076_7 rfl rfl ?_
  refine kg_iload hk_216 rfl rfl rfl ?_
  refine wf_gd hF (fun g20 hF => ?_)
  refine kg_ald (y := (h 1083 x1.toNatClampNeg)) hk_216 rfl wc_1083 g20 rfl rfl ?_
  refine kg_aload hk_216 rfl rfl rfl ?_
  refine kg_get (v := .ref (1084 + 1)) hk_216 rfl wk_1076_8 rfl rfl ?_
  refine kg_iload hk_216 rfl rfl rfl ?_
  refine wf_gd hF (fun g21 hF => ?_)
  refine kg_ald (y := (h 1084 x1.toNatClampNeg)) hk_216 rfl wc_1084 g21 rfl rfl ?_
  refine kg_bin (z := ((h 1083 x1.toNatClampNeg) ||| (h 1084 x1.toNatClampNeg))) hk_216 rfl rfl rfl ?_
  refine kg_istore (L2 := [.ref (1076 + 1), .int x1, u2, .ref (q3 + 1), u4, .int ((h 1083 x1.toNatClampNeg) ||| (h 1084 x1.toNatClampNeg)), u6, u7]) hk_216 rfl (Nat.le_of_ble_eq_true rfl) rfl rfl ?_
  refine kg_push (x := 0) hk_216 rfl (by decide) rfl ?_
  refine kg_istore (L2 := [.ref (1076 + 1), .int x1, u2, .ref (q3 + 1), u4, .int ((h 1083 x1.toNatClampNeg) ||| (h 1084 x1.toNatClampNeg)), .int 0, u7]) hk_216 rfl (Nat.le_of_ble_eq_true rfl) rfl rfl ?_
  refine wf_bind hF (fun e28 he28 hF => ?_)
  refine l_216_105_ok t3 he28 ?_ _ _ _
  intro u1 u2 u3 u4 u5 u6 u7
  refine kg_aload hk_216 rfl rfl rfl ?_
  refine kg_push (x := 0) hk_216 rfl (by decide) rfl ?_
  refine wf_let hF (fun h29 hh29 hF => ?_)
  refine kg_put hk_216 rfl wk_1076_29 rfl rfl hh29 rfl ?_
  refine kg_aload hk_216 rfl rfl rfl ?_
  refine kg_get (v := .int (h29 1076 75)) hk_216 rfl wk_1076_75 rfl rfl ?_
  refine kv_mid (p := 150) (L := [.ref (1076 + 1), u1, u2, u3, u4, u5, u6, u7]) (S := [.int (if (h29 1076 75) = 0 then 1 else 0)]) ?_ (fun hK => ?_)
  · have hF := Option.some.inj hF
    subst hF
    exact kg_iret hk_216 rfl (Or.inr (w_boi rfl rfl)) rfl
  · by_cases c30 : (h29 1076 75) = 0
    · have hK := kv_T c30 hK
      refine kg_ifF hk_216 rfl (jc_F1 c30) rfl ?_
      refine kg_push (x := 1) hk_216 rfl (by decide) rfl ?_
      refine kg_goto hk_216 rfl ?_
      exact hK
    · have hK := kv_F c30 hK
      refine kg_ifT hk_216 rfl (jc_T1 c30) ?_
      refine kg_push (x := 0) hk_216 rfl (by decide) rfl ?_
      exact hK
def q_216_31 (h : Hp) (x1 : Int32) (q3 : Nat) (q4 : Nat) (s0 : Int32) : Option (Int32 × Hp) :=
  w_let (w_up h 1076 28 s0) fun h5 =>
  (w_lp (fun (s : Int32 × Hp) => l_216_34 x1 s.1 s.2) w_N (0, h5)).bind fun e10 =>
  (p_161 e10 x1).bind fun v11 =>
  w_let (w_up v11 1076 75 0) fun h12 =>
  w_let (w_up h12 1076 76 (-1)) fun h13 =>
  w_let (w_up h13 1076 74 0) fun h14 =>
  w_gd (w_ix (9 * x1) (w_len q4)) <|
  w_let (w_up h14 q4 ((9 * x1).toNatClampNeg) (-2)) fun h16 =>
  w_gd (w_ix x1 16) <|
  if (h16 1081 x1.toNatClampNeg) = 1 then
    ((p_211 h16 q4).bind fun v19 =>
    q_216_93 v19 x1 q3)
  else
    (w_gd (w_ix x1 16) <|
    if (h16 1081 x1.toNatClampNeg) = 2 then
      ((p_213 h16 q4).bind fun v33 =>
      q_216_93 v33 x1 q3)
    else
      ((p_208 h16 q4).bind fun v34 =>
      q_216_93 v34 x1 q3))
theorem q_216_31_ok {X : List Int32}   {h : Hp} {q3 : Nat} {q4 : Nat} {s0 : Int32} {x1 : Int32} (t3 : w_tab[q3]? = some (50, (w_len q3), [])) (t4 : w_tab[q4]? = some (50, (w_len q4), [])) {r : Int32 × Hp} (hF : q_216_31 h x1 q3 q4 s0 = some r)  : ∀ (u2 : Value) (u5 : Value) (u6 : Value) (u7 : Value), k_Go X 9 216 (31, [.ref (1076 + 1), .int x1, u2, .ref (q3 + 1), .ref (q4 + 1), u5, u6, u7], [.int s0, .ref (1076 + 1)]) h (.inl (some (.int r.1)), r.2) := by
  intro u2 u5 u6 u7
  unfold q_216_31 at hF
  refine wf_let hF (fun h5 hh5 hF => ?_)
  refine kg_put hk_216 rfl wk_1076_28 rfl rfl hh5 rfl ?_
  refine kg_push (x := 0) hk_216 rfl (by decide) rfl ?_
  refine kg_istore (L2 := [.ref (1076 + 1), .int x1, u2, .ref (q3 + 1), .ref (q4 + 1), .int 0, u6, u7]) hk_216 rfl (Nat.le_of_ble_eq_true rfl) rfl rfl ?_
  refine wf_bind hF (fun e10 he10 hF => ?_)
  refine l_216_34_ok t3 t4 he10 ?_ _ _ _
  intro u2 u5 u6 u7
  refine kg_aload hk_216 rfl rfl rfl ?_
  refine kg_iload hk_216 rfl rfl rfl ?_
  refine wf_bind hF (fun v11 hv11 hF => ?_)
  refine kg_call (as := [.ref (1076 + 1), .int x1]) (rest := []) hk_216 rfl (Or.inr (Or.inr (Or.inr ⟨Or.inl rfl, _, _, rfl, wc_1076⟩))) rfl rfl rfl (Nat.not_lt.mpr (Nat.le_of_ble_eq_true rfl)) (p_161_ok hv11) (by decide) rfl ?_
  refine kg_aload hk_216 rfl rfl rfl ?_
  refine kg_push (x := 0) hk_216 rfl (by decide) rfl ?_
  refine wf_let hF (fun h12 hh12 hF => ?_)
  refine kg_put hk_216 rfl wk_1076_75 rfl rfl hh12 rfl ?_
  refine kg_aload hk_216 rfl rfl rfl ?_
  refine kg_push (x := (-1)) hk_216 rfl (by decide) rfl ?_
  refine wf_let hF (fun h13 hh13 hF => ?_)
  refine kg_put hk_216 rfl wk_1076_76 rfl rfl hh13 rfl ?_
  refine kg_aload hk_216 rfl rfl rfl ?_
  refine kg_push (x := 0) hk_216 rfl (by decide) rfl ?_
  refine wf_let hF (fun h14 hh14 hF => ?_)
  refine kg_put hk_216 rfl wk_1076_74 rfl rfl hh14 rfl ?_
  refine kg_aload hk_216 rfl rfl rfl ?_
  refine kg_push (x := 9) hk_216 rfl (by decide) rfl ?_
  refine kg_iload hk_216 rfl rfl rfl ?_
  refine kg_bin (z := (9 * x1)) hk_216 rfl rfl rfl ?_
  refine kg_push (x := (-2)) hk_216 rfl (by decide) rfl ?_
  refine wf_gd hF (fun g15 hF => ?_)
  refine wf_let hF (fun h16 hh16 hF => ?_)
  refine kg_ast hk_216 rfl t4 g15 (by rw [j_nar50]; exact hh16) rfl ?_
  refine kg_aload hk_216 rfl rfl rfl ?_
  refine kg_get (v := .ref (1081 + 1)) hk_216 rfl wk_1076_5 rfl rfl ?_
  refine kg_iload hk_216 rfl rfl rfl ?_
  refine wf_gd hF (fun g17 hF => ?_)
  refine kg_ald (y := (h16 1081 x1.toNatClampNeg)) hk_216 rfl wc_1081 g17 rfl rfl ?_
  refine kg_push (x := 1) hk_216 rfl (by decide) rfl ?_
  refine wf_if hF (fun c18 hF => ?_) (fun c18 hF => ?_)
  · refine kg_icF hk_216 rfl (jc_F1 c18) rfl ?_
    refine kg_aload hk_216 rfl rfl rfl ?_
    refine kg_aload hk_216 rfl rfl rfl ?_
    refine wf_bind hF (fun v19 hv19 hF => ?_)
    refine kg_call (as := [.ref (1076 + 1), .ref (q4 + 1)]) (rest := []) hk_216 rfl (Or.inr (Or.inr (Or.inr ⟨Or.inl rfl, _, _, rfl, wc_1076⟩))) rfl rfl rfl (Nat.not_lt.mpr (Nat.le_of_ble_eq_true rfl)) (p_211_ok t4 hv19) (by decide) rfl ?_
    refine kg_goto hk_216 rfl ?_
    exact q_216_93_ok t3 hF _ _ _ _ _
  · refine kg_icT hk_216 rfl (jc_T1 c18) ?_
    refine kg_aload hk_216 rfl rfl rfl ?_
    refine kg_get (v := .ref (1081 + 1)) hk_216 rfl wk_1076_5 rfl rfl ?_
    refine kg_iload hk_216 rfl rfl rfl ?_
    refine wf_gd hF (fun g31 hF => ?_)
    refine kg_ald (y := (h16 1081 x1.toNatClampNeg)) hk_216 rfl wc_1081 g31 rfl rfl ?_
    refine kg_push (x := 2) hk_216 rfl (by decide) rfl ?_
    refine wf_if hF (fun c32 hF => ?_) (fun c32 hF => ?_)
    · refine kg_icF hk_216 rfl (jc_F1 c32) rfl ?_
      refine kg_aload hk_216 rfl rfl rfl ?_
      refine kg_aload hk_216 rfl rfl rfl ?_
      refine wf_bind hF (fun v33 hv33 hF => ?_)
      refine kg_call (as := [.ref (1076 + 1), .ref (q4 + 1)]) (rest := []) hk_216 rfl (Or.inr (Or.inr (Or.inr ⟨Or.inl rfl, _, _, rfl, wc_1076⟩))) rfl rfl rfl (Nat.not_lt.mpr (Nat.le_of_ble_eq_true rfl)) (p_213_ok t4 hv33) (by decide) rfl ?_
      refine kg_goto hk_216 rfl ?_
      exact q_216_93_ok t3 hF _ _ _ _ _
    · refine kg_icT hk_216 rfl (jc_T1 c32) ?_
      refine kg_aload hk_216 rfl rfl rfl ?_
      refine kg_aload hk_216 rfl rfl rfl ?_
      refine wf_bind hF (fun v34 hv34 hF => ?_)
      refine kg_call (as := [.ref (1076 + 1), .ref (q4 + 1)]) (rest := []) hk_216 rfl (Or.inr (Or.inr (Or.inr ⟨Or.inl rfl, _, _, rfl, wc_1076⟩))) rfl rfl rfl (Nat.not_lt.mpr (Nat.le_of_ble_eq_true rfl)) (p_208_ok t4 hv34) (by decide) rfl ?_
      exact q_216_93_ok t3 hF _ _ _ _ _
def q_216_30 (h : Hp) (x1 : Int32) (q3 : Nat) (q4 : Nat) : Option (Int32 × Hp) :=
  q_216_31 h x1 q3 q4 0
theorem q_216_30_ok {X : List Int32}   {h : Hp} {q3 : Nat} {q4 : Nat} {x1 : Int32} (t3 : w_tab[q3]? = some (50, (w_len q3), [])) (t4 : w_tab[q4]? = some (50, (w_len q4), [])) {r : Int32 × Hp} (hF : q_216_30 h x1 q3 q4 = some r)  : ∀ (u2 : Value) (u5 : Value) (u6 : Value) (u7 : Value), k_Go X 9 216 (30, [.ref (1076 + 1), .int x1, u2, .ref (q3 + 1), .ref (q4 + 1), u5, u6, u7], [.ref (1076 + 1)]) h (.inl (some (.int r.1)), r.2) := by
  intro u2 u5 u6 u7
  unfold q_216_30 at hF
  refine kg_push (x := 0) hk_216 rfl (by decide) rfl ?_
  exact q_216_31_ok t3 t4 hF _ _ _ _
def p_216 (h : Hp) (x1 : Int32) (x2 : Int32) (q3 : Nat) (q4 : Nat) : Option (Int32 × Hp) :=
  w_let (w_up h 1076 77 x1) fun h1 =>
  w_let (w_up h1 1076 29 x2) fun h2 =>
  w_let (w_up h2 1076 30 0) fun h3 =>
  if x2 = 0 then
    (q_216_30 h3 x1 q3 q4)
  else
    (w_gd (w_ix x1 16) <|
    (p_214 h3 x1 1097 (40 * x1) (h3 1098 x1.toNatClampNeg)).bind fun v36 =>
    w_gd ((if v36 = 0 then true else w_ix x1 16)) <|
    q_216_31 h3 x1 q3 q4 (if v36 = 0 then 0 else (h3 1096 x1.toNatClampNeg)))
theorem p_216_ok {X : List Int32}  {h : Hp} {x1 : Int32} {x2 : Int32} {q3 : Nat} {q4 : Nat} (t3 : w_tab[q3]? = some (50, w_len q3, [])) (t4 : w_tab[q4]? = some (50, w_len q4, [])) {r : Int32 × Hp} (hF : p_216 h x1 x2 q3 q4 = some r) : k_Ev X 9 216 [.ref (1076 + 1), .int x1, .int x2, .ref (q3 + 1), .ref (q4 + 1)] h (.inl (some (.int r.1)), r.2) := by
  refine k_of hk_216 ?_
  show k_Go X 9 216 (0, [.ref (1076 + 1), .int x1, .int x2, .ref (q3 + 1), .ref (q4 + 1), (.retAddr 0), (.retAddr 0), (.retAddr 0)], []) h _
  unfold p_216 at hF
  refine kg_aload hk_216 rfl rfl rfl ?_
  refine kg_iload hk_216 rfl rfl rfl ?_
  refine wf_let hF (fun h1 hh1 hF => ?_)
  refine kg_put hk_216 rfl wk_1076_77 rfl rfl hh1 rfl ?_
  refine kg_aload hk_216 rfl rfl rfl ?_
  refine kg_iload hk_216 rfl rfl rfl ?_
  refine wf_let hF (fun h2 hh2 hF => ?_)
  refine kg_put hk_216 rfl wk_1076_29 rfl rfl hh2 rfl ?_
  refine kg_aload hk_216 rfl rfl rfl ?_
  refine kg_push (x := 0) hk_216 rfl (by decide) rfl ?_
  refine wf_let hF (fun h3 hh3 hF => ?_)
  refine kg_put hk_216 rfl wk_1076_30 rfl rfl hh3 rfl ?_
  refine kg_aload hk_216 rfl rfl rfl ?_
  refine kg_iload hk_216 rfl rfl rfl ?_
  refine wf_if hF (fun c4 hF => ?_) (fun c4 hF => ?_)
  · refine kg_ifT hk_216 rfl (jc_T0 c4) ?_
    exact q_216_30_ok t3 t4 hF _ _ _ _
  · refine kg_ifF hk_216 rfl (jc_F0 c4) rfl ?_
    refine kg_aload hk_216 rfl rfl rfl ?_
    refine kg_iload hk_216 rfl rfl rfl ?_
    refine kg_aload hk_216 rfl rfl rfl ?_
    refine kg_get (v := .ref (1097 + 1)) hk_216 rfl wk_1076_25 rfl rfl ?_
    refine kg_push (x := 40) hk_216 rfl (by decide) rfl ?_
    refine kg_iload hk_216 rfl rfl rfl ?_
    refine kg_bin (z := (40 * x1)) hk_216 rfl rfl rfl ?_
    refine kg_aload hk_216 rfl rfl rfl ?_
    refine kg_get (v := .ref (1098 + 1)) hk_216 rfl wk_1076_26 rfl rfl ?_
    refine kg_iload hk_216 rfl rfl rfl ?_
    refine wf_gd hF (fun g35 hF => ?_)
    refine kg_ald (y := (h3 1098 x1.toNatClampNeg)) hk_216 rfl wc_1098 g35 rfl rfl ?_
    refine wf_bind hF (fun v36 hv36 hF => ?_)
    refine kg_call (as := [.ref (1076 + 1), .int x1, .ref (1097 + 1), .int (40 * x1), .int (h3 1098 x1.toNatClampNeg)]) (rest := [.ref (1076 + 1)]) hk_216 rfl (Or.inr (Or.inr (Or.inr ⟨Or.inl rfl, _, _, rfl, wc_1076⟩))) rfl rfl rfl (Nat.not_lt.mpr (Nat.le_of_ble_eq_true rfl)) (p_214_ok wc_1097 hv36) (by decide) rfl ?_
    refine wf_gd hF (fun g39 hF => ?_)
    refine kv_mid (p := 31) (L := [.ref (1076 + 1), .int x1, .int x2, .ref (q3 + 1), .ref (q4 + 1), (.retAddr 0), (.retAddr 0), (.retAddr 0)]) (S := [.int (if v36 = 0 then 0 else (h3 1096 x1.toNatClampNeg)), .ref (1076 + 1)]) ?_ (fun hK => ?_)
    · exact q_216_31_ok t3 t4 hF _ _ _ _
    · have hg := g39
      by_cases c37 : v36 = 0
      · have hK := kv_T c37 hK
        refine kg_ifT hk_216 rfl (jc_T0 c37) ?_
        refine kg_push (x := 0) hk_216 rfl (by decide) rfl ?_
        exact hK
      · have hg := wv_F c37 hg
        have hK := kv_F c37 hK
        have g38 := hg
        refine kg_ifF hk_216 rfl (jc_F0 c37) rfl ?_
        refine kg_aload hk_216 rfl rfl rfl ?_
        refine kg_get (v := .ref (1096 + 1)) hk_216 rfl wk_1076_24 rfl rfl ?_
        refine kg_iload hk_216 rfl rfl rfl ?_
        refine kg_ald (y := (h3 1096 x1.toNatClampNeg)) hk_216 rfl wc_1096 g38 rfl rfl ?_
        refine kg_goto hk_216 rfl ?_
        exact hK
-- NotebookWeirModel.keepsValues(I[II)V
theorem hk_219 : jP[219]? = some (jc_219, 5, [], []) := by rfl
def l_219_2 (x1 : Int32) (q2 : Nat) (x3 : Int32) (x4 : Int32) (h : Hp) : Option ((Int32 × Hp) ⊕ Hp) :=
  if x4 < 26 then
    (w_gd (w_ix x1 16) <|
    if (((h 1085 x1.toNatClampNeg) >>> (x4 &&& 31)) &&& 1) = 1 then
      ((p_194 h x1 (97 + x4)).bind fun v4 =>
      (p_193 v4.2 1132 0 q2 (x3 + (9 * x4))).bind fun v5 =>
      some (.inl ((x4 + 1), v5)))
    else
      (some (.inl ((x4 + 1), h))))
  else
    (some (.inr h))
theorem l_219_2_st {X : List Int32} {o : kO}  {h : Hp} {q2 : Nat} {x1 : Int32} {x3 : Int32} {x4 : Int32} (t2 : w_tab[q2]? = some (50, (w_len q2), [])) {r : (Int32 × Hp) ⊕ Hp} (hF : l_219_2 x1 q2 x3 x4 h = some r) (hK : ∀ s' : Int32 × Hp, r = .inl s' → k_Go X 5 219 (2, [.ref (1076 + 1), .int x1, .ref (q2 + 1), .int x3, .int (s'.1)], []) s'.2 o) (hX0 : ∀ e : Hp, r = .inr e → (.inl none, e) = o) : k_Go X 5 219 (2, [.ref (1076 + 1), .int x1, .ref (q2 + 1), .int x3, .int x4], []) h o := by
  refine kg_iload hk_219 rfl rfl rfl ?_
  refine kg_push (x := 26) hk_219 rfl (by decide) rfl ?_
  refine wf_if hF (fun c1 hF => ?_) (fun c1 hF => ?_)
  · refine kg_icF hk_219 rfl (jc_F3 c1) rfl ?_
    refine kg_aload hk_219 rfl rfl rfl ?_
    refine kg_get (v := .ref (1085 + 1)) hk_219 rfl wk_1076_9 rfl rfl ?_
    refine kg_iload hk_219 rfl rfl rfl ?_
    refine wf_gd hF (fun g2 hF => ?_)
    refine kg_ald (y := (h 1085 x1.toNatClampNeg)) hk_219 rfl wc_1085 g2 rfl rfl ?_
    refine kg_iload hk_219 rfl rfl rfl ?_
    refine kg_bin (z := ((h 1085 x1.toNatClampNeg) >>> (x4 &&& 31))) hk_219 rfl rfl rfl ?_
    refine kg_push (x := 1) hk_219 rfl (by decide) rfl ?_
    refine kg_bin (z := (((h 1085 x1.toNatClampNeg) >>> (x4 &&& 31)) &&& 1)) hk_219 rfl rfl rfl ?_
    refine kg_push (x := 1) hk_219 rfl (by decide) rfl ?_
    refine wf_if hF (fun c3 hF => ?_) (fun c3 hF => ?_)
    · refine kg_icF hk_219 rfl (jc_F1 c3) rfl ?_
      refine kg_aload hk_219 rfl rfl rfl ?_
      refine kg_iload hk_219 rfl rfl rfl ?_
      refine kg_push (x := 97) hk_219 rfl (by decide) rfl ?_
      refine kg_iload hk_219 rfl rfl rfl ?_
      refine kg_bin (z := (97 + x4)) hk_219 rfl rfl rfl ?_
      refine wf_bind hF (fun v4 hv4 hF => ?_)
      refine kg_call (as := [.ref (1076 + 1), .int x1, .int (97 + x4)]) (rest := []) hk_219 rfl (Or.inr (Or.inr (Or.inr ⟨Or.inl rfl, _, _, rfl, wc_1076⟩))) rfl rfl rfl (Nat.not_lt.mpr (Nat.le_of_ble_eq_true rfl)) (p_194_ok hv4) (by decide) rfl ?_
      refine kg_pop hk_219 rfl rfl rfl ?_
      refine kg_aload hk_219 rfl rfl rfl ?_
      refine kg_aload hk_219 rfl rfl rfl ?_
      refine kg_get (v := .ref (1132 + 1)) hk_219 rfl wk_1076_78 rfl rfl ?_
      refine kg_push (x := 0) hk_219 rfl (by decide) rfl ?_
      refine kg_aload hk_219 rfl rfl rfl ?_
      refine kg_iload hk_219 rfl rfl rfl ?_
      refine kg_push (x := 9) hk_219 rfl (by decide) rfl ?_
      refine kg_iload hk_219 rfl rfl rfl ?_
      refine kg_bin (z := (9 * x4)) hk_219 rfl rfl rfl ?_
      refine kg_bin (z := (x3 + (9 * x4))) hk_219 rfl rfl rfl ?_
      refine wf_bind hF (fun v5 hv5 hF => ?_)
      refine kg_call (as := [.ref (1076 + 1), .ref (1132 + 1), .int 0, .ref (q2 + 1), .int (x3 + (9 * x4))]) (rest := []) hk_219 rfl (Or.inr (Or.inr (Or.inr ⟨Or.inl rfl, _, _, rfl, wc_1076⟩))) rfl rfl rfl (Nat.not_lt.mpr (Nat.le_of_ble_eq_true rfl)) (p_193_ok wc_1132 t2 hv5) (by decide) rfl ?_
      refine kg_iinc (y := (x4 + 1)) (L2 := [.ref (1076 + 1), .int x1, .ref (q2 + 1), .int x3, .int (x4 + 1)]) hk_219 rfl rfl rfl rfl rfl ?_
      refine kg_goto hk_219 rfl ?_
      have hF := Option.some.inj hF
      exact hK _ hF.symm
    · refine kg_icT hk_219 rfl (jc_T1 c3) ?_
      refine kg_iinc (y := (x4 + 1)) (L2 := [.ref (1076 + 1), .int x1, .ref (q2 + 1), .int x3, .int (x4 + 1)]) hk_219 rfl rfl rfl rfl rfl ?_
      refine kg_goto hk_219 rfl ?_
      have hF := Option.some.inj hF
      exact hK _ hF.symm
  · refine kg_icT hk_219 rfl (jc_T3 c1) ?_
    have hF := Option.some.inj hF
    exact kg_ret hk_219 rfl (hX0 _ hF.symm)
theorem l_219_2_ok {X : List Int32} {o : kO}  {q2 : Nat} {x1 : Int32} {x3 : Int32} (t2 : w_tab[q2]? = some (50, (w_len q2), [])) {n : Nat} {s : Int32 × Hp} {e : Hp} (hF : w_lp (fun (s : Int32 × Hp) => l_219_2 x1 q2 x3 s.1 s.2) n s = some e) (hX0 : (.inl none, e) = o) : k_Go X 5 219 (2, [.ref (1076 + 1), .int x1, .ref (q2 + 1), .int x3, .int s.1], []) s.2 o := by
  exact w_lp_ok (P := (fun (s : Int32 × Hp) => k_Go X 5 219 (2, [.ref (1076 + 1), .int x1, .ref (q2 + 1), .int x3, .int s.1], []) s.2 o)) (Q := (fun (e : Hp) => ((.inl none, e) = o))) (fun s r hF hK hX => l_219_2_st t2 hF hK (fun x hx => (hX _ hx))) n s e hF hX0
def p_219 (h : Hp) (x1 : Int32) (q2 : Nat) (x3 : Int32) : Option (Hp) :=
  w_lp (fun (s : Int32 × Hp) => l_219_2 x1 q2 x3 s.1 s.2) w_N (0, h)
theorem p_219_ok {X : List Int32}  {h : Hp} {x1 : Int32} {q2 : Nat} {x3 : Int32} (t2 : w_tab[q2]? = some (50, w_len q2, [])) {r : Hp} (hF : p_219 h x1 q2 x3 = some r) : k_Ev X 5 219 [.ref (1076 + 1), .int x1, .ref (q2 + 1), .int x3] h (.inl none, r) := by
  refine k_of hk_219 ?_
  show k_Go X 5 219 (0, [.ref (1076 + 1), .int x1, .ref (q2 + 1), .int x3, (.retAddr 0)], []) h _
  unfold p_219 at hF
  refine kg_push (x := 0) hk_219 rfl (by decide) rfl ?_
  refine kg_istore (L2 := [.ref (1076 + 1), .int x1, .ref (q2 + 1), .int x3, .int 0]) hk_219 rfl (Nat.le_of_ble_eq_true rfl) rfl rfl ?_
  exact l_219_2_ok t2 hF rfl
-- NotebookWeirModel.moves([IIII)V
theorem hk_221 : jP[221]? = some (jc_221, 5, [], []) := by rfl
def l_221_2 (q0 : Nat) (x1 : Int32) (x2 : Int32) (x3 : Int32) (x4 : Int32) (h : Hp) : Option ((Int32 × Hp) ⊕ Hp) :=
  if x4 < x3 then
    (w_gd (w_ix (x1 + x4) (w_len q0)) <|
    w_gd (w_ix (x2 + x4) (w_len q0)) <|
    w_let (w_up h q0 ((x2 + x4).toNatClampNeg) (h q0 (x1 + x4).toNatClampNeg)) fun h4 =>
    some (.inl ((x4 + 1), h4)))
  else
    (some (.inr h))
theorem l_221_2_st {X : List Int32} {o : kO}  {h : Hp} {q0 : Nat} {x1 : Int32} {x2 : Int32} {x3 : Int32} {x4 : Int32} (t0 : w_tab[q0]? = some (50, (w_len q0), [])) {r : (Int32 × Hp) ⊕ Hp} (hF : l_221_2 q0 x1 x2 x3 x4 h = some r) (hK : ∀ s' : Int32 × Hp, r = .inl s' → k_Go X 0 221 (2, [.ref (q0 + 1), .int x1, .int x2, .int x3, .int (s'.1)], []) s'.2 o) (hX0 : ∀ e : Hp, r = .inr e → (.inl none, e) = o) : k_Go X 0 221 (2, [.ref (q0 + 1), .int x1, .int x2, .int x3, .int x4], []) h o := by
  refine kg_iload hk_221 rfl rfl rfl ?_
  refine kg_iload hk_221 rfl rfl rfl ?_
  refine wf_if hF (fun c1 hF => ?_) (fun c1 hF => ?_)
  · refine kg_icF hk_221 rfl (jc_F3 c1) rfl ?_
    refine kg_aload hk_221 rfl rfl rfl ?_
    refine kg_iload hk_221 rfl rfl rfl ?_
    refine kg_iload hk_221 rfl rfl rfl ?_
    refine kg_bin (z := (x2 + x4)) hk_221 rfl rfl rfl ?_
    refine kg_aload hk_221 rfl rfl rfl ?_
    refine kg_iload hk_221 rfl rfl rfl ?_
    refine kg_iload hk_221 rfl rfl rfl ?_
    refine kg_bin (z := (x1 + x4)) hk_221 rfl rfl rfl ?_
    refine wf_gd hF (fun g2 hF => ?_)
    refine kg_ald (y := (h q0 (x1 + x4).toNatClampNeg)) hk_221 rfl t0 g2 rfl rfl ?_
    refine wf_gd hF (fun g3 hF => ?_)
    refine wf_let hF (fun h4 hh4 hF => ?_)
    refine kg_ast hk_221 rfl t0 g3 (by rw [j_nar50]; exact hh4) rfl ?_
    refine kg_iinc (y := (x4 + 1)) (L2 := [.ref (q0 + 1), .int x1, .int x2, .int x3, .int (x4 + 1)]) hk_221 rfl rfl rfl rfl rfl ?_
    refine kg_goto hk_221 rfl ?_
    have hF := Option.some.inj hF
    exact hK _ hF.symm
  · refine kg_icT hk_221 rfl (jc_T3 c1) ?_
    have hF := Option.some.inj hF
    exact kg_ret hk_221 rfl (hX0 _ hF.symm)
theorem l_221_2_ok {X : List Int32} {o : kO}  {q0 : Nat} {x1 : Int32} {x2 : Int32} {x3 : Int32} (t0 : w_tab[q0]? = some (50, (w_len q0), [])) {n : Nat} {s : Int32 × Hp} {e : Hp} (hF : w_lp (fun (s : Int32 × Hp) => l_221_2 q0 x1 x2 x3 s.1 s.2) n s = some e) (hX0 : (.inl none, e) = o) : k_Go X 0 221 (2, [.ref (q0 + 1), .int x1, .int x2, .int x3, .int s.1], []) s.2 o := by
  exact w_lp_ok (P := (fun (s : Int32 × Hp) => k_Go X 0 221 (2, [.ref (q0 + 1), .int x1, .int x2, .int x3, .int s.1], []) s.2 o)) (Q := (fun (e : Hp) => ((.inl none, e) = o))) (fun s r hF hK hX => l_221_2_st t0 hF hK (fun x hx => (hX _ hx))) n s e hF hX0
def p_221 (h : Hp) (q0 : Nat) (x1 : Int32) (x2 : Int32) (x3 : Int32) : Option (Hp) :=
  w_lp (fun (s : Int32 × Hp) => l_221_2 q0 x1 x2 x3 s.1 s.2) w_N (0, h)
theorem p_221_ok {X : List Int32}  {h : Hp} {q0 : Nat} {x1 : Int32} {x2 : Int32} {x3 : Int32} (t0 : w_tab[q0]? = some (50, w_len q0, [])) {r : Hp} (hF : p_221 h q0 x1 x2 x3 = some r) : k_Ev X 0 221 [.ref (q0 + 1), .int x1, .int x2, .int x3] h (.inl none, r) := by
  refine k_of hk_221 ?_
  show k_Go X 0 221 (0, [.ref (q0 + 1), .int x1, .int x2, .int x3, (.retAddr 0)], []) h _
  unfold p_221 at hF
  refine kg_push (x := 0) hk_221 rfl (by decide) rfl ?_
  refine kg_istore (L2 := [.ref (q0 + 1), .int x1, .int x2, .int x3, .int 0]) hk_221 rfl (Nat.le_of_ble_eq_true rfl) rfl rfl ?_
  exact l_221_2_ok t0 hF rfl
