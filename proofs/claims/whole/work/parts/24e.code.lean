/-! ===== the methods as functions over the flat heap, and that the interpreter does what they say (printed by wip/whole/dec.py) ===== -/
-- NotebookWeir$Widgets.add(III)I
theorem hk_89 : jP[89]? = some (jc_89, 5, [], []) := by rfl
def l_89_8 (h : Hp) (x1 : Int32) (x4 : Int32) : Option ((Int32) ⊕ (Unit ⊕ Int32 × Hp)) :=
  if x4 < (h 4 7) then
    (w_gd (w_ix x4 4) <|
    if (h 5 x4.toNatClampNeg) = x1 then
      (some (.inr (.inr ((-1), h))))
    else
      (some (.inl (x4 + 1))))
  else
    (some (.inr (.inl ())))
theorem l_89_8_st {X : List Int32} {o : kO}  {h : Hp} {x1 : Int32} {x2 : Int32} {x3 : Int32} {x4 : Int32}  {r : (Int32) ⊕ (Unit ⊕ Int32 × Hp)} (hF : l_89_8 h x1 x4 = some r) (hK : ∀ s' : Int32, r = .inl s' → k_Go X 0 89 (8, [.ref (4 + 1), .int x1, .int x2, .int x3, .int (s')], []) h o) (hX0 : ∀ x : Unit, r = .inr (.inl x) → ∀ (u4 : Value), k_Go X 0 89 (22, [.ref (4 + 1), .int x1, .int x2, .int x3, u4], []) h o) (hX1 : ∀ x : Int32 × Hp, r = .inr (.inr x) → (.inl (some (.int x.1)), x.2) = o) : k_Go X 0 89 (8, [.ref (4 + 1), .int x1, .int x2, .int x3, .int x4], []) h o := by
  refine kg_iload hk_89 rfl rfl rfl ?_
  refine kg_aload hk_89 rfl rfl rfl ?_
  refine kg_get (v := .int (h 4 7)) hk_89 rfl wk_4_7 rfl rfl ?_
  refine wf_if hF (fun cz2 hF => ?_) (fun cz2 hF => ?_)
  · refine kg_icF hk_89 rfl (jc_F3 cz2) rfl ?_
    refine kg_aload hk_89 rfl rfl rfl ?_
    refine kg_get (v := .ref (5 + 1)) hk_89 rfl wk_4_0 rfl rfl ?_
    refine kg_iload hk_89 rfl rfl rfl ?_
    refine wf_gd hF (fun gz3 hF => ?_)
    refine kg_ald (y := (h 5 x4.toNatClampNeg)) hk_89 rfl wc_5 gz3 rfl rfl ?_
    refine kg_iload hk_89 rfl rfl rfl ?_
    refine wf_if hF (fun cz4 hF => ?_) (fun cz4 hF => ?_)
    · refine kg_icF hk_89 rfl (jc_F1 cz4) rfl ?_
      refine kg_push (x := (-1)) hk_89 rfl (by decide) rfl ?_
      have hF := Option.some.inj hF
      exact kg_iret hk_89 rfl (Or.inl rfl) (hX1 _ hF.symm)
    · refine kg_icT hk_89 rfl (jc_T1 cz4) ?_
      refine kg_iinc (y := (x4 + 1)) (L2 := [.ref (4 + 1), .int x1, .int x2, .int x3, .int (x4 + 1)]) hk_89 rfl rfl rfl rfl rfl ?_
      refine kg_goto hk_89 rfl ?_
      have hF := Option.some.inj hF
      exact hK _ hF.symm
  · refine kg_icT hk_89 rfl (jc_T3 cz2) ?_
    have hF := Option.some.inj hF
    exact hX0 _ hF.symm _
theorem l_89_8_ok {X : List Int32} {o : kO}  {h : Hp} {x1 : Int32} {x2 : Int32} {x3 : Int32}  {n : Nat} {s : Int32} {e : (Unit ⊕ Int32 × Hp)} (hF : w_lp (fun (s : Int32) => l_89_8 h x1 s) n s = some e) (hX0 : ∀ x : Unit, e = (.inl x) → ∀ (u4 : Value), k_Go X 0 89 (22, [.ref (4 + 1), .int x1, .int x2, .int x3, u4], []) h o) (hX1 : ∀ x : Int32 × Hp, e = (.inr x) → (.inl (some (.int x.1)), x.2) = o) : k_Go X 0 89 (8, [.ref (4 + 1), .int x1, .int x2, .int x3, .int s], []) h o := by
  exact w_lp_ok (P := (fun (s : Int32) => k_Go X 0 89 (8, [.ref (4 + 1), .int x1, .int x2, .int x3, .int s], []) h o)) (Q := (fun (e : (Unit ⊕ Int32 × Hp)) => (∀ x : Unit, e = (.inl x) → ∀ (u4 : Value), k_Go X 0 89 (22, [.ref (4 + 1), .int x1, .int x2, .int x3, u4], []) h o) ∧ (∀ x : Int32 × Hp, e = (.inr x) → (.inl (some (.int x.1)), x.2) = o))) (fun s r hF hK hX => l_89_8_st hF hK (fun x hx => (hX _ hx).1 x rfl) (fun x hx => (hX _ hx).2 x rfl)) n s e hF ⟨hX0, hX1⟩
def p_89 (h : Hp) (x1 : Int32) (x2 : Int32) (x3 : Int32) : Option (Int32 × Hp) :=
  if (h 4 7) < 4 then
    ((w_lp (fun (s : Int32) => l_89_8 h x1 s) w_N 0).bind <| (Sum.elim (fun yz6 =>
      (w_gd (w_ix (h 4 7) 4) <|
      w_let (w_up h 5 ((h 4 7).toNatClampNeg) x1) fun hz9 =>
      w_gd (w_ix (hz9 4 7) 4) <|
      w_let (w_up hz9 6 ((hz9 4 7).toNatClampNeg) x2) fun hz11 =>
      w_gd (w_ix (hz11 4 7) 4) <|
      w_let (w_up hz11 7 ((hz11 4 7).toNatClampNeg) x3) fun hz13 =>
      w_gd (w_ix (hz13 4 7) 4) <|
      w_let (w_up hz13 8 ((hz13 4 7).toNatClampNeg) x2) fun hz15 =>
      w_let (w_up hz15 4 7 ((hz15 4 7) + 1)) fun hz16 =>
      some (((hz16 4 7) - 1), hz16))) (fun yz7 =>
      (some yz7))))
  else
    (some ((-1), h))
theorem p_89_ok {X : List Int32}  {h : Hp} {x1 : Int32} {x2 : Int32} {x3 : Int32}  {r : Int32 × Hp} (hF : p_89 h x1 x2 x3 = some r) : k_Ev X 0 89 [.ref (4 + 1), .int x1, .int x2, .int x3] h (.inl (some (.int r.1)), r.2) := by
  refine k_of hk_89 ?_
  show k_Go X 0 89 (0, [.ref (4 + 1), .int x1, .int x2, .int x3, (.retAddr 0)], []) h _
  unfold p_89 at hF
  refine kg_aload hk_89 rfl rfl rfl ?_
  refine kg_get (v := .int (h 4 7)) hk_89 rfl wk_4_7 rfl rfl ?_
  refine kg_push (x := 4) hk_89 rfl (by decide) rfl ?_
  refine wf_if hF (fun cz1 hF => ?_) (fun cz1 hF => ?_)
  · refine kg_icT hk_89 rfl (jc_T2 cz1) ?_
    refine kg_push (x := 0) hk_89 rfl (by decide) rfl ?_
    refine kg_istore (L2 := [.ref (4 + 1), .int x1, .int x2, .int x3, .int 0]) hk_89 rfl (Nat.le_of_ble_eq_true rfl) rfl rfl ?_
    refine wf_bind hF (fun ez5 hez5 hF => ?_)
    refine l_89_8_ok hez5 ?_ ?_
    · intro yz6 hx
      subst hx
      refine wf_inl hF (fun hF => ?_)
      intro u4
      refine kg_aload hk_89 rfl rfl rfl ?_
      refine kg_get (v := .ref (5 + 1)) hk_89 rfl wk_4_0 rfl rfl ?_
      refine kg_aload hk_89 rfl rfl rfl ?_
      refine kg_get (v := .int (h 4 7)) hk_89 rfl wk_4_7 rfl rfl ?_
      refine kg_iload hk_89 rfl rfl rfl ?_
      refine wf_gd hF (fun gz8 hF => ?_)
      refine wf_let hF (fun hz9 hhz9 hF => ?_)
      refine kg_ast hk_89 rfl wc_5 gz8 hhz9 rfl ?_
      refine kg_aload hk_89 rfl rfl rfl ?_
      refine kg_get (v := .ref (6 + 1)) hk_89 rfl wk_4_1 rfl rfl ?_
      refine kg_aload hk_89 rfl rfl rfl ?_
      refine kg_get (v := .int (hz9 4 7)) hk_89 rfl wk_4_7 rfl rfl ?_
      refine kg_iload hk_89 rfl rfl rfl ?_
      refine wf_gd hF (fun gz10 hF => ?_)
      refine wf_let hF (fun hz11 hhz11 hF => ?_)
      refine kg_ast hk_89 rfl wc_6 gz10 hhz11 rfl ?_
      refine kg_aload hk_89 rfl rfl rfl ?_
      refine kg_get (v := .ref (7 + 1)) hk_89 rfl wk_4_2 rfl rfl ?_
      refine kg_aload hk_89 rfl rfl rfl ?_
      refine kg_get (v := .int (hz11 4 7)) hk_89 rfl wk_4_7 rfl rfl ?_
      refine kg_iload hk_89 rfl rfl rfl ?_
      refine wf_gd hF (fun gz12 hF => ?_)
      refine wf_let hF (fun hz13 hhz13 hF => ?_)
      refine kg_ast hk_89 rfl wc_7 gz12 hhz13 rfl ?_
      refine kg_aload hk_89 rfl rfl rfl ?_
      refine kg_get (v := .ref (8 + 1)) hk_89 rfl wk_4_3 rfl rfl ?_
      refine kg_aload hk_89 rfl rfl rfl ?_
      refine kg_get (v := .int (hz13 4 7)) hk_89 rfl wk_4_7 rfl rfl ?_
      refine kg_iload hk_89 rfl rfl rfl ?_
      refine wf_gd hF (fun gz14 hF => ?_)
      refine wf_let hF (fun hz15 hhz15 hF => ?_)
      refine kg_ast hk_89 rfl wc_8 gz14 hhz15 rfl ?_
      refine kg_aload hk_89 rfl rfl rfl ?_
      refine kg_dup hk_89 rfl rfl rfl ?_
      refine kg_get (v := .int (hz15 4 7)) hk_89 rfl wk_4_7 rfl rfl ?_
      refine kg_push (x := 1) hk_89 rfl (by decide) rfl ?_
      refine kg_bin (z := ((hz15 4 7) + 1)) hk_89 rfl rfl rfl ?_
      refine wf_let hF (fun hz16 hhz16 hF => ?_)
      refine kg_put hk_89 rfl wk_4_7 rfl rfl hhz16 rfl ?_
      refine kg_aload hk_89 rfl rfl rfl ?_
      refine kg_get (v := .int (hz16 4 7)) hk_89 rfl wk_4_7 rfl rfl ?_
      refine kg_push (x := 1) hk_89 rfl (by decide) rfl ?_
      refine kg_bin (z := ((hz16 4 7) - 1)) hk_89 rfl rfl rfl ?_
      have hF := Option.some.inj hF
      subst hF
      exact kg_iret hk_89 rfl (Or.inl rfl) rfl
    · intro yz7 hx
      subst hx
      refine wf_inr hF (fun hF => ?_)
      have hF := Option.some.inj hF
      subst hF
      rfl
  · refine kg_icF hk_89 rfl (jc_F2 cz1) rfl ?_
    refine kg_push (x := (-1)) hk_89 rfl (by decide) rfl ?_
    have hF := Option.some.inj hF
    subst hF
    exact kg_iret hk_89 rfl (Or.inl rfl) rfl
-- NotebookWeir$Widgets.tie(II)Z
theorem hk_90 : jP[90]? = some (jc_90, 3, [], []) := by rfl
def p_90 (h : Hp) (x1 : Int32) (x2 : Int32) : Option (Int32 × Hp) :=
  if (v_88 h x1) = 0 then
    (some (0, h))
  else
    (if (v_88 h x2) = 0 then
      (some (0, h))
    else
      (w_gd (w_ix x1 4) <|
      w_gd (w_ix x1 4) <|
      w_let (w_up h 10 x1.toNatClampNeg ((h 10 x1.toNatClampNeg) ^^^ (1 <<< (x2 &&& 31)))) fun hz5 =>
      w_gd (w_ix x2 4) <|
      w_gd (w_ix x2 4) <|
      w_let (w_up hz5 10 x2.toNatClampNeg ((hz5 10 x2.toNatClampNeg) ^^^ (1 <<< (x1 &&& 31)))) fun hz8 =>
      w_gd (w_ix x1 4) <|
      some ((v_126 (hz8 10 x1.toNatClampNeg) x2), hz8)))
theorem p_90_ok {X : List Int32}  {h : Hp} {x1 : Int32} {x2 : Int32}  {r : Int32 × Hp} (hF : p_90 h x1 x2 = some r) : k_Ev X 1 90 [.ref (4 + 1), .int x1, .int x2] h (.inl (some (.int r.1)), r.2) := by
  refine k_of hk_90 ?_
  show k_Go X 1 90 (0, [.ref (4 + 1), .int x1, .int x2], []) h _
  unfold p_90 at hF
  refine kg_aload hk_90 rfl rfl rfl ?_
  refine kg_iload hk_90 rfl rfl rfl ?_
  refine kg_call (as := [.ref (4 + 1), .int x1]) (rest := []) hk_90 rfl (Or.inr (Or.inr (Or.inr ⟨Or.inl rfl, _, _, rfl, wc_4⟩))) rfl rfl rfl (Nat.not_lt.mpr (Nat.le_of_ble_eq_true rfl)) (v_88_ok) (by decide) rfl ?_
  refine wf_if hF (fun cz1 hF => ?_) (fun cz1 hF => ?_)
  · refine kg_ifT hk_90 rfl (jc_T0 cz1) ?_
    refine kg_push (x := 0) hk_90 rfl (by decide) rfl ?_
    have hF := Option.some.inj hF
    subst hF
    exact kg_iret hk_90 rfl (Or.inr rfl) rfl
  · refine kg_ifF hk_90 rfl (jc_F0 cz1) rfl ?_
    refine kg_aload hk_90 rfl rfl rfl ?_
    refine kg_iload hk_90 rfl rfl rfl ?_
    refine kg_call (as := [.ref (4 + 1), .int x2]) (rest := []) hk_90 rfl (Or.inr (Or.inr (Or.inr ⟨Or.inl rfl, _, _, rfl, wc_4⟩))) rfl rfl rfl (Nat.not_lt.mpr (Nat.le_of_ble_eq_true rfl)) (v_88_ok) (by decide) rfl ?_
    refine wf_if hF (fun cz2 hF => ?_) (fun cz2 hF => ?_)
    · refine kg_ifF hk_90 rfl (jc_F1 cz2) rfl ?_
      refine kg_push (x := 0) hk_90 rfl (by decide) rfl ?_
      have hF := Option.some.inj hF
      subst hF
      exact kg_iret hk_90 rfl (Or.inr rfl) rfl
    · refine kg_ifT hk_90 rfl (jc_T1 cz2) ?_
      refine kg_aload hk_90 rfl rfl rfl ?_
      refine kg_get (v := .ref (10 + 1)) hk_90 rfl wk_4_5 rfl rfl ?_
      refine kg_iload hk_90 rfl rfl rfl ?_
      refine kg_dup2 hk_90 rfl ⟨rfl, rfl⟩ rfl ?_
      refine wf_gd hF (fun gz3 hF => ?_)
      refine kg_ald (y := (h 10 x1.toNatClampNeg)) hk_90 rfl wc_10 gz3 rfl rfl ?_
      refine kg_push (x := 1) hk_90 rfl (by decide) rfl ?_
      refine kg_iload hk_90 rfl rfl rfl ?_
      refine kg_bin (z := (1 <<< (x2 &&& 31))) hk_90 rfl rfl rfl ?_
      refine kg_bin (z := ((h 10 x1.toNatClampNeg) ^^^ (1 <<< (x2 &&& 31)))) hk_90 rfl rfl rfl ?_
      refine wf_gd hF (fun gz4 hF => ?_)
      refine wf_let hF (fun hz5 hhz5 hF => ?_)
      refine kg_ast hk_90 rfl wc_10 gz4 hhz5 rfl ?_
      refine kg_aload hk_90 rfl rfl rfl ?_
      refine kg_get (v := .ref (10 + 1)) hk_90 rfl wk_4_5 rfl rfl ?_
      refine kg_iload hk_90 rfl rfl rfl ?_
      refine kg_dup2 hk_90 rfl ⟨rfl, rfl⟩ rfl ?_
      refine wf_gd hF (fun gz6 hF => ?_)
      refine kg_ald (y := (hz5 10 x2.toNatClampNeg)) hk_90 rfl wc_10 gz6 rfl rfl ?_
      refine kg_push (x := 1) hk_90 rfl (by decide) rfl ?_
      refine kg_iload hk_90 rfl rfl rfl ?_
      refine kg_bin (z := (1 <<< (x1 &&& 31))) hk_90 rfl rfl rfl ?_
      refine kg_bin (z := ((hz5 10 x2.toNatClampNeg) ^^^ (1 <<< (x1 &&& 31)))) hk_90 rfl rfl rfl ?_
      refine wf_gd hF (fun gz7 hF => ?_)
      refine wf_let hF (fun hz8 hhz8 hF => ?_)
      refine kg_ast hk_90 rfl wc_10 gz7 hhz8 rfl ?_
      refine kg_aload hk_90 rfl rfl rfl ?_
      refine kg_get (v := .ref (10 + 1)) hk_90 rfl wk_4_5 rfl rfl ?_
      refine kg_iload hk_90 rfl rfl rfl ?_
      refine wf_gd hF (fun gz9 hF => ?_)
      refine kg_ald (y := (hz8 10 x1.toNatClampNeg)) hk_90 rfl wc_10 gz9 rfl rfl ?_
      refine kg_iload hk_90 rfl rfl rfl ?_
      refine kg_call (as := [.int (hz8 10 x1.toNatClampNeg), .int x2]) (rest := []) hk_90 rfl (Or.inr (Or.inl rfl)) rfl rfl rfl (Nat.not_lt.mpr (Nat.le_of_ble_eq_true rfl)) (v_126_ok) (by decide) rfl ?_
      have hF := Option.some.inj hF
      subst hF
      exact kg_iret hk_90 rfl (Or.inr (v_126_bo _ _)) rfl
-- NotebookWeir$Widgets.held(II)I
theorem hk_91 : jP[91]? = some (jc_91, 3, [], []) := by rfl
def v_91 (h : Hp) (x1 : Int32) (x2 : Int32) : Int32 := (if (v_88 h x1) = 0 then 0 else (if (h 6 x1.toNatClampNeg) < (if x2 < (h 7 x1.toNatClampNeg) then x2 else (h 7 x1.toNatClampNeg) : Int32) then (if x2 < (h 7 x1.toNatClampNeg) then x2 else (h 7 x1.toNatClampNeg) : Int32) else (h 6 x1.toNatClampNeg) : Int32) : Int32)
def g_91 (h : Hp) (x1 : Int32) (x2 : Int32) : Bool := (if (v_88 h x1) = 0 then true else (w_ix x1 4) && (w_ix x1 4))
theorem v_91_ok {X : List Int32} {h : Hp} {x1 : Int32} {x2 : Int32}  (hg : g_91 h x1 x2 = true) : k_Ev X 1 91 [.ref (4 + 1), .int x1, .int x2] h (.inl (some (.int (v_91 h x1 x2))), h) := by
  refine k_of hk_91 ?_
  show k_Go X 1 91 (0, [.ref (4 + 1), .int x1, .int x2], []) h _
  generalize hv : v_91 h x1 x2 = z
  unfold v_91 at hv
  unfold g_91 at hg
  have gz4 := hg
  refine kg_aload hk_91 rfl rfl rfl ?_
  refine kg_iload hk_91 rfl rfl rfl ?_
  refine kg_call (as := [.ref (4 + 1), .int x1]) (rest := []) hk_91 rfl (Or.inr (Or.inr (Or.inr ⟨Or.inl rfl, _, _, rfl, wc_4⟩))) rfl rfl rfl (Nat.not_lt.mpr (Nat.le_of_ble_eq_true rfl)) (v_88_ok) (by decide) rfl ?_
  refine kv_mid (p := 17) (L := [.ref (4 + 1), .int x1, .int x2]) (S := [.int (if (v_88 h x1) = 0 then 0 else (if (h 6 x1.toNatClampNeg) < (if x2 < (h 7 x1.toNatClampNeg) then x2 else (h 7 x1.toNatClampNeg) : Int32) then (if x2 < (h 7 x1.toNatClampNeg) then x2 else (h 7 x1.toNatClampNeg) : Int32) else (h 6 x1.toNatClampNeg) : Int32) : Int32)]) ?_ (fun hK => ?_)
  · exact kg_iret hk_91 rfl (Or.inl rfl) (by rw [hv])
  · have hg := gz4
    by_cases cz1 : (v_88 h x1) = 0
    · have hK := kv_T cz1 hK
      refine kg_ifT hk_91 rfl (jc_T0 cz1) ?_
      refine kg_push (x := 0) hk_91 rfl (by decide) rfl ?_
      exact hK
    · have hg := wv_F cz1 hg
      have hK := kv_F cz1 hK
      have gz2 := wb_1 hg
      have hg := wb_2 hg
      have gz3 := hg
      refine kg_ifF hk_91 rfl (jc_F0 cz1) rfl ?_
      refine kg_aload hk_91 rfl rfl rfl ?_
      refine kg_get (v := .ref (6 + 1)) hk_91 rfl wk_4_1 rfl rfl ?_
      refine kg_iload hk_91 rfl rfl rfl ?_
      refine kg_ald (y := (h 6 x1.toNatClampNeg)) hk_91 rfl wc_6 gz2 rfl rfl ?_
      refine kg_aload hk_91 rfl rfl rfl ?_
      refine kg_get (v := .ref (7 + 1)) hk_91 rfl wk_4_2 rfl rfl ?_
      refine kg_iload hk_91 rfl rfl rfl ?_
      refine kg_ald (y := (h 7 x1.toNatClampNeg)) hk_91 rfl wc_7 gz3 rfl rfl ?_
      refine kg_iload hk_91 rfl rfl rfl ?_
      refine kg_min hk_91 rfl (Nat.not_lt.mpr (Nat.le_of_ble_eq_true rfl)) rfl ?_
      refine kg_max hk_91 rfl (Nat.not_lt.mpr (Nat.le_of_ble_eq_true rfl)) rfl ?_
      refine kg_goto hk_91 rfl ?_
      exact hK
-- NotebookWeir$Widgets.set(II)V
theorem hk_92 : jP[92]? = some (jc_92, 3, [], []) := by rfl
def p_92 (h : Hp) (x1 : Int32) (x2 : Int32) : Option (Hp) :=
  if (v_88 h x1) = 0 then
    (some h)
  else
    (w_gd (w_ix x1 4) <|
    w_let (w_up h 9 x1.toNatClampNeg x2) fun hz3 =>
    w_let (w_up hz3 4 6 ((hz3 4 6) ||| (1 <<< (x1 &&& 31)))) fun hz4 =>
    some hz4)
theorem p_92_ok {X : List Int32}  {h : Hp} {x1 : Int32} {x2 : Int32}  {r : Hp} (hF : p_92 h x1 x2 = some r) : k_Ev X 1 92 [.ref (4 + 1), .int x1, .int x2] h (.inl none, r) := by
  refine k_of hk_92 ?_
  show k_Go X 1 92 (0, [.ref (4 + 1), .int x1, .int x2], []) h _
  unfold p_92 at hF
  refine kg_aload hk_92 rfl rfl rfl ?_
  refine kg_iload hk_92 rfl rfl rfl ?_
  refine kg_call (as := [.ref (4 + 1), .int x1]) (rest := []) hk_92 rfl (Or.inr (Or.inr (Or.inr ⟨Or.inl rfl, _, _, rfl, wc_4⟩))) rfl rfl rfl (Nat.not_lt.mpr (Nat.le_of_ble_eq_true rfl)) (v_88_ok) (by decide) rfl ?_
  refine wf_if hF (fun cz1 hF => ?_) (fun cz1 hF => ?_)
  · refine kg_ifT hk_92 rfl (jc_T0 cz1) ?_
    have hF := Option.some.inj hF
    subst hF
    exact kg_ret hk_92 rfl rfl
  · refine kg_ifF hk_92 rfl (jc_F0 cz1) rfl ?_
    refine kg_aload hk_92 rfl rfl rfl ?_
    refine kg_get (v := .ref (9 + 1)) hk_92 rfl wk_4_4 rfl rfl ?_
    refine kg_iload hk_92 rfl rfl rfl ?_
    refine kg_iload hk_92 rfl rfl rfl ?_
    refine wf_gd hF (fun gz2 hF => ?_)
    refine wf_let hF (fun hz3 hhz3 hF => ?_)
    refine kg_ast hk_92 rfl wc_9 gz2 hhz3 rfl ?_
    refine kg_aload hk_92 rfl rfl rfl ?_
    refine kg_dup hk_92 rfl rfl rfl ?_
    refine kg_get (v := .int (hz3 4 6)) hk_92 rfl wk_4_6 rfl rfl ?_
    refine kg_push (x := 1) hk_92 rfl (by decide) rfl ?_
    refine kg_iload hk_92 rfl rfl rfl ?_
    refine kg_bin (z := (1 <<< (x1 &&& 31))) hk_92 rfl rfl rfl ?_
    refine kg_bin (z := ((hz3 4 6) ||| (1 <<< (x1 &&& 31)))) hk_92 rfl rfl rfl ?_
    refine wf_let hF (fun hz4 hhz4 hF => ?_)
    refine kg_put hk_92 rfl wk_4_6 rfl rfl hhz4 rfl ?_
    have hF := Option.some.inj hF
    subst hF
    exact kg_ret hk_92 rfl rfl
-- NotebookWeir$Widgets.spread(II)I
theorem hk_95 : jP[95]? = some (jc_95, 7, [], []) := by rfl
def q_95_25 (h : Hp) (x1 : Int32) (x2 : Int32) (x3 : Int32) (x4 : Int32) (x5 : Int32) (s0 : Int32) : Option ((Int32 × Int32 × Hp) ⊕ Int32 × Hp) :=
  if s0 = 0 then
    (some (.inl (x3, (x5 + 1), h)))
  else
    (w_gd (w_ix x5 4) <|
    if ((h 10 x5.toNatClampNeg) &&& x3) = 0 then
      (some (.inl (x3, (x5 + 1), h)))
    else
      (w_gd (w_ix x1 4) <|
      w_gd (g_91 h x5 (h 9 x1.toNatClampNeg)) <|
      w_gd (w_ix x5 4) <|
      w_let (w_up h 8 x5.toNatClampNeg (v_91 h x5 (h 9 x1.toNatClampNeg))) fun hz10 =>
      some (.inl ((x3 ||| (1 <<< (x5 &&& 31))), (x5 + 1), hz10))))
theorem q_95_25_ok {X : List Int32} {o : kO}  {h : Hp} {s0 : Int32} {x1 : Int32} {x2 : Int32} {x3 : Int32} {x4 : Int32} {x5 : Int32}  {r : (Int32 × Int32 × Hp) ⊕ Int32 × Hp} (hF : q_95_25 h x1 x2 x3 x4 x5 s0 = some r) (hK : ∀ s' : Int32 × Int32 × Hp, r = .inl s' → ∀ (u6 : Value), k_Go X 2 95 (12, [.ref (4 + 1), .int x1, .int x2, .int (s'.1), .int x4, .int (s'.2.1), u6], []) s'.2.2 o) (hX0 : ∀ e : Int32 × Hp, r = .inr e → ∀ (u5 : Value) (u6 : Value), k_Go X 2 95 (54, [.ref (4 + 1), .int x1, .int x2, .int e.1, .int x4, u5, u6], []) e.2 o) : ∀ (u6 : Value), k_Go X 2 95 (25, [.ref (4 + 1), .int x1, .int x2, .int x3, .int x4, .int x5, u6], [.int s0]) h o := by
  intro u6
  unfold q_95_25 at hF
  refine kg_istore (L2 := [.ref (4 + 1), .int x1, .int x2, .int x3, .int x4, .int x5, .int s0]) hk_95 rfl (Nat.le_of_ble_eq_true rfl) rfl rfl ?_
  refine kg_iload hk_95 rfl rfl rfl ?_
  refine wf_if hF (fun cz4 hF => ?_) (fun cz4 hF => ?_)
  · refine kg_ifT hk_95 rfl (jc_T0 cz4) ?_
    refine kg_iinc (y := (x5 + 1)) (L2 := [.ref (4 + 1), .int x1, .int x2, .int x3, .int x4, .int (x5 + 1), .int s0]) hk_95 rfl rfl rfl rfl rfl ?_
    refine kg_goto hk_95 rfl ?_
    have hF := Option.some.inj hF
    exact hK _ hF.symm _
  · refine kg_ifF hk_95 rfl (jc_F0 cz4) rfl ?_
    refine kg_aload hk_95 rfl rfl rfl ?_
    refine kg_get (v := .ref (10 + 1)) hk_95 rfl wk_4_5 rfl rfl ?_
    refine kg_iload hk_95 rfl rfl rfl ?_
    refine wf_gd hF (fun gz5 hF => ?_)
    refine kg_ald (y := (h 10 x5.toNatClampNeg)) hk_95 rfl wc_10 gz5 rfl rfl ?_
    refine kg_iload hk_95 rfl rfl rfl ?_
    refine kg_bin (z := ((h 10 x5.toNatClampNeg) &&& x3)) hk_95 rfl rfl rfl ?_
    refine wf_if hF (fun cz6 hF => ?_) (fun cz6 hF => ?_)
    · refine kg_ifT hk_95 rfl (jc_T0 cz6) ?_
      refine kg_iinc (y := (x5 + 1)) (L2 := [.ref (4 + 1), .int x1, .int x2, .int x3, .int x4, .int (x5 + 1), .int s0]) hk_95 rfl rfl rfl rfl rfl ?_
      refine kg_goto hk_95 rfl ?_
      have hF := Option.some.inj hF
      exact hK _ hF.symm _
    · refine kg_ifF hk_95 rfl (jc_F0 cz6) rfl ?_
      refine kg_iload hk_95 rfl rfl rfl ?_
      refine kg_push (x := 1) hk_95 rfl (by decide) rfl ?_
      refine kg_iload hk_95 rfl rfl rfl ?_
      refine kg_bin (z := (1 <<< (x5 &&& 31))) hk_95 rfl rfl rfl ?_
      refine kg_bin (z := (x3 ||| (1 <<< (x5 &&& 31)))) hk_95 rfl rfl rfl ?_
      refine kg_istore (L2 := [.ref (4 + 1), .int x1, .int x2, .int (x3 ||| (1 <<< (x5 &&& 31))), .int x4, .int x5, .int s0]) hk_95 rfl (Nat.le_of_ble_eq_true rfl) rfl rfl ?_
      refine kg_aload hk_95 rfl rfl rfl ?_
      refine kg_get (v := .ref (8 + 1)) hk_95 rfl wk_4_3 rfl rfl ?_
      refine kg_iload hk_95 rfl rfl rfl ?_
      refine kg_aload hk_95 rfl rfl rfl ?_
      refine kg_iload hk_95 rfl rfl rfl ?_
      refine kg_aload hk_95 rfl rfl rfl ?_
      refine kg_get (v := .ref (9 + 1)) hk_95 rfl wk_4_4 rfl rfl ?_
      refine kg_iload hk_95 rfl rfl rfl ?_
      refine wf_gd hF (fun gz7 hF => ?_)
      refine kg_ald (y := (h 9 x1.toNatClampNeg)) hk_95 rfl wc_9 gz7 rfl rfl ?_
      refine wf_gd hF (fun gz8 hF => ?_)
      refine kg_call (as := [.ref (4 + 1), .int x5, .int (h 9 x1.toNatClampNeg)]) (rest := [.int x5, .ref (8 + 1)]) hk_95 rfl (Or.inr (Or.inr (Or.inr ⟨Or.inl rfl, _, _, rfl, wc_4⟩))) rfl rfl rfl (Nat.not_lt.mpr (Nat.le_of_ble_eq_true rfl)) (v_91_ok gz8) (by decide) rfl ?_
      refine wf_gd hF (fun gz9 hF => ?_)
      refine wf_let hF (fun hz10 hhz10 hF => ?_)
      refine kg_ast hk_95 rfl wc_8 gz9 hhz10 rfl ?_
      refine kg_iinc (y := (x5 + 1)) (L2 := [.ref (4 + 1), .int x1, .int x2, .int (x3 ||| (1 <<< (x5 &&& 31))), .int x4, .int (x5 + 1), .int s0]) hk_95 rfl rfl rfl rfl rfl ?_
      refine kg_goto hk_95 rfl ?_
      have hF := Option.some.inj hF
      exact hK _ hF.symm _
def l_95_12 (x1 : Int32) (x2 : Int32) (x4 : Int32) (x3 : Int32) (x5 : Int32) (h : Hp) : Option ((Int32 × Int32 × Hp) ⊕ Int32 × Hp) :=
  if x5 < (h 4 7) then
    (q_95_25 h x1 x2 x3 x4 x5 (if (v_126 (x2 ||| x3) x5) = 0 then 1 else 0 : Int32))
  else
    (some (.inr (x3, h)))
theorem l_95_12_st {X : List Int32} {o : kO}  {h : Hp} {x1 : Int32} {x2 : Int32} {x3 : Int32} {x4 : Int32} {x5 : Int32}  {r : (Int32 × Int32 × Hp) ⊕ Int32 × Hp} (hF : l_95_12 x1 x2 x4 x3 x5 h = some r) (hK : ∀ s' : Int32 × Int32 × Hp, r = .inl s' → ∀ (u6 : Value), k_Go X 2 95 (12, [.ref (4 + 1), .int x1, .int x2, .int (s'.1), .int x4, .int (s'.2.1), u6], []) s'.2.2 o) (hX0 : ∀ e : Int32 × Hp, r = .inr e → ∀ (u5 : Value) (u6 : Value), k_Go X 2 95 (54, [.ref (4 + 1), .int x1, .int x2, .int e.1, .int x4, u5, u6], []) e.2 o) : ∀ (u6 : Value), k_Go X 2 95 (12, [.ref (4 + 1), .int x1, .int x2, .int x3, .int x4, .int x5, u6], []) h o := by
  intro u6
  refine kg_iload hk_95 rfl rfl rfl ?_
  refine kg_aload hk_95 rfl rfl rfl ?_
  refine kg_get (v := .int (h 4 7)) hk_95 rfl wk_4_7 rfl rfl ?_
  refine wf_if hF (fun cz2 hF => ?_) (fun cz2 hF => ?_)
  · refine kg_icF hk_95 rfl (jc_F3 cz2) rfl ?_
    refine kg_iload hk_95 rfl rfl rfl ?_
    refine kg_iload hk_95 rfl rfl rfl ?_
    refine kg_bin (z := (x2 ||| x3)) hk_95 rfl rfl rfl ?_
    refine kg_iload hk_95 rfl rfl rfl ?_
    refine kg_call (as := [.int (x2 ||| x3), .int x5]) (rest := []) hk_95 rfl (Or.inr (Or.inl rfl)) rfl rfl rfl (Nat.not_lt.mpr (Nat.le_of_ble_eq_true rfl)) (v_126_ok) (by decide) rfl ?_
    refine kv_mid (p := 25) (L := [.ref (4 + 1), .int x1, .int x2, .int x3, .int x4, .int x5, u6]) (S := [.int (if (v_126 (x2 ||| x3) x5) = 0 then 1 else 0 : Int32)]) ?_ (fun hK => ?_)
    · exact q_95_25_ok hF hK hX0 _
    · by_cases cz3 : (v_126 (x2 ||| x3) x5) = 0
      · have hK := kv_T cz3 hK
        refine kg_ifF hk_95 rfl (jc_F1 cz3) rfl ?_
        refine kg_push (x := 1) hk_95 rfl (by decide) rfl ?_
        refine kg_goto hk_95 rfl ?_
        exact hK
      · have hK := kv_F cz3 hK
        refine kg_ifT hk_95 rfl (jc_T1 cz3) ?_
        refine kg_push (x := 0) hk_95 rfl (by decide) rfl ?_
        exact hK
  · refine kg_icT hk_95 rfl (jc_T3 cz2) ?_
    have hF := Option.some.inj hF
    exact hX0 _ hF.symm _ _
theorem l_95_12_ok {X : List Int32} {o : kO}  {x1 : Int32} {x2 : Int32} {x4 : Int32}  {n : Nat} {s : Int32 × Int32 × Hp} {e : Int32 × Hp} (hF : w_lp (fun (s : Int32 × Int32 × Hp) => l_95_12 x1 x2 x4 s.1 s.2.1 s.2.2) n s = some e) (hX0 : ∀ (u5 : Value) (u6 : Value), k_Go X 2 95 (54, [.ref (4 + 1), .int x1, .int x2, .int e.1, .int x4, u5, u6], []) e.2 o) : ∀ (u6 : Value), k_Go X 2 95 (12, [.ref (4 + 1), .int x1, .int x2, .int s.1, .int x4, .int s.2.1, u6], []) s.2.2 o := by
  exact w_lp_ok (P := (fun (s : Int32 × Int32 × Hp) => ∀ (u6 : Value), k_Go X 2 95 (12, [.ref (4 + 1), .int x1, .int x2, .int s.1, .int x4, .int s.2.1, u6], []) s.2.2 o)) (Q := (fun (e : Int32 × Hp) => (∀ (u5 : Value) (u6 : Value), k_Go X 2 95 (54, [.ref (4 + 1), .int x1, .int x2, .int e.1, .int x4, u5, u6], []) e.2 o))) (fun s r hF hK hX => l_95_12_st hF hK (fun x hx => (hX _ hx))) n s e hF hX0
def l_95_6 (x1 : Int32) (x2 : Int32) (x3 : Int32) (x4 : Int32) (h : Hp) : Option ((Int32 × Int32 × Hp) ⊕ Int32 × Hp) :=
  if x4 < (h 4 7) then
    ((w_lp (fun (s : Int32 × Int32 × Hp) => l_95_12 x1 x2 x4 s.1 s.2.1 s.2.2) w_N (x3, 0, h)).bind fun ez11 =>
    some (.inl (ez11.1, (x4 + 1), ez11.2)))
  else
    (some (.inr (x3, h)))
theorem l_95_6_st {X : List Int32} {o : kO}  {h : Hp} {x1 : Int32} {x2 : Int32} {x3 : Int32} {x4 : Int32}  {r : (Int32 × Int32 × Hp) ⊕ Int32 × Hp} (hF : l_95_6 x1 x2 x3 x4 h = some r) (hK : ∀ s' : Int32 × Int32 × Hp, r = .inl s' → ∀ (u5 : Value) (u6 : Value), k_Go X 2 95 (6, [.ref (4 + 1), .int x1, .int x2, .int (s'.1), .int (s'.2.1), u5, u6], []) s'.2.2 o) (hX0 : ∀ e : Int32 × Hp, r = .inr e → (.inl (some (.int e.1)), e.2) = o) : ∀ (u5 : Value) (u6 : Value), k_Go X 2 95 (6, [.ref (4 + 1), .int x1, .int x2, .int x3, .int x4, u5, u6], []) h o := by
  intro u5 u6
  refine kg_iload hk_95 rfl rfl rfl ?_
  refine kg_aload hk_95 rfl rfl rfl ?_
  refine kg_get (v := .int (h 4 7)) hk_95 rfl wk_4_7 rfl rfl ?_
  refine wf_if hF (fun cz1 hF => ?_) (fun cz1 hF => ?_)
  · refine kg_icF hk_95 rfl (jc_F3 cz1) rfl ?_
    refine kg_push (x := 0) hk_95 rfl (by decide) rfl ?_
    refine kg_istore (L2 := [.ref (4 + 1), .int x1, .int x2, .int x3, .int x4, .int 0, u6]) hk_95 rfl (Nat.le_of_ble_eq_true rfl) rfl rfl ?_
    refine wf_bind hF (fun ez11 hez11 hF => ?_)
    refine l_95_12_ok hez11 ?_ _
    intro u5 u6
    refine kg_iinc (y := (x4 + 1)) (L2 := [.ref (4 + 1), .int x1, .int x2, .int ez11.1, .int (x4 + 1), u5, u6]) hk_95 rfl rfl rfl rfl rfl ?_
    refine kg_goto hk_95 rfl ?_
    have hF := Option.some.inj hF
    exact hK _ hF.symm _ _
  · refine kg_icT hk_95 rfl (jc_T3 cz1) ?_
    refine kg_iload hk_95 rfl rfl rfl ?_
    have hF := Option.some.inj hF
    exact kg_iret hk_95 rfl (Or.inl rfl) (hX0 _ hF.symm)
theorem l_95_6_ok {X : List Int32} {o : kO}  {x1 : Int32} {x2 : Int32}  {n : Nat} {s : Int32 × Int32 × Hp} {e : Int32 × Hp} (hF : w_lp (fun (s : Int32 × Int32 × Hp) => l_95_6 x1 x2 s.1 s.2.1 s.2.2) n s = some e) (hX0 : (.inl (some (.int e.1)), e.2) = o) : ∀ (u5 : Value) (u6 : Value), k_Go X 2 95 (6, [.ref (4 + 1), .int x1, .int x2, .int s.1, .int s.2.1, u5, u6], []) s.2.2 o := by
  exact w_lp_ok (P := (fun (s : Int32 × Int32 × Hp) => ∀ (u5 : Value) (u6 : Value), k_Go X 2 95 (6, [.ref (4 + 1), .int x1, .int x2, .int s.1, .int s.2.1, u5, u6], []) s.2.2 o)) (Q := (fun (e : Int32 × Hp) => ((.inl (some (.int e.1)), e.2) = o))) (fun s r hF hK hX => l_95_6_st hF hK (fun x hx => (hX _ hx))) n s e hF hX0
def p_95 (h : Hp) (x1 : Int32) (x2 : Int32) : Option (Int32 × Hp) :=
  w_lp (fun (s : Int32 × Int32 × Hp) => l_95_6 x1 x2 s.1 s.2.1 s.2.2) w_N ((1 <<< (x1 &&& 31)), 0, h)
theorem p_95_ok {X : List Int32}  {h : Hp} {x1 : Int32} {x2 : Int32}  {r : Int32 × Hp} (hF : p_95 h x1 x2 = some r) : k_Ev X 2 95 [.ref (4 + 1), .int x1, .int x2] h (.inl (some (.int r.1)), r.2) := by
  refine k_of hk_95 ?_
  show k_Go X 2 95 (0, [.ref (4 + 1), .int x1, .int x2, (.retAddr 0), (.retAddr 0), (.retAddr 0), (.retAddr 0)], []) h _
  unfold p_95 at hF
  refine kg_push (x := 1) hk_95 rfl (by decide) rfl ?_
  refine kg_iload hk_95 rfl rfl rfl ?_
  refine kg_bin (z := (1 <<< (x1 &&& 31))) hk_95 rfl rfl rfl ?_
  refine kg_istore (L2 := [.ref (4 + 1), .int x1, .int x2, .int (1 <<< (x1 &&& 31)), (.retAddr 0), (.retAddr 0), (.retAddr 0)]) hk_95 rfl (Nat.le_of_ble_eq_true rfl) rfl rfl ?_
  refine kg_push (x := 0) hk_95 rfl (by decide) rfl ?_
  refine kg_istore (L2 := [.ref (4 + 1), .int x1, .int x2, .int (1 <<< (x1 &&& 31)), .int 0, (.retAddr 0), (.retAddr 0)]) hk_95 rfl (Nat.le_of_ble_eq_true rfl) rfl rfl ?_
  exact l_95_6_ok hF rfl _ _
-- NotebookWeir$Widgets.showTurned()V
theorem hk_94 : jP[94]? = some (jc_94, 3, [], []) := by rfl
def l_94_5 (x2 : Int32) (h : Hp) : Option ((Int32 × Hp) ⊕ Hp) :=
  if x2 < (h 4 7) then
    (if (v_126 (h 4 6) x2) = 0 then
      (some (.inl ((x2 + 1), h)))
    else
      (w_gd (w_ix x2 4) <|
      w_gd (w_ix x2 4) <|
      w_let (w_up h 8 x2.toNatClampNeg (h 9 x2.toNatClampNeg)) fun hz5 =>
      some (.inl ((x2 + 1), hz5))))
  else
    (some (.inr h))
theorem l_94_5_st {X : List Int32} {o : kO}  {h : Hp} {x1 : Int32} {x2 : Int32}  {r : (Int32 × Hp) ⊕ Hp} (hF : l_94_5 x2 h = some r) (hK : ∀ s' : Int32 × Hp, r = .inl s' → k_Go X 3 94 (5, [.ref (4 + 1), .int x1, .int (s'.1)], []) s'.2 o) (hX0 : ∀ e : Hp, r = .inr e → ∀ (u2 : Value), k_Go X 3 94 (24, [.ref (4 + 1), .int x1, u2], []) e o) : k_Go X 3 94 (5, [.ref (4 + 1), .int x1, .int x2], []) h o := by
  refine kg_iload hk_94 rfl rfl rfl ?_
  refine kg_aload hk_94 rfl rfl rfl ?_
  refine kg_get (v := .int (h 4 7)) hk_94 rfl wk_4_7 rfl rfl ?_
  refine wf_if hF (fun cz1 hF => ?_) (fun cz1 hF => ?_)
  · refine kg_icF hk_94 rfl (jc_F3 cz1) rfl ?_
    refine kg_aload hk_94 rfl rfl rfl ?_
    refine kg_get (v := .int (h 4 6)) hk_94 rfl wk_4_6 rfl rfl ?_
    refine kg_iload hk_94 rfl rfl rfl ?_
    refine kg_call (as := [.int (h 4 6), .int x2]) (rest := []) hk_94 rfl (Or.inr (Or.inl rfl)) rfl rfl rfl (Nat.not_lt.mpr (Nat.le_of_ble_eq_true rfl)) (v_126_ok) (by decide) rfl ?_
    refine wf_if hF (fun cz2 hF => ?_) (fun cz2 hF => ?_)
    · refine kg_ifT hk_94 rfl (jc_T0 cz2) ?_
      refine kg_iinc (y := (x2 + 1)) (L2 := [.ref (4 + 1), .int x1, .int (x2 + 1)]) hk_94 rfl rfl rfl rfl rfl ?_
      refine kg_goto hk_94 rfl ?_
      have hF := Option.some.inj hF
      exact hK _ hF.symm
    · refine kg_ifF hk_94 rfl (jc_F0 cz2) rfl ?_
      refine kg_aload hk_94 rfl rfl rfl ?_
      refine kg_get (v := .ref (8 + 1)) hk_94 rfl wk_4_3 rfl rfl ?_
      refine kg_iload hk_94 rfl rfl rfl ?_
      refine kg_aload hk_94 rfl rfl rfl ?_
      refine kg_get (v := .ref (9 + 1)) hk_94 rfl wk_4_4 rfl rfl ?_
      refine kg_iload hk_94 rfl rfl rfl ?_
      refine wf_gd hF (fun gz3 hF => ?_)
      refine kg_ald (y := (h 9 x2.toNatClampNeg)) hk_94 rfl wc_9 gz3 rfl rfl ?_
      refine wf_gd hF (fun gz4 hF => ?_)
      refine wf_let hF (fun hz5 hhz5 hF => ?_)
      refine kg_ast hk_94 rfl wc_8 gz4 hhz5 rfl ?_
      refine kg_iinc (y := (x2 + 1)) (L2 := [.ref (4 + 1), .int x1, .int (x2 + 1)]) hk_94 rfl rfl rfl rfl rfl ?_
      refine kg_goto hk_94 rfl ?_
      have hF := Option.some.inj hF
      exact hK _ hF.symm
  · refine kg_icT hk_94 rfl (jc_T3 cz1) ?_
    have hF := Option.some.inj hF
    exact hX0 _ hF.symm _
theorem l_94_5_ok {X : List Int32} {o : kO}  {x1 : Int32}  {n : Nat} {s : Int32 × Hp} {e : Hp} (hF : w_lp (fun (s : Int32 × Hp) => l_94_5 s.1 s.2) n s = some e) (hX0 : ∀ (u2 : Value), k_Go X 3 94 (24, [.ref (4 + 1), .int x1, u2], []) e o) : k_Go X 3 94 (5, [.ref (4 + 1), .int x1, .int s.1], []) s.2 o := by
  exact w_lp_ok (P := (fun (s : Int32 × Hp) => k_Go X 3 94 (5, [.ref (4 + 1), .int x1, .int s.1], []) s.2 o)) (Q := (fun (e : Hp) => (∀ (u2 : Value), k_Go X 3 94 (24, [.ref (4 + 1), .int x1, u2], []) e o))) (fun s r hF hK hX => l_94_5_st hF hK (fun x hx => (hX _ hx))) n s e hF hX0
def l_94_26 (x1 : Int32) (x2 : Int32) (h : Hp) : Option ((Int32 × Int32 × Hp) ⊕ Hp) :=
  if x2 < (h 4 7) then
    (if (v_126 (h 4 6) x2) = 0 then
      (some (.inl (x1, (x2 + 1), h)))
    else
      ((p_95 h x2 x1).bind fun vz9 =>
      some (.inl ((x1 ||| vz9.1), (x2 + 1), vz9.2))))
  else
    (some (.inr h))
theorem l_94_26_st {X : List Int32} {o : kO}  {h : Hp} {x1 : Int32} {x2 : Int32}  {r : (Int32 × Int32 × Hp) ⊕ Hp} (hF : l_94_26 x1 x2 h = some r) (hK : ∀ s' : Int32 × Int32 × Hp, r = .inl s' → k_Go X 3 94 (26, [.ref (4 + 1), .int (s'.1), .int (s'.2.1)], []) s'.2.2 o) (hX0 : ∀ e : Hp, r = .inr e → ∀ (u1 : Value) (u2 : Value), k_Go X 3 94 (44, [.ref (4 + 1), u1, u2], []) e o) : k_Go X 3 94 (26, [.ref (4 + 1), .int x1, .int x2], []) h o := by
  refine kg_iload hk_94 rfl rfl rfl ?_
  refine kg_aload hk_94 rfl rfl rfl ?_
  refine kg_get (v := .int (h 4 7)) hk_94 rfl wk_4_7 rfl rfl ?_
  refine wf_if hF (fun cz7 hF => ?_) (fun cz7 hF => ?_)
  · refine kg_icF hk_94 rfl (jc_F3 cz7) rfl ?_
    refine kg_aload hk_94 rfl rfl rfl ?_
    refine kg_get (v := .int (h 4 6)) hk_94 rfl wk_4_6 rfl rfl ?_
    refine kg_iload hk_94 rfl rfl rfl ?_
    refine kg_call (as := [.int (h 4 6), .int x2]) (rest := []) hk_94 rfl (Or.inr (Or.inl rfl)) rfl rfl rfl (Nat.not_lt.mpr (Nat.le_of_ble_eq_true rfl)) (v_126_ok) (by decide) rfl ?_
    refine wf_if hF (fun cz8 hF => ?_) (fun cz8 hF => ?_)
    · refine kg_ifT hk_94 rfl (jc_T0 cz8) ?_
      refine kg_iinc (y := (x2 + 1)) (L2 := [.ref (4 + 1), .int x1, .int (x2 + 1)]) hk_94 rfl rfl rfl rfl rfl ?_
      refine kg_goto hk_94 rfl ?_
      have hF := Option.some.inj hF
      exact hK _ hF.symm
    · refine kg_ifF hk_94 rfl (jc_F0 cz8) rfl ?_
      refine kg_iload hk_94 rfl rfl rfl ?_
      refine kg_aload hk_94 rfl rfl rfl ?_
      refine kg_iload hk_94 rfl rfl rfl ?_
      refine kg_iload hk_94 rfl rfl rfl ?_
      refine wf_bind hF (fun vz9 hvz9 hF => ?_)
      refine kg_call (as := [.ref (4 + 1), .int x2, .int x1]) (rest := [.int x1]) hk_94 rfl (Or.inr (Or.inr (Or.inr ⟨Or.inl rfl, _, _, rfl, wc_4⟩))) rfl rfl rfl (Nat.not_lt.mpr (Nat.le_of_ble_eq_true rfl)) (p_95_ok hvz9) (by decide) rfl ?_
      refine kg_bin (z := (x1 ||| vz9.1)) hk_94 rfl rfl rfl ?_
      refine kg_istore (L2 := [.ref (4 + 1), .int (x1 ||| vz9.1), .int x2]) hk_94 rfl (Nat.le_of_ble_eq_true rfl) rfl rfl ?_
      refine kg_iinc (y := (x2 + 1)) (L2 := [.ref (4 + 1), .int (x1 ||| vz9.1), .int (x2 + 1)]) hk_94 rfl rfl rfl rfl rfl ?_
      refine kg_goto hk_94 rfl ?_
      have hF := Option.some.inj hF
      exact hK _ hF.symm
  · refine kg_icT hk_94 rfl (jc_T3 cz7) ?_
    have hF := Option.some.inj hF
    exact hX0 _ hF.symm _ _
theorem l_94_26_ok {X : List Int32} {o : kO}    {n : Nat} {s : Int32 × Int32 × Hp} {e : Hp} (hF : w_lp (fun (s : Int32 × Int32 × Hp) => l_94_26 s.1 s.2.1 s.2.2) n s = some e) (hX0 : ∀ (u1 : Value) (u2 : Value), k_Go X 3 94 (44, [.ref (4 + 1), u1, u2], []) e o) : k_Go X 3 94 (26, [.ref (4 + 1), .int s.1, .int s.2.1], []) s.2.2 o := by
  exact w_lp_ok (P := (fun (s : Int32 × Int32 × Hp) => k_Go X 3 94 (26, [.ref (4 + 1), .int s.1, .int s.2.1], []) s.2.2 o)) (Q := (fun (e : Hp) => (∀ (u1 : Value) (u2 : Value), k_Go X 3 94 (44, [.ref (4 + 1), u1, u2], []) e o))) (fun s r hF hK hX => l_94_26_st hF hK (fun x hx => (hX _ hx))) n s e hF hX0
def p_94 (h : Hp) : Option (Hp) :=
  (w_lp (fun (s : Int32 × Hp) => l_94_5 s.1 s.2) w_N (0, h)).bind fun ez6 =>
  (w_lp (fun (s : Int32 × Int32 × Hp) => l_94_26 s.1 s.2.1 s.2.2) w_N ((h 4 6), 0, ez6)).bind fun ez10 =>
  w_let (w_up ez10 4 6 0) fun hz11 =>
  some hz11
theorem p_94_ok {X : List Int32}  {h : Hp}   {r : Hp} (hF : p_94 h = some r) : k_Ev X 3 94 [.ref (4 + 1)] h (.inl none, r) := by
  refine k_of hk_94 ?_
  show k_Go X 3 94 (0, [.ref (4 + 1), (.retAddr 0), (.retAddr 0)], []) h _
  unfold p_94 at hF
  refine kg_aload hk_94 rfl rfl rfl ?_
  refine kg_get (v := .int (h 4 6)) hk_94 rfl wk_4_6 rfl rfl ?_
  refine kg_istore (L2 := [.ref (4 + 1), .int (h 4 6), (.retAddr 0)]) hk_94 rfl (Nat.le_of_ble_eq_true rfl) rfl rfl ?_
  refine kg_push (x := 0) hk_94 rfl (by decide) rfl ?_
  refine kg_istore (L2 := [.ref (4 + 1), .int (h 4 6), .int 0]) hk_94 rfl (Nat.le_of_ble_eq_true rfl) rfl rfl ?_
  refine wf_bind hF (fun ez6 hez6 hF => ?_)
  refine l_94_5_ok hez6 ?_
  intro u2
  refine kg_push (x := 0) hk_94 rfl (by decide) rfl ?_
  refine kg_istore (L2 := [.ref (4 + 1), .int (h 4 6), .int 0]) hk_94 rfl (Nat.le_of_ble_eq_true rfl) rfl rfl ?_
  refine wf_bind hF (fun ez10 hez10 hF => ?_)
  refine l_94_26_ok hez10 ?_
  intro u1 u2
  refine kg_aload hk_94 rfl rfl rfl ?_
  refine kg_push (x := 0) hk_94 rfl (by decide) rfl ?_
  refine wf_let hF (fun hz11 hhz11 hF => ?_)
  refine kg_put hk_94 rfl wk_4_6 rfl rfl hhz11 rfl ?_
  have hF := Option.some.inj hF
  subst hF
  exact kg_ret hk_94 rfl rfl
-- NotebookWeir.isHand(I)Z
theorem hk_121 : jP[121]? = some (jc_121, 1, [], []) := by rfl
def v_121 (x0 : Int32) : Int32 := (if x0 < 0 then 0 else (if x0 < 2 then 1 else 0 : Int32) : Int32)
theorem v_121_bo (x0 : Int32) : w_bo (v_121 x0) = true := by
  unfold v_121
  exact (w_boi rfl (w_boi rfl rfl))
theorem v_121_ok {X : List Int32} {h : Hp} {x0 : Int32}  : k_Ev X 0 121 [.int x0] h (.inl (some (.int (v_121 x0))), h) := by
  refine k_of hk_121 ?_
  show k_Go X 0 121 (0, [.int x0], []) h _
  generalize hv : v_121 x0 = z
  unfold v_121 at hv
  refine kg_iload hk_121 rfl rfl rfl ?_
  refine kv_mid (p := 8) (L := [.int x0]) (S := [.int (if x0 < 0 then 0 else (if x0 < 2 then 1 else 0 : Int32) : Int32)]) ?_ (fun hK => ?_)
  · exact kg_iret hk_121 rfl (Or.inr (w_boi rfl (w_boi rfl rfl))) (by rw [hv])
  · by_cases cz1 : x0 < 0
    · have hK := kv_T cz1 hK
      refine kg_ifT hk_121 rfl (jc_T2 cz1) ?_
      refine kg_push (x := 0) hk_121 rfl (by decide) rfl ?_
      exact hK
    · have hK := kv_F cz1 hK
      refine kg_ifF hk_121 rfl (jc_F2 cz1) rfl ?_
      refine kg_iload hk_121 rfl rfl rfl ?_
      refine kg_push (x := 2) hk_121 rfl (by decide) rfl ?_
      by_cases cz2 : x0 < 2
      · have hK := kv_T cz2 hK
        refine kg_icF hk_121 rfl (jc_F3 cz2) rfl ?_
        refine kg_push (x := 1) hk_121 rfl (by decide) rfl ?_
        refine kg_goto hk_121 rfl ?_
        exact hK
      · have hK := kv_F cz2 hK
        refine kg_icT hk_121 rfl (jc_T3 cz2) ?_
        refine kg_push (x := 0) hk_121 rfl (by decide) rfl ?_
        exact hK
-- NotebookWeir.type(IC)I
theorem hk_97 : jP[97]? = some (jc_97, 3, [], []) := by rfl
def p_97 (h : Hp) (x1 : Int32) (x2 : Int32) : Option ((Int32 ⊕ Nat) × Hp) :=
  if (v_121 x1) = 0 then
    (some ((.inr 0), h))
  else
    (w_gd (w_ix x1 2) <|
    (p_56 h (2 * x1.toNatClampNeg + 48) x2).bind fun vz4 =>
    if vz4.1 = 0 then
      (some ((.inr 1), vz4.2))
    else
      (w_gd (w_ix x1 2) <|
      some ((.inl (vz4.2 (2 * x1.toNatClampNeg + 48) 1)), vz4.2)))
theorem p_97_ok {X : List Int32}  {h : Hp} {x1 : Int32} {x2 : Int32}  {r : (Int32 ⊕ Nat) × Hp} (hF : p_97 h x1 x2 = some r) : k_Ev X 1 97 [.ref (0 + 1), .int x1, .int x2] h (w_th r.1, r.2) := by
  refine k_of hk_97 ?_
  show k_Go X 1 97 (0, [.ref (0 + 1), .int x1, .int x2], []) h _
  unfold p_97 at hF
  refine kg_iload hk_97 rfl rfl rfl ?_
  refine kg_call (as := [.int x1]) (rest := []) hk_97 rfl (Or.inl rfl) rfl rfl rfl (Nat.not_lt.mpr (Nat.le_of_ble_eq_true rfl)) (v_121_ok) (by decide) rfl ?_
  refine wf_if hF (fun cz1 hF => ?_) (fun cz1 hF => ?_)
  · refine kg_ifF hk_97 rfl (jc_F1 cz1) rfl ?_
    have hF := Option.some.inj hF
    subst hF
    exact kg_throw hk_97 rfl (Nat.not_lt.mpr (Nat.le_of_ble_eq_true rfl)) rfl
  · refine kg_ifT hk_97 rfl (jc_T1 cz1) ?_
    refine kg_aload hk_97 rfl rfl rfl ?_
    refine kg_get (v := .ref (1 + 1)) hk_97 rfl wk_0_0 rfl rfl ?_
    refine kg_iload hk_97 rfl rfl rfl ?_
    refine wf_gd hF (fun gz2 hF => ?_)
    have hez3 := w_E we_60 wc_1 gz2
    refine kg_aald (y := (2 * x1.toNatClampNeg + 48)) hk_97 rfl gz2 hez3.1 rfl ?_
    refine kg_iload hk_97 rfl rfl rfl ?_
    refine wf_bind hF (fun vz4 hvz4 hF => ?_)
    refine kg_call (as := [.ref ((2 * x1.toNatClampNeg + 48) + 1), .int x2]) (rest := []) hk_97 rfl (Or.inr (Or.inr (Or.inr ⟨Or.inl rfl, _, _, rfl, hez3.2⟩))) rfl rfl rfl (Nat.not_lt.mpr (Nat.le_of_ble_eq_true rfl)) (p_56_ok hez3.2 hvz4) (by decide) rfl ?_
    refine wf_if hF (fun cz5 hF => ?_) (fun cz5 hF => ?_)
    · refine kg_ifF hk_97 rfl (jc_F1 cz5) rfl ?_
      have hF := Option.some.inj hF
      subst hF
      exact kg_throw hk_97 rfl (Nat.not_lt.mpr (Nat.le_of_ble_eq_true rfl)) rfl
    · refine kg_ifT hk_97 rfl (jc_T1 cz5) ?_
      refine kg_aload hk_97 rfl rfl rfl ?_
      refine kg_get (v := .ref (1 + 1)) hk_97 rfl wk_0_0 rfl rfl ?_
      refine kg_iload hk_97 rfl rfl rfl ?_
      refine wf_gd hF (fun gz6 hF => ?_)
      have hez7 := w_E we_60 wc_1 gz6
      refine kg_aald (y := (2 * x1.toNatClampNeg + 48)) hk_97 rfl gz6 hez7.1 rfl ?_
      refine kg_get (v := .int (vz4.2 (2 * x1.toNatClampNeg + 48) 1)) hk_97 rfl (wf_7_1 hez7.2) rfl rfl ?_
      have hF := Option.some.inj hF
      subst hF
      exact kg_iret hk_97 rfl (Or.inl rfl) rfl
-- NotebookWeir.isLanguage(I)Z
theorem hk_122 : jP[122]? = some (jc_122, 1, [], []) := by rfl
def v_122 (x0 : Int32) : Int32 := (if x0 = 0 then 1 else (if x0 = 1 then 1 else (if x0 = 2 then 1 else 0 : Int32) : Int32) : Int32)
theorem v_122_bo (x0 : Int32) : w_bo (v_122 x0) = true := by
  unfold v_122
  exact (w_boi rfl (w_boi rfl (w_boi rfl rfl)))
theorem v_122_ok {X : List Int32} {h : Hp} {x0 : Int32}  : k_Ev X 0 122 [.int x0] h (.inl (some (.int (v_122 x0))), h) := by
  refine k_of hk_122 ?_
  show k_Go X 0 122 (0, [.int x0], []) h _
  generalize hv : v_122 x0 = z
  unfold v_122 at hv
  refine kg_iload hk_122 rfl rfl rfl ?_
  refine kv_mid (p := 11) (L := [.int x0]) (S := [.int (if x0 = 0 then 1 else (if x0 = 1 then 1 else (if x0 = 2 then 1 else 0 : Int32) : Int32) : Int32)]) ?_ (fun hK => ?_)
  · exact kg_iret hk_122 rfl (Or.inr (w_boi rfl (w_boi rfl (w_boi rfl rfl)))) (by rw [hv])
  · by_cases cz1 : x0 = 0
    · have hK := kv_T cz1 hK
      refine kg_ifT hk_122 rfl (jc_T0 cz1) ?_
      refine kg_push (x := 1) hk_122 rfl (by decide) rfl ?_
      refine kg_goto hk_122 rfl ?_
      exact hK
    · have hK := kv_F cz1 hK
      refine kg_ifF hk_122 rfl (jc_F0 cz1) rfl ?_
      refine kg_iload hk_122 rfl rfl rfl ?_
      refine kg_push (x := 1) hk_122 rfl (by decide) rfl ?_
      by_cases cz2 : x0 = 1
      · have hK := kv_T cz2 hK
        refine kg_icT hk_122 rfl (jc_T0 cz2) ?_
        refine kg_push (x := 1) hk_122 rfl (by decide) rfl ?_
        refine kg_goto hk_122 rfl ?_
        exact hK
      · have hK := kv_F cz2 hK
        refine kg_icF hk_122 rfl (jc_F0 cz2) rfl ?_
        refine kg_iload hk_122 rfl rfl rfl ?_
        refine kg_push (x := 2) hk_122 rfl (by decide) rfl ?_
        by_cases cz3 : x0 = 2
        · have hK := kv_T cz3 hK
          refine kg_icF hk_122 rfl (jc_F1 cz3) rfl ?_
          refine kg_push (x := 1) hk_122 rfl (by decide) rfl ?_
          refine kg_goto hk_122 rfl ?_
          exact hK
        · have hK := kv_F cz3 hK
          refine kg_icT hk_122 rfl (jc_T1 cz3) ?_
          refine kg_push (x := 0) hk_122 rfl (by decide) rfl ?_
          exact hK
-- NotebookWeir.fault(II)I
theorem hk_98 : jP[98]? = some (jc_98, 3, [], []) := by rfl
def p_98 (h : Hp) (x1 : Int32) (x2 : Int32) : Option ((Int32 ⊕ Nat) × Hp) :=
  if (v_121 x1) = 0 then
    (some ((.inr 0), h))
  else
    (if (v_122 x2) = 0 then
      (some ((.inr 0), h))
    else
      (w_gd (w_ix x1 2) <|
      (p_35 h (2 * x1.toNatClampNeg + 48) x2).bind fun vz5 =>
      some ((.inl vz5.1), vz5.2)))
theorem p_98_ok {X : List Int32}  {h : Hp} {x1 : Int32} {x2 : Int32}  {r : (Int32 ⊕ Nat) × Hp} (hF : p_98 h x1 x2 = some r) : k_Ev X 257 98 [.ref (0 + 1), .int x1, .int x2] h (w_th r.1, r.2) := by
  refine k_of hk_98 ?_
  show k_Go X 257 98 (0, [.ref (0 + 1), .int x1, .int x2], []) h _
  unfold p_98 at hF
  refine kg_iload hk_98 rfl rfl rfl ?_
  refine kg_call (as := [.int x1]) (rest := []) hk_98 rfl (Or.inl rfl) rfl rfl rfl (Nat.not_lt.mpr (Nat.le_of_ble_eq_true rfl)) (v_121_ok) (by decide) rfl ?_
  refine wf_if hF (fun cz1 hF => ?_) (fun cz1 hF => ?_)
  · refine kg_ifT hk_98 rfl (jc_T0 cz1) ?_
    have hF := Option.some.inj hF
    subst hF
    exact kg_throw hk_98 rfl (Nat.not_lt.mpr (Nat.le_of_ble_eq_true rfl)) rfl
  · refine kg_ifF hk_98 rfl (jc_F0 cz1) rfl ?_
    refine kg_iload hk_98 rfl rfl rfl ?_
    refine kg_call (as := [.int x2]) (rest := []) hk_98 rfl (Or.inl rfl) rfl rfl rfl (Nat.not_lt.mpr (Nat.le_of_ble_eq_true rfl)) (v_122_ok) (by decide) rfl ?_
    refine wf_if hF (fun cz2 hF => ?_) (fun cz2 hF => ?_)
    · refine kg_ifF hk_98 rfl (jc_F1 cz2) rfl ?_
      have hF := Option.some.inj hF
      subst hF
      exact kg_throw hk_98 rfl (Nat.not_lt.mpr (Nat.le_of_ble_eq_true rfl)) rfl
    · refine kg_ifT hk_98 rfl (jc_T1 cz2) ?_
      refine kg_aload hk_98 rfl rfl rfl ?_
      refine kg_get (v := .ref (17 + 1)) hk_98 rfl wk_0_5 rfl rfl ?_
      refine kg_aload hk_98 rfl rfl rfl ?_
      refine kg_get (v := .ref (1 + 1)) hk_98 rfl wk_0_0 rfl rfl ?_
      refine kg_iload hk_98 rfl rfl rfl ?_
      refine wf_gd hF (fun gz3 hF => ?_)
      have hez4 := w_E we_60 wc_1 gz3
      refine kg_aald (y := (2 * x1.toNatClampNeg + 48)) hk_98 rfl gz3 hez4.1 rfl ?_
      refine kg_iload hk_98 rfl rfl rfl ?_
      refine kg_aload hk_98 rfl rfl rfl ?_
      refine kg_get (v := .ref (24 + 1)) hk_98 rfl wk_0_6 rfl rfl ?_
      refine wf_bind hF (fun vz5 hvz5 hF => ?_)
      refine kg_call (as := [.ref (17 + 1), .ref ((2 * x1.toNatClampNeg + 48) + 1), .int x2, .ref (24 + 1)]) (rest := []) hk_98 rfl (Or.inr (Or.inr (Or.inr ⟨Or.inl rfl, _, _, rfl, wc_17⟩))) rfl rfl rfl (Nat.not_lt.mpr (Nat.le_of_ble_eq_true rfl)) (p_35_ok hez4.2 hvz5) (by decide) rfl ?_
      have hF := Option.some.inj hF
      subst hF
      exact kg_iret hk_98 rfl (Or.inl rfl) rfl
-- NotebookWeir.takeTyped(ILNotebookWeir$Cell;I)Z
theorem hk_128 : jP[128]? = some (jc_128, 4, [], []) := by rfl
def q_128_18 (h : Hp) (x1 : Int32) (x3 : Int32) : Option (Int32 × Hp) :=
  w_gd (w_ix x1 2) <|
  (p_57 h (2 * x1.toNatClampNeg + 48)).bind fun vz9 =>
  some ((if x3 = (-1) then 1 else 0 : Int32), vz9)
theorem q_128_18_ok {X : List Int32}   {h : Hp} {x1 : Int32} {x3 : Int32}  {r : Int32 × Hp} (hF : q_128_18 h x1 x3 = some r)  : ∀ (u2 : Value), k_Go X 1 128 (18, [.ref (0 + 1), .int x1, u2, .int x3], []) h (.inl (some (.int r.1)), r.2) := by
  intro u2
  unfold q_128_18 at hF
  refine kg_aload hk_128 rfl rfl rfl ?_
  refine kg_get (v := .ref (1 + 1)) hk_128 rfl wk_0_0 rfl rfl ?_
  refine kg_iload hk_128 rfl rfl rfl ?_
  refine wf_gd hF (fun gz7 hF => ?_)
  have hez8 := w_E we_60 wc_1 gz7
  refine kg_aald (y := (2 * x1.toNatClampNeg + 48)) hk_128 rfl gz7 hez8.1 rfl ?_
  refine wf_bind hF (fun vz9 hvz9 hF => ?_)
  refine kg_call (as := [.ref ((2 * x1.toNatClampNeg + 48) + 1)]) (rest := []) hk_128 rfl (Or.inr (Or.inr (Or.inr ⟨Or.inl rfl, _, _, rfl, hez8.2⟩))) rfl rfl rfl (Nat.not_lt.mpr (Nat.le_of_ble_eq_true rfl)) (p_57_ok hez8.2 hvz9) (by decide) rfl ?_
  refine kg_iload hk_128 rfl rfl rfl ?_
  refine kg_push (x := (-1)) hk_128 rfl (by decide) rfl ?_
  refine kv_mid (p := 29) (L := [.ref (0 + 1), .int x1, u2, .int x3]) (S := [.int (if x3 = (-1) then 1 else 0 : Int32)]) ?_ (fun hK => ?_)
  · have hF := Option.some.inj hF
    subst hF
    exact kg_iret hk_128 rfl (Or.inr (w_boi rfl rfl)) rfl
  · by_cases cz10 : x3 = (-1)
    · have hK := kv_T cz10 hK
      refine kg_icF hk_128 rfl (jc_F1 cz10) rfl ?_
      refine kg_push (x := 1) hk_128 rfl (by decide) rfl ?_
      refine kg_goto hk_128 rfl ?_
      exact hK
    · have hK := kv_F cz10 hK
      refine kg_icT hk_128 rfl (jc_T1 cz10) ?_
      refine kg_push (x := 0) hk_128 rfl (by decide) rfl ?_
      exact hK
def p_128 (h : Hp) (x1 : Int32) (q2 : Nat) (x3 : Int32) : Option (Int32 × Hp) :=
  if x3 = (-1) then
    (w_gd (w_ix x1 2) <|
    (p_61 h (q2 + 1) (2 * x1.toNatClampNeg + 48)).bind fun vz4 =>
    (p_9 vz4 (q2 + 3) 24).bind fun vz5 =>
    w_let (w_up vz5 q2 15 0) fun hz6 =>
    q_128_18 hz6 x1 x3)
  else
    (q_128_18 h x1 x3)
theorem p_128_ok {X : List Int32}  {h : Hp} {x1 : Int32} {q2 : Nat} {x3 : Int32} (t2 : w_ob q2 0) {r : Int32 × Hp} (hF : p_128 h x1 q2 x3 = some r) : k_Ev X 1 128 [.ref (0 + 1), .int x1, .ref (q2 + 1), .int x3] h (.inl (some (.int r.1)), r.2) := by
  refine k_of hk_128 ?_
  show k_Go X 1 128 (0, [.ref (0 + 1), .int x1, .ref (q2 + 1), .int x3], []) h _
  unfold p_128 at hF
  refine kg_iload hk_128 rfl rfl rfl ?_
  refine kg_push (x := (-1)) hk_128 rfl (by decide) rfl ?_
  refine wf_if hF (fun cz1 hF => ?_) (fun cz1 hF => ?_)
  · refine kg_icF hk_128 rfl (jc_F1 cz1) rfl ?_
    refine kg_aload hk_128 rfl rfl rfl ?_
    refine kg_get (v := .ref ((q2 + 1) + 1)) hk_128 rfl (wf_0_0 t2) rfl rfl ?_
    refine kg_aload hk_128 rfl rfl rfl ?_
    refine kg_get (v := .ref (1 + 1)) hk_128 rfl wk_0_0 rfl rfl ?_
    refine kg_iload hk_128 rfl rfl rfl ?_
    refine wf_gd hF (fun gz2 hF => ?_)
    have hez3 := w_E we_60 wc_1 gz2
    refine kg_aald (y := (2 * x1.toNatClampNeg + 48)) hk_128 rfl gz2 hez3.1 rfl ?_
    refine wf_bind hF (fun vz4 hvz4 hF => ?_)
    refine kg_call (as := [.ref ((q2 + 1) + 1), .ref ((2 * x1.toNatClampNeg + 48) + 1)]) (rest := []) hk_128 rfl (Or.inr (Or.inr (Or.inr ⟨Or.inl rfl, _, _, rfl, (wo_0_0 t2)⟩))) rfl rfl rfl (Nat.not_lt.mpr (Nat.le_of_ble_eq_true rfl)) (p_61_ok (wo_0_0 t2) hez3.2 hvz4) (by decide) rfl ?_
    refine kg_aload hk_128 rfl rfl rfl ?_
    refine kg_get (v := .ref ((q2 + 3) + 1)) hk_128 rfl (wf_0_1 t2) rfl rfl ?_
    refine kg_aload hk_128 rfl rfl rfl ?_
    refine kg_get (v := .ref (24 + 1)) hk_128 rfl wk_0_6 rfl rfl ?_
    refine wf_bind hF (fun vz5 hvz5 hF => ?_)
    refine kg_call (as := [.ref ((q2 + 3) + 1), .ref (24 + 1)]) (rest := []) hk_128 rfl (Or.inr (Or.inr (Or.inr ⟨Or.inl rfl, _, _, rfl, (wo_0_1 t2)⟩))) rfl rfl rfl (Nat.not_lt.mpr (Nat.le_of_ble_eq_true rfl)) (p_9_ok (wo_0_1 t2) wc_24 hvz5) (by decide) rfl ?_
    refine kg_aload hk_128 rfl rfl rfl ?_
    refine kg_push (x := 0) hk_128 rfl (by decide) rfl ?_
    refine wf_let hF (fun hz6 hhz6 hF => ?_)
    refine kg_put hk_128 rfl (wf_0_15 t2) rfl (w_fitB rfl) hhz6 rfl ?_
    exact q_128_18_ok hF _
  · refine kg_icT hk_128 rfl (jc_T1 cz1) ?_
    exact q_128_18_ok hF _
-- NotebookWeir.weaveAnew()V
theorem hk_129 : jP[129]? = some (jc_129, 1, [], []) := by rfl
def p_129 (h : Hp) : Option (Hp) :=
  (p_78 h (h 0 10)).bind fun vz1 =>
  w_let (w_up vz1 0 17 0) fun hz2 =>
  some hz2
theorem p_129_ok {X : List Int32}  {h : Hp}   {r : Hp} (hF : p_129 h = some r) : k_Ev X 5 129 [.ref (0 + 1)] h (.inl none, r) := by
  refine k_of hk_129 ?_
  show k_Go X 5 129 (0, [.ref (0 + 1)], []) h _
  unfold p_129 at hF
  refine kg_aload hk_129 rfl rfl rfl ?_
  refine kg_get (v := .ref (11 + 1)) hk_129 rfl wk_0_4 rfl rfl ?_
  refine kg_aload hk_129 rfl rfl rfl ?_
  refine kg_get (v := .ref (2 + 1)) hk_129 rfl wk_0_1 rfl rfl ?_
  refine kg_aload hk_129 rfl rfl rfl ?_
  refine kg_get (v := .int (h 0 10)) hk_129 rfl wk_0_10 rfl rfl ?_
  refine kg_aload hk_129 rfl rfl rfl ?_
  refine kg_get (v := .ref (4 + 1)) hk_129 rfl wk_0_3 rfl rfl ?_
  refine wf_bind hF (fun vz1 hvz1 hF => ?_)
  refine kg_call (as := [.ref (11 + 1), .ref (2 + 1), .int (h 0 10), .ref (4 + 1)]) (rest := []) hk_129 rfl (Or.inr (Or.inr (Or.inr ⟨Or.inl rfl, _, _, rfl, wc_11⟩))) rfl rfl rfl (Nat.not_lt.mpr (Nat.le_of_ble_eq_true rfl)) (p_78_ok hvz1) (by decide) rfl ?_
  refine kg_aload hk_129 rfl rfl rfl ?_
  refine kg_push (x := 0) hk_129 rfl (by decide) rfl ?_
  refine wf_let hF (fun hz2 hhz2 hF => ?_)
  refine kg_put hk_129 rfl wk_0_17 rfl (w_fitB rfl) hhz2 rfl ?_
  have hF := Option.some.inj hF
  subst hF
  exact kg_ret hk_129 rfl rfl
-- NotebookWeir.judgeByNeeds(I)I
theorem hk_133 : jP[133]? = some (jc_133, 5, [], []) := by rfl
def l_133_10 (h : Hp) (x1 : Int32) (x2 : Int32) (x3 : Int32) (x4 : Int32) : Option ((Int32 × Int32) ⊕ (Int32 ⊕ Int32)) :=
  if x4 < (h 0 10) then
    (if (v_126 x2 x4) = 0 then
      (some (.inl (x3, (x4 + 1))))
    else
      (w_gd (w_ix x4 16) <|
      if (h 3 x4.toNatClampNeg) < 2 then
        (w_gd ((if x3 = 0 then (w_ix x4 16) && ((if (h 3 x4.toNatClampNeg) = 1 then true else (w_ix x4 16) && (w_ix x1 16))) else true)) <|
        some (.inl ((if x3 = 0 then (if (h 3 x4.toNatClampNeg) = 1 then 1 else (if (h (64 * x4.toNatClampNeg + 52) 14) ≤ (h (64 * x1.toNatClampNeg + 52) 14) then 0 else 1 : Int32) : Int32) else 1 : Int32), (x4 + 1))))
      else
        (some (.inr (.inr 3)))))
  else
    (some (.inr (.inl x3)))
theorem l_133_10_st {X : List Int32} {o : kO}  {h : Hp} {x1 : Int32} {x2 : Int32} {x3 : Int32} {x4 : Int32}  {r : (Int32 × Int32) ⊕ (Int32 ⊕ Int32)} (hF : l_133_10 h x1 x2 x3 x4 = some r) (hK : ∀ s' : Int32 × Int32, r = .inl s' → k_Go X 3 133 (10, [.ref (0 + 1), .int x1, .int x2, .int (s'.1), .int (s'.2)], []) h o) (hX0 : ∀ x : Int32, r = .inr (.inl x) → ∀ (u4 : Value), k_Go X 3 133 (51, [.ref (0 + 1), .int x1, .int x2, .int x, u4], []) h o) (hX1 : ∀ x : Int32, r = .inr (.inr x) → (.inl (some (.int x)), h) = o) : k_Go X 3 133 (10, [.ref (0 + 1), .int x1, .int x2, .int x3, .int x4], []) h o := by
  refine kg_iload hk_133 rfl rfl rfl ?_
  refine kg_aload hk_133 rfl rfl rfl ?_
  refine kg_get (v := .int (h 0 10)) hk_133 rfl wk_0_10 rfl rfl ?_
  refine wf_if hF (fun cz2 hF => ?_) (fun cz2 hF => ?_)
  · refine kg_icF hk_133 rfl (jc_F3 cz2) rfl ?_
    refine kg_iload hk_133 rfl rfl rfl ?_
    refine kg_iload hk_133 rfl rfl rfl ?_
    refine kg_call (as := [.int x2, .int x4]) (rest := []) hk_133 rfl (Or.inl rfl) rfl rfl rfl (Nat.not_lt.mpr (Nat.le_of_ble_eq_true rfl)) (v_126_ok) (by decide) rfl ?_
    refine wf_if hF (fun cz3 hF => ?_) (fun cz3 hF => ?_)
    · refine kg_ifT hk_133 rfl (jc_T0 cz3) ?_
      refine kg_iinc (y := (x4 + 1)) (L2 := [.ref (0 + 1), .int x1, .int x2, .int x3, .int (x4 + 1)]) hk_133 rfl rfl rfl rfl rfl ?_
      refine kg_goto hk_133 rfl ?_
      have hF := Option.some.inj hF
      exact hK _ hF.symm
    · refine kg_ifF hk_133 rfl (jc_F0 cz3) rfl ?_
      refine kg_aload hk_133 rfl rfl rfl ?_
      refine kg_get (v := .ref (3 + 1)) hk_133 rfl wk_0_2 rfl rfl ?_
      refine kg_iload hk_133 rfl rfl rfl ?_
      refine wf_gd hF (fun gz4 hF => ?_)
      refine kg_ald (y := (h 3 x4.toNatClampNeg)) hk_133 rfl wc_3 gz4 rfl rfl ?_
      refine kg_push (x := 2) hk_133 rfl (by decide) rfl ?_
      refine wf_if hF (fun cz5 hF => ?_) (fun cz5 hF => ?_)
      · refine kg_icT hk_133 rfl (jc_T2 cz5) ?_
        refine kg_iload hk_133 rfl rfl rfl ?_
        refine wf_gd hF (fun gz14 hF => ?_)
        refine kv_mid (p := 48) (L := [.ref (0 + 1), .int x1, .int x2, .int x3, .int x4]) (S := [.int (if x3 = 0 then (if (h 3 x4.toNatClampNeg) = 1 then 1 else (if (h (64 * x4.toNatClampNeg + 52) 14) ≤ (h (64 * x1.toNatClampNeg + 52) 14) then 0 else 1 : Int32) : Int32) else 1 : Int32)]) ?_ (fun hK => ?_)
        · refine kg_istore (L2 := [.ref (0 + 1), .int x1, .int x2, .int (if x3 = 0 then (if (h 3 x4.toNatClampNeg) = 1 then 1 else (if (h (64 * x4.toNatClampNeg + 52) 14) ≤ (h (64 * x1.toNatClampNeg + 52) 14) then 0 else 1 : Int32) : Int32) else 1 : Int32), .int x4]) hk_133 rfl (Nat.le_of_ble_eq_true rfl) rfl rfl ?_
          refine kg_iinc (y := (x4 + 1)) (L2 := [.ref (0 + 1), .int x1, .int x2, .int (if x3 = 0 then (if (h 3 x4.toNatClampNeg) = 1 then 1 else (if (h (64 * x4.toNatClampNeg + 52) 14) ≤ (h (64 * x1.toNatClampNeg + 52) 14) then 0 else 1 : Int32) : Int32) else 1 : Int32), .int (x4 + 1)]) hk_133 rfl rfl rfl rfl rfl ?_
          refine kg_goto hk_133 rfl ?_
          have hF := Option.some.inj hF
          exact hK _ hF.symm
        · have hg := gz14
          by_cases cz6 : x3 = 0
          · have hg := wv_T cz6 hg
            have hK := kv_T cz6 hK
            have gz7 := wb_1 hg
            have hg := wb_2 hg
            refine kg_ifF hk_133 rfl (jc_F1 cz6) rfl ?_
            refine kg_aload hk_133 rfl rfl rfl ?_
            refine kg_get (v := .ref (3 + 1)) hk_133 rfl wk_0_2 rfl rfl ?_
            refine kg_iload hk_133 rfl rfl rfl ?_
            refine kg_ald (y := (h 3 x4.toNatClampNeg)) hk_133 rfl wc_3 gz7 rfl rfl ?_
            refine kg_push (x := 1) hk_133 rfl (by decide) rfl ?_
            by_cases cz8 : (h 3 x4.toNatClampNeg) = 1
            · have hK := kv_T cz8 hK
              refine kg_icT hk_133 rfl (jc_T0 cz8) ?_
              refine kg_push (x := 1) hk_133 rfl (by decide) rfl ?_
              refine kg_goto hk_133 rfl ?_
              exact hK
            · have hg := wv_F cz8 hg
              have hK := kv_F cz8 hK
              have gz9 := wb_1 hg
              have hg := wb_2 hg
              have gz11 := hg
              refine kg_icF hk_133 rfl (jc_F0 cz8) rfl ?_
              refine kg_aload hk_133 rfl rfl rfl ?_
              refine kg_get (v := .ref (2 + 1)) hk_133 rfl wk_0_1 rfl rfl ?_
              refine kg_iload hk_133 rfl rfl rfl ?_
              have hez10 := w_E we_61 wc_2 gz9
              refine kg_aald (y := (64 * x4.toNatClampNeg + 52)) hk_133 rfl gz9 hez10.1 rfl ?_
              refine kg_get (v := .int (h (64 * x4.toNatClampNeg + 52) 14)) hk_133 rfl (wf_0_14 hez10.2) rfl rfl ?_
              refine kg_aload hk_133 rfl rfl rfl ?_
              refine kg_get (v := .ref (2 + 1)) hk_133 rfl wk_0_1 rfl rfl ?_
              refine kg_iload hk_133 rfl rfl rfl ?_
              have hez12 := w_E we_61 wc_2 gz11
              refine kg_aald (y := (64 * x1.toNatClampNeg + 52)) hk_133 rfl gz11 hez12.1 rfl ?_
              refine kg_get (v := .int (h (64 * x1.toNatClampNeg + 52) 14)) hk_133 rfl (wf_0_14 hez12.2) rfl rfl ?_
              by_cases cz13 : (h (64 * x4.toNatClampNeg + 52) 14) ≤ (h (64 * x1.toNatClampNeg + 52) 14)
              · have hK := kv_T cz13 hK
                refine kg_icT hk_133 rfl (jc_T5 cz13) ?_
                refine kg_push (x := 0) hk_133 rfl (by decide) rfl ?_
                exact hK
              · have hK := kv_F cz13 hK
                refine kg_icF hk_133 rfl (jc_F5 cz13) rfl ?_
                refine kg_push (x := 1) hk_133 rfl (by decide) rfl ?_
                refine kg_goto hk_133 rfl ?_
                exact hK
          · have hK := kv_F cz6 hK
            refine kg_ifT hk_133 rfl (jc_T1 cz6) ?_
            refine kg_push (x := 1) hk_133 rfl (by decide) rfl ?_
            refine kg_goto hk_133 rfl ?_
            exact hK
      · refine kg_icF hk_133 rfl (jc_F2 cz5) rfl ?_
        refine kg_push (x := 3) hk_133 rfl (by decide) rfl ?_
        have hF := Option.some.inj hF
        exact kg_iret hk_133 rfl (Or.inl rfl) (hX1 _ hF.symm)
  · refine kg_icT hk_133 rfl (jc_T3 cz2) ?_
    have hF := Option.some.inj hF
    exact hX0 _ hF.symm _
theorem l_133_10_ok {X : List Int32} {o : kO}  {h : Hp} {x1 : Int32} {x2 : Int32}  {n : Nat} {s : Int32 × Int32} {e : (Int32 ⊕ Int32)} (hF : w_lp (fun (s : Int32 × Int32) => l_133_10 h x1 x2 s.1 s.2) n s = some e) (hX0 : ∀ x : Int32, e = (.inl x) → ∀ (u4 : Value), k_Go X 3 133 (51, [.ref (0 + 1), .int x1, .int x2, .int x, u4], []) h o) (hX1 : ∀ x : Int32, e = (.inr x) → (.inl (some (.int x)), h) = o) : k_Go X 3 133 (10, [.ref (0 + 1), .int x1, .int x2, .int s.1, .int s.2], []) h o := by
  exact w_lp_ok (P := (fun (s : Int32 × Int32) => k_Go X 3 133 (10, [.ref (0 + 1), .int x1, .int x2, .int s.1, .int s.2], []) h o)) (Q := (fun (e : (Int32 ⊕ Int32)) => (∀ x : Int32, e = (.inl x) → ∀ (u4 : Value), k_Go X 3 133 (51, [.ref (0 + 1), .int x1, .int x2, .int x, u4], []) h o) ∧ (∀ x : Int32, e = (.inr x) → (.inl (some (.int x)), h) = o))) (fun s r hF hK hX => l_133_10_st hF hK (fun x hx => (hX _ hx).1 x rfl) (fun x hx => (hX _ hx).2 x rfl)) n s e hF ⟨hX0, hX1⟩
def p_133 (h : Hp) (x1 : Int32) : Option (Int32) :=
  w_gd (w_ix x1 16) <|
  (w_lp (fun (s : Int32 × Int32) => l_133_10 h x1 (h 14 x1.toNatClampNeg) s.1 s.2) w_N (0, 0)).bind <| (Sum.elim (fun yz16 =>
    (if yz16 = 0 then
      (w_gd (w_ix x1 16) <|
      (p_5 h (64 * x1.toNatClampNeg + 52) (h 14 x1.toNatClampNeg)).bind fun vz21 =>
      if vz21 = 0 then
        (some 1)
      else
        (w_gd (w_ix x1 16) <|
        some (if (h (64 * x1.toNatClampNeg + 52) 11) = 0 then 0 else 2 : Int32)))
    else
      (some 1))) (fun yz17 =>
    (some yz17)))
theorem p_133_ok {X : List Int32}  {h : Hp} {x1 : Int32}  {r : Int32} (hF : p_133 h x1 = some r) : k_Ev X 3 133 [.ref (0 + 1), .int x1] h (.inl (some (.int r)), h) := by
  refine k_of hk_133 ?_
  show k_Go X 3 133 (0, [.ref (0 + 1), .int x1, (.retAddr 0), (.retAddr 0), (.retAddr 0)], []) h _
  unfold p_133 at hF
  refine kg_aload hk_133 rfl rfl rfl ?_
  refine kg_get (v := .ref (11 + 1)) hk_133 rfl wk_0_4 rfl rfl ?_
  refine kg_get (v := .ref (14 + 1)) hk_133 rfl wk_11_2 rfl rfl ?_
  refine kg_iload hk_133 rfl rfl rfl ?_
  refine wf_gd hF (fun gz1 hF => ?_)
  refine kg_ald (y := (h 14 x1.toNatClampNeg)) hk_133 rfl wc_14 gz1 rfl rfl ?_
  refine kg_istore (L2 := [.ref (0 + 1), .int x1, .int (h 14 x1.toNatClampNeg), (.retAddr 0), (.retAddr 0)]) hk_133 rfl (Nat.le_of_ble_eq_true rfl) rfl rfl ?_
  refine kg_push (x := 0) hk_133 rfl (by decide) rfl ?_
  refine kg_istore (L2 := [.ref (0 + 1), .int x1, .int (h 14 x1.toNatClampNeg), .int 0, (.retAddr 0)]) hk_133 rfl (Nat.le_of_ble_eq_true rfl) rfl rfl ?_
  refine kg_push (x := 0) hk_133 rfl (by decide) rfl ?_
  refine kg_istore (L2 := [.ref (0 + 1), .int x1, .int (h 14 x1.toNatClampNeg), .int 0, .int 0]) hk_133 rfl (Nat.le_of_ble_eq_true rfl) rfl rfl ?_
  refine wf_bind hF (fun ez15 hez15 hF => ?_)
  refine l_133_10_ok hez15 ?_ ?_
  · intro yz16 hx
    subst hx
    refine wf_inl hF (fun hF => ?_)
    intro u4
    refine kg_iload hk_133 rfl rfl rfl ?_
    refine wf_if hF (fun cz18 hF => ?_) (fun cz18 hF => ?_)
    · refine kg_ifF hk_133 rfl (jc_F1 cz18) rfl ?_
      refine kg_aload hk_133 rfl rfl rfl ?_
      refine kg_get (v := .ref (2 + 1)) hk_133 rfl wk_0_1 rfl rfl ?_
      refine kg_iload hk_133 rfl rfl rfl ?_
      refine wf_gd hF (fun gz19 hF => ?_)
      have hez20 := w_E we_61 wc_2 gz19
      refine kg_aald (y := (64 * x1.toNatClampNeg + 52)) hk_133 rfl gz19 hez20.1 rfl ?_
      refine kg_iload hk_133 rfl rfl rfl ?_
      refine kg_aload hk_133 rfl rfl rfl ?_
      refine kg_get (v := .ref (4 + 1)) hk_133 rfl wk_0_3 rfl rfl ?_
      refine wf_bind hF (fun vz21 hvz21 hF => ?_)
      refine kg_call (as := [.ref ((64 * x1.toNatClampNeg + 52) + 1), .int (h 14 x1.toNatClampNeg), .ref (4 + 1)]) (rest := []) hk_133 rfl (Or.inr (Or.inr (Or.inr ⟨Or.inl rfl, _, _, rfl, hez20.2⟩))) rfl rfl rfl (Nat.not_lt.mpr (Nat.le_of_ble_eq_true rfl)) (p_5_ok hez20.2 hvz21) (by decide) rfl ?_
      refine wf_if hF (fun cz22 hF => ?_) (fun cz22 hF => ?_)
      · refine kg_ifF hk_133 rfl (jc_F1 cz22) rfl ?_
        refine kg_push (x := 1) hk_133 rfl (by decide) rfl ?_
        have hF := Option.some.inj hF
        subst hF
        exact kg_iret hk_133 rfl (Or.inl rfl) rfl
      · refine kg_ifT hk_133 rfl (jc_T1 cz22) ?_
        refine kg_aload hk_133 rfl rfl rfl ?_
        refine kg_get (v := .ref (2 + 1)) hk_133 rfl wk_0_1 rfl rfl ?_
        refine kg_iload hk_133 rfl rfl rfl ?_
        refine wf_gd hF (fun gz23 hF => ?_)
        have hez24 := w_E we_61 wc_2 gz23
        refine kg_aald (y := (64 * x1.toNatClampNeg + 52)) hk_133 rfl gz23 hez24.1 rfl ?_
        refine kg_get (v := .int (h (64 * x1.toNatClampNeg + 52) 11)) hk_133 rfl (wf_0_11 hez24.2) rfl rfl ?_
        refine kv_mid (p := 73) (L := [.ref (0 + 1), .int x1, .int (h 14 x1.toNatClampNeg), .int yz16, u4]) (S := [.int (if (h (64 * x1.toNatClampNeg + 52) 11) = 0 then 0 else 2 : Int32)]) ?_ (fun hK => ?_)
        · have hF := Option.some.inj hF
          subst hF
          exact kg_iret hk_133 rfl (Or.inl rfl) rfl
        · by_cases cz25 : (h (64 * x1.toNatClampNeg + 52) 11) = 0
          · have hK := kv_T cz25 hK
            refine kg_ifF hk_133 rfl (jc_F1 cz25) rfl ?_
            refine kg_push (x := 0) hk_133 rfl (by decide) rfl ?_
            refine kg_goto hk_133 rfl ?_
            exact hK
          · have hK := kv_F cz25 hK
            refine kg_ifT hk_133 rfl (jc_T1 cz25) ?_
            refine kg_push (x := 2) hk_133 rfl (by decide) rfl ?_
            exact hK
    · refine kg_ifT hk_133 rfl (jc_T1 cz18) ?_
      refine kg_push (x := 1) hk_133 rfl (by decide) rfl ?_
      have hF := Option.some.inj hF
      subst hF
      exact kg_iret hk_133 rfl (Or.inl rfl) rfl
  · intro yz17 hx
    subst hx
    refine wf_inr hF (fun hF => ?_)
    have hF := Option.some.inj hF
    subst hF
    rfl
-- NotebookWeir.judge()V
theorem hk_132 : jP[132]? = some (jc_132, 3, [], []) := by rfl
def l_132_2 (x1 : Int32) (h : Hp) : Option ((Int32 × Hp) ⊕ Hp) :=
  if x1 < (h 0 10) then
    (w_gd (w_ix x1 16) <|
    w_let (w_up h 3 x1.toNatClampNeg (if (v_126 (h 11 6) x1) = 0 then (if (v_126 (h 11 7) x1) = 0 then 3 else 4 : Int32) else 5 : Int32)) fun hz5 =>
    some (.inl ((x1 + 1), hz5)))
  else
    (some (.inr h))
theorem l_132_2_st {X : List Int32} {o : kO}  {h : Hp} {x1 : Int32}  {r : (Int32 × Hp) ⊕ Hp} (hF : l_132_2 x1 h = some r) (hK : ∀ s' : Int32 × Hp, r = .inl s' → ∀ (u2 : Value), k_Go X 4 132 (2, [.ref (0 + 1), .int (s'.1), u2], []) s'.2 o) (hX0 : ∀ e : Hp, r = .inr e → ∀ (u1 : Value) (u2 : Value), k_Go X 4 132 (29, [.ref (0 + 1), u1, u2], []) e o) : ∀ (u2 : Value), k_Go X 4 132 (2, [.ref (0 + 1), .int x1, u2], []) h o := by
  intro u2
  refine kg_iload hk_132 rfl rfl rfl ?_
  refine kg_aload hk_132 rfl rfl rfl ?_
  refine kg_get (v := .int (h 0 10)) hk_132 rfl wk_0_10 rfl rfl ?_
  refine wf_if hF (fun cz1 hF => ?_) (fun cz1 hF => ?_)
  · refine kg_icF hk_132 rfl (jc_F3 cz1) rfl ?_
    refine kg_aload hk_132 rfl rfl rfl ?_
    refine kg_get (v := .ref (3 + 1)) hk_132 rfl wk_0_2 rfl rfl ?_
    refine kg_iload hk_132 rfl rfl rfl ?_
    refine kg_aload hk_132 rfl rfl rfl ?_
    refine kg_get (v := .ref (11 + 1)) hk_132 rfl wk_0_4 rfl rfl ?_
    refine kg_get (v := .int (h 11 6)) hk_132 rfl wk_11_6 rfl rfl ?_
    refine kg_iload hk_132 rfl rfl rfl ?_
    refine kg_call (as := [.int (h 11 6), .int x1]) (rest := [.int x1, .ref (3 + 1)]) hk_132 rfl (Or.inl rfl) rfl rfl rfl (Nat.not_lt.mpr (Nat.le_of_ble_eq_true rfl)) (v_126_ok) (by decide) rfl ?_
    refine kv_mid (p := 26) (L := [.ref (0 + 1), .int x1, u2]) (S := [.int (if (v_126 (h 11 6) x1) = 0 then (if (v_126 (h 11 7) x1) = 0 then 3 else 4 : Int32) else 5 : Int32), .int x1, .ref (3 + 1)]) ?_ (fun hK => ?_)
    · refine wf_gd hF (fun gz4 hF => ?_)
      refine wf_let hF (fun hz5 hhz5 hF => ?_)
      refine kg_ast hk_132 rfl wc_3 gz4 hhz5 rfl ?_
      refine kg_iinc (y := (x1 + 1)) (L2 := [.ref (0 + 1), .int (x1 + 1), u2]) hk_132 rfl rfl rfl rfl rfl ?_
      refine kg_goto hk_132 rfl ?_
      have hF := Option.some.inj hF
      exact hK _ hF.symm _
    · by_cases cz2 : (v_126 (h 11 6) x1) = 0
      · have hK := kv_T cz2 hK
        refine kg_ifT hk_132 rfl (jc_T0 cz2) ?_
        refine kg_aload hk_132 rfl rfl rfl ?_
        refine kg_get (v := .ref (11 + 1)) hk_132 rfl wk_0_4 rfl rfl ?_
        refine kg_get (v := .int (h 11 7)) hk_132 rfl wk_11_7 rfl rfl ?_
        refine kg_iload hk_132 rfl rfl rfl ?_
        refine kg_call (as := [.int (h 11 7), .int x1]) (rest := [.int x1, .ref (3 + 1)]) hk_132 rfl (Or.inl rfl) rfl rfl rfl (Nat.not_lt.mpr (Nat.le_of_ble_eq_true rfl)) (v_126_ok) (by decide) rfl ?_
        by_cases cz3 : (v_126 (h 11 7) x1) = 0
        · have hK := kv_T cz3 hK
          refine kg_ifT hk_132 rfl (jc_T0 cz3) ?_
          refine kg_push (x := 3) hk_132 rfl (by decide) rfl ?_
          exact hK
        · have hK := kv_F cz3 hK
          refine kg_ifF hk_132 rfl (jc_F0 cz3) rfl ?_
          refine kg_push (x := 4) hk_132 rfl (by decide) rfl ?_
          refine kg_goto hk_132 rfl ?_
          exact hK
      · have hK := kv_F cz2 hK
        refine kg_ifF hk_132 rfl (jc_F0 cz2) rfl ?_
        refine kg_push (x := 5) hk_132 rfl (by decide) rfl ?_
        refine kg_goto hk_132 rfl ?_
        exact hK
  · refine kg_icT hk_132 rfl (jc_T3 cz1) ?_
    have hF := Option.some.inj hF
    exact hX0 _ hF.symm _ _
theorem l_132_2_ok {X : List Int32} {o : kO}    {n : Nat} {s : Int32 × Hp} {e : Hp} (hF : w_lp (fun (s : Int32 × Hp) => l_132_2 s.1 s.2) n s = some e) (hX0 : ∀ (u1 : Value) (u2 : Value), k_Go X 4 132 (29, [.ref (0 + 1), u1, u2], []) e o) : ∀ (u2 : Value), k_Go X 4 132 (2, [.ref (0 + 1), .int s.1, u2], []) s.2 o := by
  exact w_lp_ok (P := (fun (s : Int32 × Hp) => ∀ (u2 : Value), k_Go X 4 132 (2, [.ref (0 + 1), .int s.1, u2], []) s.2 o)) (Q := (fun (e : Hp) => (∀ (u1 : Value) (u2 : Value), k_Go X 4 132 (29, [.ref (0 + 1), u1, u2], []) e o))) (fun s r hF hK hX => l_132_2_st hF hK (fun x hx => (hX _ hx))) n s e hF hX0
def l_132_31 (x1 : Int32) (h : Hp) : Option ((Int32 × Hp) ⊕ Hp) :=
  if x1 < (h 11 5) then
    (w_gd (w_ix x1 16) <|
    (p_133 h (h 16 x1.toNatClampNeg)).bind fun vz9 =>
    w_gd (w_ix (h 16 x1.toNatClampNeg) 16) <|
    w_let (w_up h 3 ((h 16 x1.toNatClampNeg).toNatClampNeg) vz9) fun hz11 =>
    some (.inl ((x1 + 1), hz11)))
  else
    (some (.inr h))
theorem l_132_31_st {X : List Int32} {o : kO}  {h : Hp} {x1 : Int32}  {r : (Int32 × Hp) ⊕ Hp} (hF : l_132_31 x1 h = some r) (hK : ∀ s' : Int32 × Hp, r = .inl s' → ∀ (u2 : Value), k_Go X 4 132 (31, [.ref (0 + 1), .int (s'.1), u2], []) s'.2 o) (hX0 : ∀ e : Hp, r = .inr e → (.inl none, e) = o) : ∀ (u2 : Value), k_Go X 4 132 (31, [.ref (0 + 1), .int x1, u2], []) h o := by
  intro u2
  refine kg_iload hk_132 rfl rfl rfl ?_
  refine kg_aload hk_132 rfl rfl rfl ?_
  refine kg_get (v := .ref (11 + 1)) hk_132 rfl wk_0_4 rfl rfl ?_
  refine kg_get (v := .int (h 11 5)) hk_132 rfl wk_11_5 rfl rfl ?_
  refine wf_if hF (fun cz7 hF => ?_) (fun cz7 hF => ?_)
  · refine kg_icF hk_132 rfl (jc_F3 cz7) rfl ?_
    refine kg_aload hk_132 rfl rfl rfl ?_
    refine kg_get (v := .ref (11 + 1)) hk_132 rfl wk_0_4 rfl rfl ?_
    refine kg_get (v := .ref (16 + 1)) hk_132 rfl wk_11_4 rfl rfl ?_
    refine kg_iload hk_132 rfl rfl rfl ?_
    refine wf_gd hF (fun gz8 hF => ?_)
    refine kg_ald (y := (h 16 x1.toNatClampNeg)) hk_132 rfl wc_16 gz8 rfl rfl ?_
    refine kg_istore (L2 := [.ref (0 + 1), .int x1, .int (h 16 x1.toNatClampNeg)]) hk_132 rfl (Nat.le_of_ble_eq_true rfl) rfl rfl ?_
    refine kg_aload hk_132 rfl rfl rfl ?_
    refine kg_get (v := .ref (3 + 1)) hk_132 rfl wk_0_2 rfl rfl ?_
    refine kg_iload hk_132 rfl rfl rfl ?_
    refine kg_aload hk_132 rfl rfl rfl ?_
    refine kg_iload hk_132 rfl rfl rfl ?_
    refine wf_bind hF (fun vz9 hvz9 hF => ?_)
    refine kg_call (as := [.ref (0 + 1), .int (h 16 x1.toNatClampNeg)]) (rest := [.int (h 16 x1.toNatClampNeg), .ref (3 + 1)]) hk_132 rfl (Or.inr (Or.inr (Or.inr ⟨Or.inl rfl, _, _, rfl, wc_0⟩))) rfl rfl rfl (Nat.not_lt.mpr (Nat.le_of_ble_eq_true rfl)) (p_133_ok hvz9) (by decide) rfl ?_
    refine wf_gd hF (fun gz10 hF => ?_)
    refine wf_let hF (fun hz11 hhz11 hF => ?_)
    refine kg_ast hk_132 rfl wc_3 gz10 hhz11 rfl ?_
    refine kg_iinc (y := (x1 + 1)) (L2 := [.ref (0 + 1), .int (x1 + 1), .int (h 16 x1.toNatClampNeg)]) hk_132 rfl rfl rfl rfl rfl ?_
    refine kg_goto hk_132 rfl ?_
    have hF := Option.some.inj hF
    exact hK _ hF.symm _
  · refine kg_icT hk_132 rfl (jc_T3 cz7) ?_
    have hF := Option.some.inj hF
    exact kg_ret hk_132 rfl (hX0 _ hF.symm)
theorem l_132_31_ok {X : List Int32} {o : kO}    {n : Nat} {s : Int32 × Hp} {e : Hp} (hF : w_lp (fun (s : Int32 × Hp) => l_132_31 s.1 s.2) n s = some e) (hX0 : (.inl none, e) = o) : ∀ (u2 : Value), k_Go X 4 132 (31, [.ref (0 + 1), .int s.1, u2], []) s.2 o := by
  exact w_lp_ok (P := (fun (s : Int32 × Hp) => ∀ (u2 : Value), k_Go X 4 132 (31, [.ref (0 + 1), .int s.1, u2], []) s.2 o)) (Q := (fun (e : Hp) => ((.inl none, e) = o))) (fun s r hF hK hX => l_132_31_st hF hK (fun x hx => (hX _ hx))) n s e hF hX0
def p_132 (h : Hp) : Option (Hp) :=
  (w_lp (fun (s : Int32 × Hp) => l_132_2 s.1 s.2) w_N (0, h)).bind fun ez6 =>
  w_lp (fun (s : Int32 × Hp) => l_132_31 s.1 s.2) w_N (0, ez6)
theorem p_132_ok {X : List Int32}  {h : Hp}   {r : Hp} (hF : p_132 h = some r) : k_Ev X 4 132 [.ref (0 + 1)] h (.inl none, r) := by
  refine k_of hk_132 ?_
  show k_Go X 4 132 (0, [.ref (0 + 1), (.retAddr 0), (.retAddr 0)], []) h _
  unfold p_132 at hF
  refine kg_push (x := 0) hk_132 rfl (by decide) rfl ?_
  refine kg_istore (L2 := [.ref (0 + 1), .int 0, (.retAddr 0)]) hk_132 rfl (Nat.le_of_ble_eq_true rfl) rfl rfl ?_
  refine wf_bind hF (fun ez6 hez6 hF => ?_)
  refine l_132_2_ok hez6 ?_ _
  intro u1 u2
  refine kg_push (x := 0) hk_132 rfl (by decide) rfl ?_
  refine kg_istore (L2 := [.ref (0 + 1), .int 0, u2]) hk_132 rfl (Nat.le_of_ble_eq_true rfl) rfl rfl ?_
  exact l_132_31_ok hF rfl _
-- NotebookWeir.areNeedsFresh(I)Z
theorem hk_136 : jP[136]? = some (jc_136, 3, [], []) := by rfl
def l_136_2 (h : Hp) (x1 : Int32) (x2 : Int32) : Option ((Int32) ⊕ Int32) :=
  if x2 < (h 0 10) then
    (w_gd (w_ix x1 16) <|
    if (v_126 (h 14 x1.toNatClampNeg) x2) = 0 then
      (some (.inl (x2 + 1)))
    else
      (w_gd (w_ix x2 16) <|
      if (h 3 x2.toNatClampNeg) = 0 then
        (some (.inl (x2 + 1)))
      else
        (some (.inr 0))))
  else
    (some (.inr 1))
theorem l_136_2_st {X : List Int32} {o : kO}  {h : Hp} {x1 : Int32} {x2 : Int32}  {r : (Int32) ⊕ Int32} (hF : l_136_2 h x1 x2 = some r) (hK : ∀ s' : Int32, r = .inl s' → k_Go X 1 136 (2, [.ref (0 + 1), .int x1, .int (s')], []) h o) (hX0 : ∀ e : Int32, r = .inr e → (.inl (some (.int e)), h) = o) : k_Go X 1 136 (2, [.ref (0 + 1), .int x1, .int x2], []) h o := by
  refine kg_iload hk_136 rfl rfl rfl ?_
  refine kg_aload hk_136 rfl rfl rfl ?_
  refine kg_get (v := .int (h 0 10)) hk_136 rfl wk_0_10 rfl rfl ?_
  refine wf_if hF (fun cz1 hF => ?_) (fun cz1 hF => ?_)
  · refine kg_icF hk_136 rfl (jc_F3 cz1) rfl ?_
    refine kg_aload hk_136 rfl rfl rfl ?_
    refine kg_get (v := .ref (11 + 1)) hk_136 rfl wk_0_4 rfl rfl ?_
    refine kg_get (v := .ref (14 + 1)) hk_136 rfl wk_11_2 rfl rfl ?_
    refine kg_iload hk_136 rfl rfl rfl ?_
    refine wf_gd hF (fun gz2 hF => ?_)
    refine kg_ald (y := (h 14 x1.toNatClampNeg)) hk_136 rfl wc_14 gz2 rfl rfl ?_
    refine kg_iload hk_136 rfl rfl rfl ?_
    refine kg_call (as := [.int (h 14 x1.toNatClampNeg), .int x2]) (rest := []) hk_136 rfl (Or.inl rfl) rfl rfl rfl (Nat.not_lt.mpr (Nat.le_of_ble_eq_true rfl)) (v_126_ok) (by decide) rfl ?_
    refine wf_if hF (fun cz3 hF => ?_) (fun cz3 hF => ?_)
    · refine kg_ifT hk_136 rfl (jc_T0 cz3) ?_
      refine kg_iinc (y := (x2 + 1)) (L2 := [.ref (0 + 1), .int x1, .int (x2 + 1)]) hk_136 rfl rfl rfl rfl rfl ?_
      refine kg_goto hk_136 rfl ?_
      have hF := Option.some.inj hF
      exact hK _ hF.symm
    · refine kg_ifF hk_136 rfl (jc_F0 cz3) rfl ?_
      refine kg_aload hk_136 rfl rfl rfl ?_
      refine kg_get (v := .ref (3 + 1)) hk_136 rfl wk_0_2 rfl rfl ?_
      refine kg_iload hk_136 rfl rfl rfl ?_
      refine wf_gd hF (fun gz4 hF => ?_)
      refine kg_ald (y := (h 3 x2.toNatClampNeg)) hk_136 rfl wc_3 gz4 rfl rfl ?_
      refine wf_if hF (fun cz5 hF => ?_) (fun cz5 hF => ?_)
      · refine kg_ifT hk_136 rfl (jc_T0 cz5) ?_
        refine kg_iinc (y := (x2 + 1)) (L2 := [.ref (0 + 1), .int x1, .int (x2 + 1)]) hk_136 rfl rfl rfl rfl rfl ?_
        refine kg_goto hk_136 rfl ?_
        have hF := Option.some.inj hF
        exact hK _ hF.symm
      · refine kg_ifF hk_136 rfl (jc_F0 cz5) rfl ?_
        refine kg_push (x := 0) hk_136 rfl (by decide) rfl ?_
        have hF := Option.some.inj hF
        exact kg_iret hk_136 rfl (Or.inr rfl) (hX0 _ hF.symm)
  · refine kg_icT hk_136 rfl (jc_T3 cz1) ?_
    refine kg_push (x := 1) hk_136 rfl (by decide) rfl ?_
    have hF := Option.some.inj hF
    exact kg_iret hk_136 rfl (Or.inr rfl) (hX0 _ hF.symm)
theorem l_136_2_ok {X : List Int32} {o : kO}  {h : Hp} {x1 : Int32}  {n : Nat} {s : Int32} {e : Int32} (hF : w_lp (fun (s : Int32) => l_136_2 h x1 s) n s = some e) (hX0 : (.inl (some (.int e)), h) = o) : k_Go X 1 136 (2, [.ref (0 + 1), .int x1, .int s], []) h o := by
  exact w_lp_ok (P := (fun (s : Int32) => k_Go X 1 136 (2, [.ref (0 + 1), .int x1, .int s], []) h o)) (Q := (fun (e : Int32) => ((.inl (some (.int e)), h) = o))) (fun s r hF hK hX => l_136_2_st hF hK (fun x hx => (hX _ hx))) n s e hF hX0
def p_136 (h : Hp) (x1 : Int32) : Option (Int32) :=
  w_lp (fun (s : Int32) => l_136_2 h x1 s) w_N 0
theorem p_136_ok {X : List Int32}  {h : Hp} {x1 : Int32}  {r : Int32} (hF : p_136 h x1 = some r) : k_Ev X 1 136 [.ref (0 + 1), .int x1] h (.inl (some (.int r)), h) := by
  refine k_of hk_136 ?_
  show k_Go X 1 136 (0, [.ref (0 + 1), .int x1, (.retAddr 0)], []) h _
  unfold p_136 at hF
  refine kg_push (x := 0) hk_136 rfl (by decide) rfl ?_
  refine kg_istore (L2 := [.ref (0 + 1), .int x1, .int 0]) hk_136 rfl (Nat.le_of_ble_eq_true rfl) rfl rfl ?_
  exact l_136_2_ok hF rfl
-- NotebookWeir.lowestReady(I)I
theorem hk_135 : jP[135]? = some (jc_135, 3, [], []) := by rfl
def l_135_2 (h : Hp) (x1 : Int32) (x2 : Int32) : Option ((Int32) ⊕ Int32) :=
  if x2 < (h 0 10) then
    (if (v_126 x1 x2) = 0 then
      (some (.inl (x2 + 1)))
    else
      (w_gd (w_ix x2 16) <|
      if (h 3 x2.toNatClampNeg) = 1 then
        ((p_136 h x2).bind fun vz5 =>
        if vz5 = 0 then
          (some (.inl (x2 + 1)))
        else
          (some (.inr x2)))
      else
        (some (.inl (x2 + 1)))))
  else
    (some (.inr (-1)))
theorem l_135_2_st {X : List Int32} {o : kO}  {h : Hp} {x1 : Int32} {x2 : Int32}  {r : (Int32) ⊕ Int32} (hF : l_135_2 h x1 x2 = some r) (hK : ∀ s' : Int32, r = .inl s' → k_Go X 2 135 (2, [.ref (0 + 1), .int x1, .int (s')], []) h o) (hX0 : ∀ e : Int32, r = .inr e → (.inl (some (.int e)), h) = o) : k_Go X 2 135 (2, [.ref (0 + 1), .int x1, .int x2], []) h o := by
  refine kg_iload hk_135 rfl rfl rfl ?_
  refine kg_aload hk_135 rfl rfl rfl ?_
  refine kg_get (v := .int (h 0 10)) hk_135 rfl wk_0_10 rfl rfl ?_
  refine wf_if hF (fun cz1 hF => ?_) (fun cz1 hF => ?_)
  · refine kg_icF hk_135 rfl (jc_F3 cz1) rfl ?_
    refine kg_iload hk_135 rfl rfl rfl ?_
    refine kg_iload hk_135 rfl rfl rfl ?_
    refine kg_call (as := [.int x1, .int x2]) (rest := []) hk_135 rfl (Or.inl rfl) rfl rfl rfl (Nat.not_lt.mpr (Nat.le_of_ble_eq_true rfl)) (v_126_ok) (by decide) rfl ?_
    refine wf_if hF (fun cz2 hF => ?_) (fun cz2 hF => ?_)
    · refine kg_ifT hk_135 rfl (jc_T0 cz2) ?_
      refine kg_iinc (y := (x2 + 1)) (L2 := [.ref (0 + 1), .int x1, .int (x2 + 1)]) hk_135 rfl rfl rfl rfl rfl ?_
      refine kg_goto hk_135 rfl ?_
      have hF := Option.some.inj hF
      exact hK _ hF.symm
    · refine kg_ifF hk_135 rfl (jc_F0 cz2) rfl ?_
      refine kg_aload hk_135 rfl rfl rfl ?_
      refine kg_get (v := .ref (3 + 1)) hk_135 rfl wk_0_2 rfl rfl ?_
      refine kg_iload hk_135 rfl rfl rfl ?_
      refine wf_gd hF (fun gz3 hF => ?_)
      refine kg_ald (y := (h 3 x2.toNatClampNeg)) hk_135 rfl wc_3 gz3 rfl rfl ?_
      refine kg_push (x := 1) hk_135 rfl (by decide) rfl ?_
      refine wf_if hF (fun cz4 hF => ?_) (fun cz4 hF => ?_)
      · refine kg_icF hk_135 rfl (jc_F1 cz4) rfl ?_
        refine kg_aload hk_135 rfl rfl rfl ?_
        refine kg_iload hk_135 rfl rfl rfl ?_
        refine wf_bind hF (fun vz5 hvz5 hF => ?_)
        refine kg_call (as := [.ref (0 + 1), .int x2]) (rest := []) hk_135 rfl (Or.inr (Or.inr (Or.inr ⟨Or.inl rfl, _, _, rfl, wc_0⟩))) rfl rfl rfl (Nat.not_lt.mpr (Nat.le_of_ble_eq_true rfl)) (p_136_ok hvz5) (by decide) rfl ?_
        refine wf_if hF (fun cz6 hF => ?_) (fun cz6 hF => ?_)
        · refine kg_ifT hk_135 rfl (jc_T0 cz6) ?_
          refine kg_iinc (y := (x2 + 1)) (L2 := [.ref (0 + 1), .int x1, .int (x2 + 1)]) hk_135 rfl rfl rfl rfl rfl ?_
          refine kg_goto hk_135 rfl ?_
          have hF := Option.some.inj hF
          exact hK _ hF.symm
        · refine kg_ifF hk_135 rfl (jc_F0 cz6) rfl ?_
          refine kg_iload hk_135 rfl rfl rfl ?_
          have hF := Option.some.inj hF
          exact kg_iret hk_135 rfl (Or.inl rfl) (hX0 _ hF.symm)
      · refine kg_icT hk_135 rfl (jc_T1 cz4) ?_
        refine kg_iinc (y := (x2 + 1)) (L2 := [.ref (0 + 1), .int x1, .int (x2 + 1)]) hk_135 rfl rfl rfl rfl rfl ?_
        refine kg_goto hk_135 rfl ?_
        have hF := Option.some.inj hF
        exact hK _ hF.symm
  · refine kg_icT hk_135 rfl (jc_T3 cz1) ?_
    refine kg_push (x := (-1)) hk_135 rfl (by decide) rfl ?_
    have hF := Option.some.inj hF
    exact kg_iret hk_135 rfl (Or.inl rfl) (hX0 _ hF.symm)
theorem l_135_2_ok {X : List Int32} {o : kO}  {h : Hp} {x1 : Int32}  {n : Nat} {s : Int32} {e : Int32} (hF : w_lp (fun (s : Int32) => l_135_2 h x1 s) n s = some e) (hX0 : (.inl (some (.int e)), h) = o) : k_Go X 2 135 (2, [.ref (0 + 1), .int x1, .int s], []) h o := by
  exact w_lp_ok (P := (fun (s : Int32) => k_Go X 2 135 (2, [.ref (0 + 1), .int x1, .int s], []) h o)) (Q := (fun (e : Int32) => ((.inl (some (.int e)), h) = o))) (fun s r hF hK hX => l_135_2_st hF hK (fun x hx => (hX _ hx))) n s e hF hX0
def p_135 (h : Hp) (x1 : Int32) : Option (Int32) :=
  w_lp (fun (s : Int32) => l_135_2 h x1 s) w_N 0
theorem p_135_ok {X : List Int32}  {h : Hp} {x1 : Int32}  {r : Int32} (hF : p_135 h x1 = some r) : k_Ev X 2 135 [.ref (0 + 1), .int x1] h (.inl (some (.int r)), h) := by
  refine k_of hk_135 ?_
  show k_Go X 2 135 (0, [.ref (0 + 1), .int x1, (.retAddr 0)], []) h _
  unfold p_135 at hF
  refine kg_push (x := 0) hk_135 rfl (by decide) rfl ?_
  refine kg_istore (L2 := [.ref (0 + 1), .int x1, .int 0]) hk_135 rfl (Nat.le_of_ble_eq_true rfl) rfl rfl ?_
  exact l_135_2_ok hF rfl
-- NotebookWeir.keptFor(I)LNotebookWeir$Kept;
theorem hk_140 : jP[140]? = some (jc_140, 4, [], []) := by rfl
def q_140_24 (h : Hp) (q2 : Nat) (s0 : Int32) : Option (Nat) :=
  if s0 = 0 then
    (some 0)
  else
    (some ((q2 + 17) + 1))
theorem q_140_24_ok {X : List Int32}   {h : Hp} {q2 : Nat} {s0 : Int32} (t2 : w_ob q2 0) {r : Nat} (hF : q_140_24 h q2 s0 = some r)  : ∀ (u0 : Value) (u1 : Value) (u3 : Value), k_Go X 3 140 (24, [u0, u1, .ref (q2 + 1), u3], [.int s0]) h (.inl (some (w_rf r)), h) := by
  intro u0 u1 u3
  unfold q_140_24 at hF
  refine kg_istore (L2 := [u0, u1, .ref (q2 + 1), .int s0]) hk_140 rfl (Nat.le_of_ble_eq_true rfl) rfl rfl ?_
  refine kg_iload hk_140 rfl rfl rfl ?_
  refine wf_if hF (fun cz4 hF => ?_) (fun cz4 hF => ?_)
  · refine kg_ifT hk_140 rfl (jc_T0 cz4) ?_
    refine kg_null hk_140 rfl rfl ?_
    have hF := Option.some.inj hF
    subst hF
    exact kg_aret hk_140 rfl rfl
  · refine kg_ifF hk_140 rfl (jc_F0 cz4) rfl ?_
    refine kg_aload hk_140 rfl rfl rfl ?_
    refine kg_get (v := .ref ((q2 + 17) + 1)) hk_140 rfl (wf_0_5 t2) rfl rfl ?_
    refine kg_goto hk_140 rfl ?_
    refine kg_cvR ?_
    have hF := Option.some.inj hF
    subst hF
    exact kg_aret hk_140 rfl rfl
def q_140_23 (h : Hp) (q2 : Nat) : Option (Nat) :=
  q_140_24 h q2 0
theorem q_140_23_ok {X : List Int32}   {h : Hp} {q2 : Nat} (t2 : w_ob q2 0) {r : Nat} (hF : q_140_23 h q2 = some r)  : ∀ (u0 : Value) (u1 : Value) (u3 : Value), k_Go X 3 140 (23, [u0, u1, .ref (q2 + 1), u3], []) h (.inl (some (w_rf r)), h) := by
  intro u0 u1 u3
  unfold q_140_23 at hF
  refine kg_push (x := 0) hk_140 rfl (by decide) rfl ?_
  exact q_140_24_ok t2 hF _ _ _
def p_140 (h : Hp) (x1 : Int32) : Option (Nat) :=
  w_gd (w_ix x1 16) <|
  if (v_126 (h 0 15) x1) = 0 then
    (q_140_23 h (64 * x1.toNatClampNeg + 52))
  else
    (if (h (64 * x1.toNatClampNeg + 52) 16) = 0 then
      (q_140_23 h (64 * x1.toNatClampNeg + 52))
    else
      ((p_14 h (64 * x1.toNatClampNeg + 69) (64 * x1.toNatClampNeg + 53) 45).bind fun vz6 =>
      q_140_24 h (64 * x1.toNatClampNeg + 52) (if vz6 = 0 then 0 else 1 : Int32)))
theorem p_140_ok {X : List Int32}  {h : Hp} {x1 : Int32}  {r : Nat} (hF : p_140 h x1 = some r) : k_Ev X 3 140 [.ref (0 + 1), .int x1] h (.inl (some (w_rf r)), h) := by
  refine k_of hk_140 ?_
  show k_Go X 3 140 (0, [.ref (0 + 1), .int x1, (.retAddr 0), (.retAddr 0)], []) h _
  unfold p_140 at hF
  refine kg_aload hk_140 rfl rfl rfl ?_
  refine kg_get (v := .ref (2 + 1)) hk_140 rfl wk_0_1 rfl rfl ?_
  refine kg_iload hk_140 rfl rfl rfl ?_
  refine wf_gd hF (fun gz1 hF => ?_)
  have hez2 := w_E we_61 wc_2 gz1
  refine kg_aald (y := (64 * x1.toNatClampNeg + 52)) hk_140 rfl gz1 hez2.1 rfl ?_
  refine kg_astore (L2 := [.ref (0 + 1), .int x1, .ref ((64 * x1.toNatClampNeg + 52) + 1), (.retAddr 0)]) hk_140 rfl (Nat.le_of_ble_eq_true rfl) rfl rfl ?_
  refine kg_aload hk_140 rfl rfl rfl ?_
  refine kg_get (v := .int (h 0 15)) hk_140 rfl wk_0_15 rfl rfl ?_
  refine kg_iload hk_140 rfl rfl rfl ?_
  refine kg_call (as := [.int (h 0 15), .int x1]) (rest := []) hk_140 rfl (Or.inl rfl) rfl rfl rfl (Nat.not_lt.mpr (Nat.le_of_ble_eq_true rfl)) (v_126_ok) (by decide) rfl ?_
  refine wf_if hF (fun cz3 hF => ?_) (fun cz3 hF => ?_)
  · refine kg_ifT hk_140 rfl (jc_T0 cz3) ?_
    exact q_140_23_ok hez2.2 hF _ _ _
  · refine kg_ifF hk_140 rfl (jc_F0 cz3) rfl ?_
    refine kg_aload hk_140 rfl rfl rfl ?_
    refine kg_get (v := .int (h (64 * x1.toNatClampNeg + 52) 16)) hk_140 rfl (wf_0_16 hez2.2) rfl rfl ?_
    refine wf_if hF (fun cz5 hF => ?_) (fun cz5 hF => ?_)
    · refine kg_ifT hk_140 rfl (jc_T0 cz5) ?_
      exact q_140_23_ok hez2.2 hF _ _ _
    · refine kg_ifF hk_140 rfl (jc_F0 cz5) rfl ?_
      refine kg_aload hk_140 rfl rfl rfl ?_
      refine kg_get (v := .ref ((64 * x1.toNatClampNeg + 69) + 1)) hk_140 rfl (wf_0_5 hez2.2) rfl rfl ?_
      refine kg_aload hk_140 rfl rfl rfl ?_
      refine kg_get (v := .ref ((64 * x1.toNatClampNeg + 53) + 1)) hk_140 rfl (wf_0_0 hez2.2) rfl rfl ?_
      refine kg_aload hk_140 rfl rfl rfl ?_
      refine kg_get (v := .ref (45 + 1)) hk_140 rfl wk_0_9 rfl rfl ?_
      refine wf_bind hF (fun vz6 hvz6 hF => ?_)
      refine kg_call (as := [.ref ((64 * x1.toNatClampNeg + 69) + 1), .ref ((64 * x1.toNatClampNeg + 53) + 1), .ref (45 + 1)]) (rest := []) hk_140 rfl (Or.inr (Or.inr (Or.inr ⟨Or.inl rfl, _, _, rfl, (wo_0_5 hez2.2)⟩))) rfl rfl rfl (Nat.not_lt.mpr (Nat.le_of_ble_eq_true rfl)) (p_14_ok (wo_0_5 hez2.2) (wo_0_0 hez2.2) wc_45 hvz6) (by decide) rfl ?_
      refine kv_mid (p := 24) (L := [.ref (0 + 1), .int x1, .ref ((64 * x1.toNatClampNeg + 52) + 1), (.retAddr 0)]) (S := [.int (if vz6 = 0 then 0 else 1 : Int32)]) ?_ (fun hK => ?_)
      · exact q_140_24_ok hez2.2 hF _ _ _
      · by_cases cz7 : vz6 = 0
        · have hK := kv_T cz7 hK
          refine kg_ifT hk_140 rfl (jc_T0 cz7) ?_
          refine kg_push (x := 0) hk_140 rfl (by decide) rfl ?_
          exact hK
        · have hK := kv_F cz7 hK
          refine kg_ifF hk_140 rfl (jc_F0 cz7) rfl ?_
          refine kg_push (x := 1) hk_140 rfl (by decide) rfl ?_
          refine kg_goto hk_140 rfl ?_
          exact hK
-- NotebookWeir.isCell(I)Z
theorem hk_125 : jP[125]? = some (jc_125, 2, [], []) := by rfl
def v_125 (h : Hp) (x1 : Int32) : Int32 := (if x1 < 0 then 0 else (if x1 < (h 0 10) then 1 else 0 : Int32) : Int32)
theorem v_125_bo (h : Hp) (x1 : Int32) : w_bo (v_125 h x1) = true := by
  unfold v_125
  exact (w_boi rfl (w_boi rfl rfl))
theorem v_125_ok {X : List Int32} {h : Hp} {x1 : Int32}  : k_Ev X 0 125 [.ref (0 + 1), .int x1] h (.inl (some (.int (v_125 h x1))), h) := by
  refine k_of hk_125 ?_
  show k_Go X 0 125 (0, [.ref (0 + 1), .int x1], []) h _
  generalize hv : v_125 h x1 = z
  unfold v_125 at hv
  refine kg_iload hk_125 rfl rfl rfl ?_
  refine kv_mid (p := 9) (L := [.ref (0 + 1), .int x1]) (S := [.int (if x1 < 0 then 0 else (if x1 < (h 0 10) then 1 else 0 : Int32) : Int32)]) ?_ (fun hK => ?_)
  · exact kg_iret hk_125 rfl (Or.inr (w_boi rfl (w_boi rfl rfl))) (by rw [hv])
  · by_cases cz1 : x1 < 0
    · have hK := kv_T cz1 hK
      refine kg_ifT hk_125 rfl (jc_T2 cz1) ?_
      refine kg_push (x := 0) hk_125 rfl (by decide) rfl ?_
      exact hK
    · have hK := kv_F cz1 hK
      refine kg_ifF hk_125 rfl (jc_F2 cz1) rfl ?_
      refine kg_iload hk_125 rfl rfl rfl ?_
      refine kg_aload hk_125 rfl rfl rfl ?_
      refine kg_get (v := .int (h 0 10)) hk_125 rfl wk_0_10 rfl rfl ?_
      by_cases cz2 : x1 < (h 0 10)
      · have hK := kv_T cz2 hK
        refine kg_icF hk_125 rfl (jc_F3 cz2) rfl ?_
        refine kg_push (x := 1) hk_125 rfl (by decide) rfl ?_
        refine kg_goto hk_125 rfl ?_
        exact hK
      · have hK := kv_F cz2 hK
        refine kg_icT hk_125 rfl (jc_T3 cz2) ?_
        refine kg_push (x := 0) hk_125 rfl (by decide) rfl ?_
        exact hK
-- NotebookWeir.gather(IZ)V
theorem hk_141 : jP[141]? = some (jc_141, 6, [], []) := by rfl
def q_141_48 (h : Hp) (x1 : Int32) (x2 : Int32) (x3 : Int32) (x4 : Int32) (s0 : Nat) (s1 : Int32) : Option ((Int32 × Hp) ⊕ Hp) :=
  (p_71 h 45 s1 s0 x4).bind fun vz13 =>
  some (.inl ((x4 + 1), vz13))
theorem q_141_48_ok {X : List Int32} {o : kO}  {h : Hp} {s0 : Nat} {s1 : Int32} {x1 : Int32} {x2 : Int32} {x3 : Int32} {x4 : Int32} (ts0 : w_ob s0 8) {r : (Int32 × Hp) ⊕ Hp} (hF : q_141_48 h x1 x2 x3 x4 s0 s1 = some r) (hK : ∀ s' : Int32 × Hp, r = .inl s' → ∀ (u5 : Value), k_Go X 3 141 (12, [.ref (0 + 1), .int x1, .int x2, .int x3, .int (s'.1), u5], []) s'.2 o) (hX0 : ∀ e : Hp, r = .inr e → (.inl none, e) = o) : ∀ (u5 : Value), k_Go X 3 141 (48, [.ref (0 + 1), .int x1, .int x2, .int x3, .int x4, u5], [.ref (s0 + 1), .int s1, .ref (45 + 1)]) h o := by
  intro u5
  unfold q_141_48 at hF
  refine kg_iload hk_141 rfl rfl rfl ?_
  refine wf_bind hF (fun vz13 hvz13 hF => ?_)
  refine kg_call (as := [.ref (45 + 1), .int s1, .ref (s0 + 1), .int x4]) (rest := []) hk_141 rfl (Or.inr (Or.inr (Or.inr ⟨Or.inl rfl, _, _, rfl, wc_45⟩))) rfl rfl rfl (Nat.not_lt.mpr (Nat.le_of_ble_eq_true rfl)) (p_71_ok wc_45 ts0 hvz13) (by decide) rfl ?_
  refine kg_goto hk_141 rfl ?_
  refine kg_iinc (y := (x4 + 1)) (L2 := [.ref (0 + 1), .int x1, .int x2, .int x3, .int (x4 + 1), u5]) hk_141 rfl rfl rfl rfl rfl ?_
  refine kg_goto hk_141 rfl ?_
  have hF := Option.some.inj hF
  exact hK _ hF.symm _
def q_141_27 (h : Hp) (x1 : Int32) (x2 : Int32) (x3 : Int32) (x4 : Int32) (s0 : Int32) : Option ((Int32 × Hp) ⊕ Hp) :=
  if (v_125 h s0) = 0 then
    (if s0 = (-1) then
      (some (.inl ((x4 + 1), h)))
    else
      (w_gd (g_93 h (s0 - 16)) <|
      (p_68 h 45 x4 (v_93 h (s0 - 16))).bind fun vz9 =>
      some (.inl ((x4 + 1), vz9))))
  else
    (if x2 = 0 then
      (w_gd (w_ix s0 16) <|
      q_141_48 h x1 x2 x3 x4 (64 * s0.toNatClampNeg + 59) x4)
    else
      (w_gd (w_ix s0 16) <|
      q_141_48 h x1 x2 x3 x4 (64 * s0.toNatClampNeg + 62) x4))
theorem q_141_27_ok {X : List Int32} {o : kO}  {h : Hp} {s0 : Int32} {x1 : Int32} {x2 : Int32} {x3 : Int32} {x4 : Int32}  {r : (Int32 × Hp) ⊕ Hp} (hF : q_141_27 h x1 x2 x3 x4 s0 = some r) (hK : ∀ s' : Int32 × Hp, r = .inl s' → ∀ (u5 : Value), k_Go X 3 141 (12, [.ref (0 + 1), .int x1, .int x2, .int x3, .int (s'.1), u5], []) s'.2 o) (hX0 : ∀ e : Hp, r = .inr e → (.inl none, e) = o) : ∀ (u5 : Value), k_Go X 3 141 (27, [.ref (0 + 1), .int x1, .int x2, .int x3, .int x4, u5], [.int s0]) h o := by
  intro u5
  unfold q_141_27 at hF
  refine kg_istore (L2 := [.ref (0 + 1), .int x1, .int x2, .int x3, .int x4, .int s0]) hk_141 rfl (Nat.le_of_ble_eq_true rfl) rfl rfl ?_
  refine kg_aload hk_141 rfl rfl rfl ?_
  refine kg_iload hk_141 rfl rfl rfl ?_
  refine kg_call (as := [.ref (0 + 1), .int s0]) (rest := []) hk_141 rfl (Or.inr (Or.inr (Or.inr ⟨Or.inl rfl, _, _, rfl, wc_0⟩))) rfl rfl rfl (Nat.not_lt.mpr (Nat.le_of_ble_eq_true rfl)) (v_125_ok) (by decide) rfl ?_
  refine wf_if hF (fun cz6 hF => ?_) (fun cz6 hF => ?_)
  · refine kg_ifT hk_141 rfl (jc_T0 cz6) ?_
    refine kg_iload hk_141 rfl rfl rfl ?_
    refine kg_push (x := (-1)) hk_141 rfl (by decide) rfl ?_
    refine wf_if hF (fun cz7 hF => ?_) (fun cz7 hF => ?_)
    · refine kg_icT hk_141 rfl (jc_T0 cz7) ?_
      refine kg_iinc (y := (x4 + 1)) (L2 := [.ref (0 + 1), .int x1, .int x2, .int x3, .int (x4 + 1), .int s0]) hk_141 rfl rfl rfl rfl rfl ?_
      refine kg_goto hk_141 rfl ?_
      have hF := Option.some.inj hF
      exact hK _ hF.symm _
    · refine kg_icF hk_141 rfl (jc_F0 cz7) rfl ?_
      refine kg_aload hk_141 rfl rfl rfl ?_
      refine kg_get (v := .ref (45 + 1)) hk_141 rfl wk_0_9 rfl rfl ?_
      refine kg_iload hk_141 rfl rfl rfl ?_
      refine kg_aload hk_141 rfl rfl rfl ?_
      refine kg_get (v := .ref (4 + 1)) hk_141 rfl wk_0_3 rfl rfl ?_
      refine kg_iload hk_141 rfl rfl rfl ?_
      refine kg_push (x := 16) hk_141 rfl (by decide) rfl ?_
      refine kg_bin (z := (s0 - 16)) hk_141 rfl rfl rfl ?_
      refine wf_gd hF (fun gz8 hF => ?_)
      refine kg_call (as := [.ref (4 + 1), .int (s0 - 16)]) (rest := [.int x4, .ref (45 + 1)]) hk_141 rfl (Or.inr (Or.inr (Or.inr ⟨Or.inl rfl, _, _, rfl, wc_4⟩))) rfl rfl rfl (Nat.not_lt.mpr (Nat.le_of_ble_eq_true rfl)) (v_93_ok gz8) (by decide) rfl ?_
      refine wf_bind hF (fun vz9 hvz9 hF => ?_)
      refine kg_call (as := [.ref (45 + 1), .int x4, .int (v_93 h (s0 - 16))]) (rest := []) hk_141 rfl (Or.inr (Or.inr (Or.inr ⟨Or.inl rfl, _, _, rfl, wc_45⟩))) rfl rfl rfl (Nat.not_lt.mpr (Nat.le_of_ble_eq_true rfl)) (p_68_ok wc_45 hvz9) (by decide) rfl ?_
      refine kg_iinc (y := (x4 + 1)) (L2 := [.ref (0 + 1), .int x1, .int x2, .int x3, .int (x4 + 1), .int s0]) hk_141 rfl rfl rfl rfl rfl ?_
      refine kg_goto hk_141 rfl ?_
      have hF := Option.some.inj hF
      exact hK _ hF.symm _
  · refine kg_ifF hk_141 rfl (jc_F0 cz6) rfl ?_
    refine kg_aload hk_141 rfl rfl rfl ?_
    refine kg_get (v := .ref (45 + 1)) hk_141 rfl wk_0_9 rfl rfl ?_
    refine kg_iload hk_141 rfl rfl rfl ?_
    refine kg_iload hk_141 rfl rfl rfl ?_
    refine wf_if hF (fun cz10 hF => ?_) (fun cz10 hF => ?_)
    · refine kg_ifT hk_141 rfl (jc_T0 cz10) ?_
      refine kg_aload hk_141 rfl rfl rfl ?_
      refine kg_get (v := .ref (2 + 1)) hk_141 rfl wk_0_1 rfl rfl ?_
      refine kg_iload hk_141 rfl rfl rfl ?_
      refine wf_gd hF (fun gz11 hF => ?_)
      have hez12 := w_E we_61 wc_2 gz11
      refine kg_aald (y := (64 * s0.toNatClampNeg + 52)) hk_141 rfl gz11 hez12.1 rfl ?_
      refine kg_get (v := .ref ((64 * s0.toNatClampNeg + 59) + 1)) hk_141 rfl (wf_0_2 hez12.2) rfl rfl ?_
      exact q_141_48_ok (wo_0_2 hez12.2) hF hK hX0 _
    · refine kg_ifF hk_141 rfl (jc_F0 cz10) rfl ?_
      refine kg_aload hk_141 rfl rfl rfl ?_
      refine kg_get (v := .ref (2 + 1)) hk_141 rfl wk_0_1 rfl rfl ?_
      refine kg_iload hk_141 rfl rfl rfl ?_
      refine wf_gd hF (fun gz14 hF => ?_)
      have hez15 := w_E we_61 wc_2 gz14
      refine kg_aald (y := (64 * s0.toNatClampNeg + 52)) hk_141 rfl gz14 hez15.1 rfl ?_
      refine kg_get (v := .ref ((64 * s0.toNatClampNeg + 62) + 1)) hk_141 rfl (wf_0_3 hez15.2) rfl rfl ?_
      refine kg_goto hk_141 rfl ?_
      exact q_141_48_ok (wo_0_3 hez15.2) hF hK hX0 _
def l_141_12 (x1 : Int32) (x2 : Int32) (x3 : Int32) (x4 : Int32) (h : Hp) : Option ((Int32 × Hp) ⊕ Hp) :=
  if x4 < 26 then
    (if (v_126 x3 x4) = 0 then
      (q_141_27 h x1 x2 x3 x4 (-1))
    else
      ((p_81 h x1 x4).bind fun vz16 =>
      (p_127 h vz16).bind fun vz17 =>
      q_141_27 h x1 x2 x3 x4 vz17))
  else
    (some (.inr h))
theorem l_141_12_st {X : List Int32} {o : kO}  {h : Hp} {x1 : Int32} {x2 : Int32} {x3 : Int32} {x4 : Int32}  {r : (Int32 × Hp) ⊕ Hp} (hF : l_141_12 x1 x2 x3 x4 h = some r) (hK : ∀ s' : Int32 × Hp, r = .inl s' → ∀ (u5 : Value), k_Go X 3 141 (12, [.ref (0 + 1), .int x1, .int x2, .int x3, .int (s'.1), u5], []) s'.2 o) (hX0 : ∀ e : Hp, r = .inr e → (.inl none, e) = o) : ∀ (u5 : Value), k_Go X 3 141 (12, [.ref (0 + 1), .int x1, .int x2, .int x3, .int x4, u5], []) h o := by
  intro u5
  refine kg_iload hk_141 rfl rfl rfl ?_
  refine kg_push (x := 26) hk_141 rfl (by decide) rfl ?_
  refine wf_if hF (fun cz4 hF => ?_) (fun cz4 hF => ?_)
  · refine kg_icF hk_141 rfl (jc_F3 cz4) rfl ?_
    refine kg_iload hk_141 rfl rfl rfl ?_
    refine kg_iload hk_141 rfl rfl rfl ?_
    refine kg_call (as := [.int x3, .int x4]) (rest := []) hk_141 rfl (Or.inl rfl) rfl rfl rfl (Nat.not_lt.mpr (Nat.le_of_ble_eq_true rfl)) (v_126_ok) (by decide) rfl ?_
    refine wf_if hF (fun cz5 hF => ?_) (fun cz5 hF => ?_)
    · refine kg_ifT hk_141 rfl (jc_T0 cz5) ?_
      refine kg_push (x := (-1)) hk_141 rfl (by decide) rfl ?_
      exact q_141_27_ok hF hK hX0 _
    · refine kg_ifF hk_141 rfl (jc_F0 cz5) rfl ?_
      refine kg_aload hk_141 rfl rfl rfl ?_
      refine kg_get (v := .ref (11 + 1)) hk_141 rfl wk_0_4 rfl rfl ?_
      refine kg_iload hk_141 rfl rfl rfl ?_
      refine kg_iload hk_141 rfl rfl rfl ?_
      refine wf_bind hF (fun vz16 hvz16 hF => ?_)
      refine kg_call (as := [.ref (11 + 1), .int x1, .int x4]) (rest := []) hk_141 rfl (Or.inr (Or.inr (Or.inr ⟨Or.inl rfl, _, _, rfl, wc_11⟩))) rfl rfl rfl (Nat.not_lt.mpr (Nat.le_of_ble_eq_true rfl)) (p_81_ok hvz16) (by decide) rfl ?_
      refine wf_bind hF (fun vz17 hvz17 hF => ?_)
      refine kg_call (as := [.int vz16]) (rest := []) hk_141 rfl (Or.inl rfl) rfl rfl rfl (Nat.not_lt.mpr (Nat.le_of_ble_eq_true rfl)) (p_127_ok hvz17) (by decide) rfl ?_
      refine kg_goto hk_141 rfl ?_
      exact q_141_27_ok hF hK hX0 _
  · refine kg_icT hk_141 rfl (jc_T3 cz4) ?_
    have hF := Option.some.inj hF
    exact kg_ret hk_141 rfl (hX0 _ hF.symm)
theorem l_141_12_ok {X : List Int32} {o : kO}  {x1 : Int32} {x2 : Int32} {x3 : Int32}  {n : Nat} {s : Int32 × Hp} {e : Hp} (hF : w_lp (fun (s : Int32 × Hp) => l_141_12 x1 x2 x3 s.1 s.2) n s = some e) (hX0 : (.inl none, e) = o) : ∀ (u5 : Value), k_Go X 3 141 (12, [.ref (0 + 1), .int x1, .int x2, .int x3, .int s.1, u5], []) s.2 o := by
  exact w_lp_ok (P := (fun (s : Int32 × Hp) => ∀ (u5 : Value), k_Go X 3 141 (12, [.ref (0 + 1), .int x1, .int x2, .int x3, .int s.1, u5], []) s.2 o)) (Q := (fun (e : Hp) => ((.inl none, e) = o))) (fun s r hF hK hX => l_141_12_st hF hK (fun x hx => (hX _ hx))) n s e hF hX0
def p_141 (h : Hp) (x1 : Int32) (x2 : Int32) : Option (Hp) :=
  w_gd (w_ix x1 16) <|
  (p_67 h 45).bind fun vz3 =>
  w_lp (fun (s : Int32 × Hp) => l_141_12 x1 x2 (h (64 * x1.toNatClampNeg + 55) 7) s.1 s.2) w_N (0, vz3)
theorem p_141_ok {X : List Int32}  {h : Hp} {x1 : Int32} {x2 : Int32}  {r : Hp} (hF : p_141 h x1 x2 = some r) : k_Ev X 3 141 [.ref (0 + 1), .int x1, .int x2] h (.inl none, r) := by
  refine k_of hk_141 ?_
  show k_Go X 3 141 (0, [.ref (0 + 1), .int x1, .int x2, (.retAddr 0), (.retAddr 0), (.retAddr 0)], []) h _
  unfold p_141 at hF
  refine kg_aload hk_141 rfl rfl rfl ?_
  refine kg_get (v := .ref (2 + 1)) hk_141 rfl wk_0_1 rfl rfl ?_
  refine kg_iload hk_141 rfl rfl rfl ?_
  refine wf_gd hF (fun gz1 hF => ?_)
  have hez2 := w_E we_61 wc_2 gz1
  refine kg_aald (y := (64 * x1.toNatClampNeg + 52)) hk_141 rfl gz1 hez2.1 rfl ?_
  refine kg_get (v := .ref ((64 * x1.toNatClampNeg + 55) + 1)) hk_141 rfl (wf_0_1 hez2.2) rfl rfl ?_
  refine kg_get (v := .int (h (64 * x1.toNatClampNeg + 55) 7)) hk_141 rfl (wf_1_7 (wo_0_1 hez2.2)) rfl rfl ?_
  refine kg_istore (L2 := [.ref (0 + 1), .int x1, .int x2, .int (h (64 * x1.toNatClampNeg + 55) 7), (.retAddr 0), (.retAddr 0)]) hk_141 rfl (Nat.le_of_ble_eq_true rfl) rfl rfl ?_
  refine kg_aload hk_141 rfl rfl rfl ?_
  refine kg_get (v := .ref (45 + 1)) hk_141 rfl wk_0_9 rfl rfl ?_
  refine wf_bind hF (fun vz3 hvz3 hF => ?_)
  refine kg_call (as := [.ref (45 + 1)]) (rest := []) hk_141 rfl (Or.inr (Or.inr (Or.inr ⟨Or.inl rfl, _, _, rfl, wc_45⟩))) rfl rfl rfl (Nat.not_lt.mpr (Nat.le_of_ble_eq_true rfl)) (p_67_ok wc_45 hvz3) (by decide) rfl ?_
  refine kg_push (x := 0) hk_141 rfl (by decide) rfl ?_
  refine kg_istore (L2 := [.ref (0 + 1), .int x1, .int x2, .int (h (64 * x1.toNatClampNeg + 55) 7), .int 0, (.retAddr 0)]) hk_141 rfl (Nat.le_of_ble_eq_true rfl) rfl rfl ?_
  exact l_141_12_ok hF rfl _
-- NotebookWeir.runOne(IZ)I
theorem hk_139 : jP[139]? = some (jc_139, 5, [], []) := by rfl
def q_139_86 (h : Hp) (x1 : Int32) (q3 : Nat) (n4 : Nat) : Option (Int32 × Hp) :=
  w_let (w_up h 0 14 ((h 0 14) + 1)) fun hz15 =>
  w_gd (w_ix x1 16) <|
  (p_4 hz15 q3 (hz15 0 14) (hz15 14 x1.toNatClampNeg)).bind fun vz17 =>
  w_let (w_up vz17 0 17 0) fun hz18 =>
  if n4 = 0 then
    (some (0, hz18))
  else
    (some (1, hz18))
theorem q_139_86_ok {X : List Int32}   {h : Hp} {n4 : Nat} {q3 : Nat} {x1 : Int32} (t3 : w_ob q3 0) {r : Int32 × Hp} (hF : q_139_86 h x1 q3 n4 = some r)  : ∀ (u2 : Value), k_Go X 4 139 (86, [.ref (0 + 1), .int x1, u2, .ref (q3 + 1), w_rf n4], []) h (.inl (some (.int r.1)), r.2) := by
  intro u2
  unfold q_139_86 at hF
  refine kg_aload hk_139 rfl rfl rfl ?_
  refine kg_dup hk_139 rfl rfl rfl ?_
  refine kg_get (v := .int (h 0 14)) hk_139 rfl wk_0_14 rfl rfl ?_
  refine kg_push (x := 1) hk_139 rfl (by decide) rfl ?_
  refine kg_bin (z := ((h 0 14) + 1)) hk_139 rfl rfl rfl ?_
  refine wf_let hF (fun hz15 hhz15 hF => ?_)
  refine kg_put hk_139 rfl wk_0_14 rfl rfl hhz15 rfl ?_
  refine kg_aload hk_139 rfl rfl rfl ?_
  refine kg_aload hk_139 rfl rfl rfl ?_
  refine kg_get (v := .int (hz15 0 14)) hk_139 rfl wk_0_14 rfl rfl ?_
  refine kg_aload hk_139 rfl rfl rfl ?_
  refine kg_get (v := .ref (11 + 1)) hk_139 rfl wk_0_4 rfl rfl ?_
  refine kg_get (v := .ref (14 + 1)) hk_139 rfl wk_11_2 rfl rfl ?_
  refine kg_iload hk_139 rfl rfl rfl ?_
  refine wf_gd hF (fun gz16 hF => ?_)
  refine kg_ald (y := (hz15 14 x1.toNatClampNeg)) hk_139 rfl wc_14 gz16 rfl rfl ?_
  refine kg_aload hk_139 rfl rfl rfl ?_
  refine kg_get (v := .ref (4 + 1)) hk_139 rfl wk_0_3 rfl rfl ?_
  refine wf_bind hF (fun vz17 hvz17 hF => ?_)
  refine kg_call (as := [.ref (q3 + 1), .int (hz15 0 14), .int (hz15 14 x1.toNatClampNeg), .ref (4 + 1)]) (rest := []) hk_139 rfl (Or.inr (Or.inr (Or.inr ⟨Or.inl rfl, _, _, rfl, t3⟩))) rfl rfl rfl (Nat.not_lt.mpr (Nat.le_of_ble_eq_true rfl)) (p_4_ok t3 hvz17) (by decide) rfl ?_
  refine kg_aload hk_139 rfl rfl rfl ?_
  refine kg_push (x := 0) hk_139 rfl (by decide) rfl ?_
  refine wf_let hF (fun hz18 hhz18 hF => ?_)
  refine kg_put hk_139 rfl wk_0_17 rfl (w_fitB rfl) hhz18 rfl ?_
  refine kg_aloadW hk_139 rfl rfl rfl ?_
  refine wf_if hF (fun cz19 hF => ?_) (fun cz19 hF => ?_)
  · refine kg_nullWT hk_139 rfl cz19 ?_
    refine kg_push (x := 0) hk_139 rfl (by decide) rfl ?_
    have hF := Option.some.inj hF
    subst hF
    exact kg_iret hk_139 rfl (Or.inl rfl) rfl
  · refine kg_nullWF hk_139 rfl cz19 rfl ?_
    refine kg_push (x := 1) hk_139 rfl (by decide) rfl ?_
    refine kg_goto hk_139 rfl ?_
    have hF := Option.some.inj hF
    subst hF
    exact kg_iret hk_139 rfl (Or.inl rfl) rfl
def q_139_38 (h : Hp) (x1 : Int32) (q3 : Nat) (n4 : Nat) (s0 : Int32) (s1 : Int32) : Option (Int32 × Hp) :=
  w_let (w_up h 0 13 (s1 + s0)) fun hz24 =>
  q_139_86 hz24 x1 q3 n4
theorem q_139_38_ok {X : List Int32}   {h : Hp} {n4 : Nat} {q3 : Nat} {s0 : Int32} {s1 : Int32} {x1 : Int32} (t3 : w_ob q3 0) {r : Int32 × Hp} (hF : q_139_38 h x1 q3 n4 s0 s1 = some r)  : ∀ (u2 : Value), k_Go X 4 139 (38, [.ref (0 + 1), .int x1, u2, .ref (q3 + 1), w_rf n4], [.int s0, .int s1, .ref (0 + 1)]) h (.inl (some (.int r.1)), r.2) := by
  intro u2
  unfold q_139_38 at hF
  refine kg_bin (z := (s1 + s0)) hk_139 rfl rfl rfl ?_
  refine wf_let hF (fun hz24 hhz24 hF => ?_)
  refine kg_put hk_139 rfl wk_0_13 rfl rfl hhz24 rfl ?_
  refine kg_goto hk_139 rfl ?_
  exact q_139_86_ok t3 hF _
def q_139_19 (h : Hp) (x1 : Int32) (x2 : Int32) (q3 : Nat) (s0 : Nat) : Option (Int32 × Hp) :=
  if s0 = 0 then
    ((p_53 h (q3 + 13) (q3 + 1) x2 1).bind fun vz7 =>
    (p_16 vz7 (q3 + 3) 45).bind fun vz8 =>
    w_let (w_up vz8.2 q3 11 vz8.1) fun hz9 =>
    w_let (w_up hz9 q3 12 (hz9 28 3)) fun hz10 =>
    w_let (w_up hz10 0 12 ((hz10 0 12) + 1)) fun hz11 =>
    (p_17 hz11 (q3 + 3) (q3 + 7)).bind fun vz12 =>
    if (vz12 q3 11) = 0 then
      ((p_3 vz12 q3 45).bind fun vz14 =>
      q_139_86 vz14 x1 q3 s0)
    else
      (q_139_86 vz12 x1 q3 s0))
  else
    (w_gd (w_tag (s0 - 1) == 3 && 3 != 999) <|
    (p_72 h (q3 + 7) ((s0 - 1) + 6)).bind fun vz21 =>
    w_let (w_up vz21 q3 11 0) fun hz22 =>
    q_139_38 hz22 x1 q3 s0 (if x2 = 0 then 1 else 0 : Int32) (hz22 0 13))
theorem q_139_19_ok {X : List Int32}   {h : Hp} {q3 : Nat} {s0 : Nat} {x1 : Int32} {x2 : Int32} (t3 : w_ob q3 0) {r : Int32 × Hp} (hF : q_139_19 h x1 x2 q3 s0 = some r)  : ∀ (u4 : Value), k_Go X 4 139 (19, [.ref (0 + 1), .int x1, .int x2, .ref (q3 + 1), u4], [w_rf s0]) h (.inl (some (.int r.1)), r.2) := by
  intro u4
  unfold q_139_19 at hF
  refine kg_astoreW (L2 := [.ref (0 + 1), .int x1, .int x2, .ref (q3 + 1), w_rf s0]) hk_139 rfl (Nat.le_of_ble_eq_true rfl) rfl rfl ?_
  refine kg_aloadW hk_139 rfl rfl rfl ?_
  refine wf_if hF (fun cz6 hF => ?_) (fun cz6 hF => ?_)
  · refine kg_nullWT hk_139 rfl cz6 ?_
    refine kg_aload hk_139 rfl rfl rfl ?_
    refine kg_get (v := .ref (40 + 1)) hk_139 rfl wk_0_8 rfl rfl ?_
    refine kg_aload hk_139 rfl rfl rfl ?_
    refine kg_get (v := .ref ((q3 + 13) + 1)) hk_139 rfl (wf_0_4 t3) rfl rfl ?_
    refine kg_aload hk_139 rfl rfl rfl ?_
    refine kg_get (v := .ref ((q3 + 1) + 1)) hk_139 rfl (wf_0_0 t3) rfl rfl ?_
    refine kg_iload hk_139 rfl rfl rfl ?_
    refine kg_push (x := 1) hk_139 rfl (by decide) rfl ?_
    refine wf_bind hF (fun vz7 hvz7 hF => ?_)
    refine kg_call (as := [.ref (40 + 1), .ref ((q3 + 13) + 1), .ref ((q3 + 1) + 1), .int x2, .int 1]) (rest := []) hk_139 rfl (Or.inr (Or.inr (Or.inr ⟨Or.inl rfl, _, _, rfl, wc_40⟩))) rfl rfl rfl (Nat.not_lt.mpr (Nat.le_of_ble_eq_true rfl)) (p_53_ok (wo_0_4 t3) (wo_0_0 t3) hvz7) (by decide) rfl ?_
    refine kg_aload hk_139 rfl rfl rfl ?_
    refine kg_aload hk_139 rfl rfl rfl ?_
    refine kg_get (v := .ref (28 + 1)) hk_139 rfl wk_0_7 rfl rfl ?_
    refine kg_aload hk_139 rfl rfl rfl ?_
    refine kg_get (v := .ref ((q3 + 3) + 1)) hk_139 rfl (wf_0_1 t3) rfl rfl ?_
    refine kg_aload hk_139 rfl rfl rfl ?_
    refine kg_get (v := .ref (45 + 1)) hk_139 rfl wk_0_9 rfl rfl ?_
    refine kg_aload hk_139 rfl rfl rfl ?_
    refine kg_get (v := .ref (40 + 1)) hk_139 rfl wk_0_8 rfl rfl ?_
    refine wf_bind hF (fun vz8 hvz8 hF => ?_)
    refine kg_call (as := [.ref (28 + 1), .ref ((q3 + 3) + 1), .ref (45 + 1), .ref (40 + 1)]) (rest := [.ref (q3 + 1)]) hk_139 rfl (Or.inr (Or.inr (Or.inr ⟨Or.inl rfl, _, _, rfl, wc_28⟩))) rfl rfl rfl (Nat.not_lt.mpr (Nat.le_of_ble_eq_true rfl)) (p_16_ok (wo_0_1 t3) wc_45 hvz8) (by decide) rfl ?_
    refine wf_let hF (fun hz9 hhz9 hF => ?_)
    refine kg_put hk_139 rfl (wf_0_11 t3) rfl rfl hhz9 rfl ?_
    refine kg_aload hk_139 rfl rfl rfl ?_
    refine kg_aload hk_139 rfl rfl rfl ?_
    refine kg_get (v := .ref (28 + 1)) hk_139 rfl wk_0_7 rfl rfl ?_
    refine kg_get (v := .int (hz9 28 3)) hk_139 rfl wk_28_3 rfl rfl ?_
    refine wf_let hF (fun hz10 hhz10 hF => ?_)
    refine kg_put hk_139 rfl (wf_0_12 t3) rfl rfl hhz10 rfl ?_
    refine kg_aload hk_139 rfl rfl rfl ?_
    refine kg_dup hk_139 rfl rfl rfl ?_
    refine kg_get (v := .int (hz10 0 12)) hk_139 rfl wk_0_12 rfl rfl ?_
    refine kg_push (x := 1) hk_139 rfl (by decide) rfl ?_
    refine kg_bin (z := ((hz10 0 12) + 1)) hk_139 rfl rfl rfl ?_
    refine wf_let hF (fun hz11 hhz11 hF => ?_)
    refine kg_put hk_139 rfl wk_0_12 rfl rfl hhz11 rfl ?_
    refine kg_aload hk_139 rfl rfl rfl ?_
    refine kg_get (v := .ref (28 + 1)) hk_139 rfl wk_0_7 rfl rfl ?_
    refine kg_aload hk_139 rfl rfl rfl ?_
    refine kg_get (v := .ref ((q3 + 3) + 1)) hk_139 rfl (wf_0_1 t3) rfl rfl ?_
    refine kg_aload hk_139 rfl rfl rfl ?_
    refine kg_get (v := .ref ((q3 + 7) + 1)) hk_139 rfl (wf_0_2 t3) rfl rfl ?_
    refine wf_bind hF (fun vz12 hvz12 hF => ?_)
    refine kg_call (as := [.ref (28 + 1), .ref ((q3 + 3) + 1), .ref ((q3 + 7) + 1)]) (rest := []) hk_139 rfl (Or.inr (Or.inr (Or.inr ⟨Or.inl rfl, _, _, rfl, wc_28⟩))) rfl rfl rfl (Nat.not_lt.mpr (Nat.le_of_ble_eq_true rfl)) (p_17_ok (wo_0_1 t3) (wo_0_2 t3) hvz12) (by decide) rfl ?_
    refine kg_aload hk_139 rfl rfl rfl ?_
    refine kg_get (v := .int (vz12 q3 11)) hk_139 rfl (wf_0_11 t3) rfl rfl ?_
    refine wf_if hF (fun cz13 hF => ?_) (fun cz13 hF => ?_)
    · refine kg_ifF hk_139 rfl (jc_F1 cz13) rfl ?_
      refine kg_aload hk_139 rfl rfl rfl ?_
      refine kg_aload hk_139 rfl rfl rfl ?_
      refine kg_get (v := .ref (45 + 1)) hk_139 rfl wk_0_9 rfl rfl ?_
      refine wf_bind hF (fun vz14 hvz14 hF => ?_)
      refine kg_call (as := [.ref (q3 + 1), .ref (45 + 1)]) (rest := []) hk_139 rfl (Or.inr (Or.inr (Or.inr ⟨Or.inl rfl, _, _, rfl, t3⟩))) rfl rfl rfl (Nat.not_lt.mpr (Nat.le_of_ble_eq_true rfl)) (p_3_ok t3 wc_45 hvz14) (by decide) rfl ?_
      exact q_139_86_ok t3 hF _
    · refine kg_ifT hk_139 rfl (jc_T1 cz13) ?_
      exact q_139_86_ok t3 hF _
  · refine kg_nullWF hk_139 rfl cz6 rfl ?_
    refine kg_aload hk_139 rfl rfl rfl ?_
    refine kg_get (v := .ref ((q3 + 7) + 1)) hk_139 rfl (wf_0_2 t3) rfl rfl ?_
    refine kg_aloadW hk_139 rfl rfl rfl ?_
    refine wf_gd hF (fun gz20 hF => ?_)
    refine kg_cvW cz6 ?_
    refine kg_get (v := .ref (((s0 - 1) + 6) + 1)) hk_139 rfl (wf_3_2 (w_tagE gz20)) rfl rfl ?_
    refine wf_bind hF (fun vz21 hvz21 hF => ?_)
    refine kg_call (as := [.ref ((q3 + 7) + 1), .ref (((s0 - 1) + 6) + 1)]) (rest := []) hk_139 rfl (Or.inr (Or.inr (Or.inr ⟨Or.inl rfl, _, _, rfl, (wo_0_2 t3)⟩))) rfl rfl rfl (Nat.not_lt.mpr (Nat.le_of_ble_eq_true rfl)) (p_72_ok (wo_0_2 t3) (wo_3_2 (w_tagE gz20)) hvz21) (by decide) rfl ?_
    refine kg_aload hk_139 rfl rfl rfl ?_
    refine kg_push (x := 0) hk_139 rfl (by decide) rfl ?_
    refine wf_let hF (fun hz22 hhz22 hF => ?_)
    refine kg_put hk_139 rfl (wf_0_11 t3) rfl rfl hhz22 rfl ?_
    refine kg_aload hk_139 rfl rfl rfl ?_
    refine kg_dup hk_139 rfl rfl rfl ?_
    refine kg_get (v := .int (hz22 0 13)) hk_139 rfl wk_0_13 rfl rfl ?_
    refine kg_iload hk_139 rfl rfl rfl ?_
    refine kv_mid (p := 38) (L := [.ref (0 + 1), .int x1, .int x2, .ref (q3 + 1), w_rf s0]) (S := [.int (if x2 = 0 then 1 else 0 : Int32), .int (hz22 0 13), .ref (0 + 1)]) ?_ (fun hK => ?_)
    · exact q_139_38_ok t3 hF _
    · by_cases cz23 : x2 = 0
      · have hK := kv_T cz23 hK
        refine kg_ifT hk_139 rfl (jc_T0 cz23) ?_
        refine kg_push (x := 1) hk_139 rfl (by decide) rfl ?_
        exact hK
      · have hK := kv_F cz23 hK
        refine kg_ifF hk_139 rfl (jc_F0 cz23) rfl ?_
        refine kg_push (x := 0) hk_139 rfl (by decide) rfl ?_
        refine kg_goto hk_139 rfl ?_
        exact hK
def p_139 (h : Hp) (x1 : Int32) (x2 : Int32) : Option (Int32 × Hp) :=
  w_gd (w_ix x1 16) <|
  (p_141 h x1 0).bind fun vz3 =>
  if x2 = 0 then
    ((p_2 vz3 (64 * x1.toNatClampNeg + 52) 45).bind fun vz5 =>
    q_139_19 vz3 x1 x2 (64 * x1.toNatClampNeg + 52) vz5)
  else
    ((p_140 vz3 x1).bind fun vz25 =>
    q_139_19 vz3 x1 x2 (64 * x1.toNatClampNeg + 52) vz25)
theorem p_139_ok {X : List Int32}  {h : Hp} {x1 : Int32} {x2 : Int32}  {r : Int32 × Hp} (hF : p_139 h x1 x2 = some r) : k_Ev X 4 139 [.ref (0 + 1), .int x1, .int x2] h (.inl (some (.int r.1)), r.2) := by
  refine k_of hk_139 ?_
  show k_Go X 4 139 (0, [.ref (0 + 1), .int x1, .int x2, (.retAddr 0), (.retAddr 0)], []) h _
  unfold p_139 at hF
  refine kg_aload hk_139 rfl rfl rfl ?_
  refine kg_get (v := .ref (2 + 1)) hk_139 rfl wk_0_1 rfl rfl ?_
  refine kg_iload hk_139 rfl rfl rfl ?_
  refine wf_gd hF (fun gz1 hF => ?_)
  have hez2 := w_E we_61 wc_2 gz1
  refine kg_aald (y := (64 * x1.toNatClampNeg + 52)) hk_139 rfl gz1 hez2.1 rfl ?_
  refine kg_astore (L2 := [.ref (0 + 1), .int x1, .int x2, .ref ((64 * x1.toNatClampNeg + 52) + 1), (.retAddr 0)]) hk_139 rfl (Nat.le_of_ble_eq_true rfl) rfl rfl ?_
  refine kg_aload hk_139 rfl rfl rfl ?_
  refine kg_iload hk_139 rfl rfl rfl ?_
  refine kg_push (x := 0) hk_139 rfl (by decide) rfl ?_
  refine wf_bind hF (fun vz3 hvz3 hF => ?_)
  refine kg_call (as := [.ref (0 + 1), .int x1, .int 0]) (rest := []) hk_139 rfl (Or.inr (Or.inr (Or.inr ⟨Or.inl rfl, _, _, rfl, wc_0⟩))) rfl rfl rfl (Nat.not_lt.mpr (Nat.le_of_ble_eq_true rfl)) (p_141_ok hvz3) (by decide) rfl ?_
  refine kg_iload hk_139 rfl rfl rfl ?_
  refine wf_if hF (fun cz4 hF => ?_) (fun cz4 hF => ?_)
  · refine kg_ifT hk_139 rfl (jc_T0 cz4) ?_
    refine kg_aload hk_139 rfl rfl rfl ?_
    refine kg_aload hk_139 rfl rfl rfl ?_
    refine kg_get (v := .ref (45 + 1)) hk_139 rfl wk_0_9 rfl rfl ?_
    refine wf_bind hF (fun vz5 hvz5 hF => ?_)
    refine kg_call (as := [.ref ((64 * x1.toNatClampNeg + 52) + 1), .ref (45 + 1)]) (rest := []) hk_139 rfl (Or.inr (Or.inr (Or.inr ⟨Or.inl rfl, _, _, rfl, hez2.2⟩))) rfl rfl rfl (Nat.not_lt.mpr (Nat.le_of_ble_eq_true rfl)) (p_2_ok hez2.2 wc_45 hvz5) (by decide) rfl ?_
    exact q_139_19_ok hez2.2 hF _
  · refine kg_ifF hk_139 rfl (jc_F0 cz4) rfl ?_
    refine kg_aload hk_139 rfl rfl rfl ?_
    refine kg_iload hk_139 rfl rfl rfl ?_
    refine wf_bind hF (fun vz25 hvz25 hF => ?_)
    refine kg_call (as := [.ref (0 + 1), .int x1]) (rest := []) hk_139 rfl (Or.inr (Or.inr (Or.inr ⟨Or.inl rfl, _, _, rfl, wc_0⟩))) rfl rfl rfl (Nat.not_lt.mpr (Nat.le_of_ble_eq_true rfl)) (p_140_ok hvz25) (by decide) rfl ?_
    refine kg_goto hk_139 rfl ?_
    exact q_139_19_ok hez2.2 hF _
-- NotebookWeir.runStale(I)V
theorem hk_137 : jP[137]? = some (jc_137, 4, [], []) := by rfl
def l_137_2 (x1 : Int32) (x2 : Int32) (h : Hp) : Option ((Int32 × Hp) ⊕ Hp) :=
  if x2 < 16 then
    ((p_132 h).bind fun vz2 =>
    (p_135 vz2 x1).bind fun vz3 =>
    if vz3 = (-1) then
      (some (.inr vz2))
    else
      ((p_139 vz2 vz3 0).bind fun vz5 =>
      some (.inl ((x2 + 1), vz5.2))))
  else
    (some (.inr h))
theorem l_137_2_st {X : List Int32} {o : kO}  {h : Hp} {x1 : Int32} {x2 : Int32}  {r : (Int32 × Hp) ⊕ Hp} (hF : l_137_2 x1 x2 h = some r) (hK : ∀ s' : Int32 × Hp, r = .inl s' → ∀ (u3 : Value), k_Go X 5 137 (2, [.ref (0 + 1), .int x1, .int (s'.1), u3], []) s'.2 o) (hX0 : ∀ e : Hp, r = .inr e → (.inl none, e) = o) : ∀ (u3 : Value), k_Go X 5 137 (2, [.ref (0 + 1), .int x1, .int x2, u3], []) h o := by
  intro u3
  refine kg_iload hk_137 rfl rfl rfl ?_
  refine kg_push (x := 16) hk_137 rfl (by decide) rfl ?_
  refine wf_if hF (fun cz1 hF => ?_) (fun cz1 hF => ?_)
  · refine kg_icF hk_137 rfl (jc_F3 cz1) rfl ?_
    refine kg_aload hk_137 rfl rfl rfl ?_
    refine wf_bind hF (fun vz2 hvz2 hF => ?_)
    refine kg_call (as := [.ref (0 + 1)]) (rest := []) hk_137 rfl (Or.inr (Or.inr (Or.inr ⟨Or.inl rfl, _, _, rfl, wc_0⟩))) rfl rfl rfl (Nat.not_lt.mpr (Nat.le_of_ble_eq_true rfl)) (p_132_ok hvz2) (by decide) rfl ?_
    refine kg_aload hk_137 rfl rfl rfl ?_
    refine kg_iload hk_137 rfl rfl rfl ?_
    refine wf_bind hF (fun vz3 hvz3 hF => ?_)
    refine kg_call (as := [.ref (0 + 1), .int x1]) (rest := []) hk_137 rfl (Or.inr (Or.inr (Or.inr ⟨Or.inl rfl, _, _, rfl, wc_0⟩))) rfl rfl rfl (Nat.not_lt.mpr (Nat.le_of_ble_eq_true rfl)) (p_135_ok hvz3) (by decide) rfl ?_
    refine kg_istore (L2 := [.ref (0 + 1), .int x1, .int x2, .int vz3]) hk_137 rfl (Nat.le_of_ble_eq_true rfl) rfl rfl ?_
    refine kg_iload hk_137 rfl rfl rfl ?_
    refine kg_push (x := (-1)) hk_137 rfl (by decide) rfl ?_
    refine wf_if hF (fun cz4 hF => ?_) (fun cz4 hF => ?_)
    · refine kg_icF hk_137 rfl (jc_F1 cz4) rfl ?_
      have hF := Option.some.inj hF
      exact kg_ret hk_137 rfl (hX0 _ hF.symm)
    · refine kg_icT hk_137 rfl (jc_T1 cz4) ?_
      refine kg_aload hk_137 rfl rfl rfl ?_
      refine kg_iload hk_137 rfl rfl rfl ?_
      refine kg_push (x := 0) hk_137 rfl (by decide) rfl ?_
      refine wf_bind hF (fun vz5 hvz5 hF => ?_)
      refine kg_call (as := [.ref (0 + 1), .int vz3, .int 0]) (rest := []) hk_137 rfl (Or.inr (Or.inr (Or.inr ⟨Or.inl rfl, _, _, rfl, wc_0⟩))) rfl rfl rfl (Nat.not_lt.mpr (Nat.le_of_ble_eq_true rfl)) (p_139_ok hvz5) (by decide) rfl ?_
      refine kg_pop hk_137 rfl rfl rfl ?_
      refine kg_iinc (y := (x2 + 1)) (L2 := [.ref (0 + 1), .int x1, .int (x2 + 1), .int vz3]) hk_137 rfl rfl rfl rfl rfl ?_
      refine kg_goto hk_137 rfl ?_
      have hF := Option.some.inj hF
      exact hK _ hF.symm _
  · refine kg_icT hk_137 rfl (jc_T3 cz1) ?_
    have hF := Option.some.inj hF
    exact kg_ret hk_137 rfl (hX0 _ hF.symm)
theorem l_137_2_ok {X : List Int32} {o : kO}  {x1 : Int32}  {n : Nat} {s : Int32 × Hp} {e : Hp} (hF : w_lp (fun (s : Int32 × Hp) => l_137_2 x1 s.1 s.2) n s = some e) (hX0 : (.inl none, e) = o) : ∀ (u3 : Value), k_Go X 5 137 (2, [.ref (0 + 1), .int x1, .int s.1, u3], []) s.2 o := by
  exact w_lp_ok (P := (fun (s : Int32 × Hp) => ∀ (u3 : Value), k_Go X 5 137 (2, [.ref (0 + 1), .int x1, .int s.1, u3], []) s.2 o)) (Q := (fun (e : Hp) => ((.inl none, e) = o))) (fun s r hF hK hX => l_137_2_st hF hK (fun x hx => (hX _ hx))) n s e hF hX0
def p_137 (h : Hp) (x1 : Int32) : Option (Hp) :=
  w_lp (fun (s : Int32 × Hp) => l_137_2 x1 s.1 s.2) w_N (0, h)
theorem p_137_ok {X : List Int32}  {h : Hp} {x1 : Int32}  {r : Hp} (hF : p_137 h x1 = some r) : k_Ev X 5 137 [.ref (0 + 1), .int x1] h (.inl none, r) := by
  refine k_of hk_137 ?_
  show k_Go X 5 137 (0, [.ref (0 + 1), .int x1, (.retAddr 0), (.retAddr 0)], []) h _
  unfold p_137 at hF
  refine kg_push (x := 0) hk_137 rfl (by decide) rfl ?_
  refine kg_istore (L2 := [.ref (0 + 1), .int x1, .int 0, (.retAddr 0)]) hk_137 rfl (Nat.le_of_ble_eq_true rfl) rfl rfl ?_
  exact l_137_2_ok hF rfl _
-- NotebookWeir.runIfAtOnce()V
theorem hk_130 : jP[130]? = some (jc_130, 1, [], []) := by rfl
def p_130 (h : Hp) : Option (Hp) :=
  if (h 0 11) = 2 then
    ((p_137 h 65535).bind fun vz2 =>
    some vz2)
  else
    (some h)
theorem p_130_ok {X : List Int32}  {h : Hp}   {r : Hp} (hF : p_130 h = some r) : k_Ev X 6 130 [.ref (0 + 1)] h (.inl none, r) := by
  refine k_of hk_130 ?_
  show k_Go X 6 130 (0, [.ref (0 + 1)], []) h _
  unfold p_130 at hF
  refine kg_aload hk_130 rfl rfl rfl ?_
  refine kg_get (v := .int (h 0 11)) hk_130 rfl wk_0_11 rfl rfl ?_
  refine kg_push (x := 2) hk_130 rfl (by decide) rfl ?_
  refine wf_if hF (fun cz1 hF => ?_) (fun cz1 hF => ?_)
  · refine kg_icF hk_130 rfl (jc_F1 cz1) rfl ?_
    refine kg_aload hk_130 rfl rfl rfl ?_
    refine kg_push (x := 65535) hk_130 rfl (by decide) rfl ?_
    refine wf_bind hF (fun vz2 hvz2 hF => ?_)
    refine kg_call (as := [.ref (0 + 1), .int 65535]) (rest := []) hk_130 rfl (Or.inr (Or.inr (Or.inr ⟨Or.inl rfl, _, _, rfl, wc_0⟩))) rfl rfl rfl (Nat.not_lt.mpr (Nat.le_of_ble_eq_true rfl)) (p_137_ok hvz2) (by decide) rfl ?_
    have hF := Option.some.inj hF
    subst hF
    exact kg_ret hk_130 rfl rfl
  · refine kg_icT hk_130 rfl (jc_T1 cz1) ?_
    have hF := Option.some.inj hF
    subst hF
    exact kg_ret hk_130 rfl rfl
