/-! ===== the methods as functions over the flat heap, and that the interpreter does what they say (printed by wip/whole/dec.py) ===== -/
-- NotebookWeir$Widgets.add(III)I
theorem hk_89 : jP[89]? = some (jc_89, 5, [], []) := by rfl
def l_89_8 (h : Hp) (x1 : Int32) (x4 : Int32) : Option ((Int32) ⊕ (Unit ⊕ Int32 × Hp)) :=
  if x4 < (h 4 7) then
    (w_gd (w_ix x4 4) <|
    if (h 5 x4.toNatClampNeg) = x1 then
      (some (.inr (.inr ((-1), h))))
    else
      (some (.inl (x4 + 1))))
  else
    (some (.inr (.inl ())))
theorem l_89_8_st {X : List Int32} {o : kO}  {h : Hp} {x1 : Int32} {x2 : Int32} {x3 : Int32} {x4 : Int32}  {r : (Int32) ⊕ (Unit ⊕ Int32 × Hp)} (hF : l_89_8 h x1 x4 = some r) (hK : ∀ s' : Int32, r = .inl s' → k_Go X 0 89 (8, [.ref (4 + 1), .int x1, .int x2, .int x3, .int (s')], []) h o) (hX0 : ∀ x : Unit, r = .inr (.inl x) → ∀ (u4 : Value), k_Go X 0 89 (22, [.ref (4 + 1), .int x1, .int x2, .int x3, u4], []) h o) (hX1 : ∀ x : Int32 × Hp, r = .inr (.inr x) → (.inl (some (.int x.1)), x.2) = o) : k_Go X 0 89 (8, [.ref (4 + 1), .int x1, .int x2, .int x3, .int x4], []) h o := by
  refine kg_iload hk_89 rfl rfl rfl ?_
  refine kg_aload hk_89 rfl rfl rfl ?_
  refine kg_get (v := .int (h 4 7)) hk_89 rfl wk_4_7 rfl rfl ?_
  refine wf_if hF (fun c2 hF => ?_) (fun c2 hF => ?_)
  · refine kg_icF hk_89 rfl (jc_F3 c2) rfl ?_
    refine kg_aload hk_89 rfl rfl rfl ?_
    refine kg_get (v := .ref (5 + 1)) hk_89 rfl wk_4_0 rfl rfl ?_
    refine kg_iload hk_89 rfl rfl rfl ?_
    refine wf_gd hF (fun g3 hF => ?_)
    refine kg_ald (y := (h 5 x4.toNatClampNeg)) hk_89 rfl wc_5 g3 rfl rfl ?_
    refine kg_iload hk_89 rfl rfl rfl ?_
    refine wf_if hF (fun c4 hF => ?_) (fun c4 hF => ?_)
    · refine kg_icF hk_89 rfl (jc_F1 c4) rfl ?_
      refine kg_push (x := (-1)) hk_89 rfl (by decide) rfl ?_
      have hF := Option.some.inj hF
      exact kg_iret hk_89 rfl (Or.inl rfl) (hX1 _ hF.symm)
    · refine kg_icT hk_89 rfl (jc_T1 c4) ?_
      refine kg_iinc (y := (x4 + 1)) (L2 := [.ref (4 + 1), .int x1, .int x2, .int x3, .int (x4 + 1)]) hk_89 rfl rfl rfl rfl rfl ?_
      refine kg_goto hk_89 rfl ?_
      have hF := Option.some.inj hF
      exact hK _ hF.symm
  · refine kg_icT hk_89 rfl (jc_T3 c2) ?_
    have hF := Option.some.inj hF
    exact hX0 _ hF.symm _
theorem l_89_8_ok {X : List Int32} {o : kO}  {h : Hp} {x1 : Int32} {x2 : Int32} {x3 : Int32}  {n : Nat} {s : Int32} {e : (Unit ⊕ Int32 × Hp)} (hF : w_lp (fun (s : Int32) => l_89_8 h x1 s) n s = some e) (hX0 : ∀ x : Unit, e = (.inl x) → ∀ (u4 : Value), k_Go X 0 89 (22, [.ref (4 + 1), .int x1, .int x2, .int x3, u4], []) h o) (hX1 : ∀ x : Int32 × Hp, e = (.inr x) → (.inl (some (.int x.1)), x.2) = o) : k_Go X 0 89 (8, [.ref (4 + 1), .int x1, .int x2, .int x3, .int s], []) h o := by
  exact w_lp_ok (P := (fun (s : Int32) => k_Go X 0 89 (8, [.ref (4 + 1), .int x1, .int x2, .int x3, .int s], []) h o)) (Q := (fun (e : (Unit ⊕ Int32 × Hp)) => (∀ x : Unit, e = (.inl x) → ∀ (u4 : Value), k_Go X 0 89 (22, [.ref (4 + 1), .int x1, .int x2, .int x3, u4], []) h o) ∧ (∀ x : Int32 × Hp, e = (.inr x) → (.inl (some (.int x.1)), x.2) = o))) (fun s r hF hK hX => l_89_8_st hF hK (fun x hx => (hX _ hx).1 x rfl) (fun x hx => (hX _ hx).2 x rfl)) n s e hF ⟨hX0, hX1⟩
def p_89 (h : Hp) (x1 : Int32) (x2 : Int32) (x3 : Int32) : Option (Int32 × Hp) :=
  if (h 4 7) < 4 then
    ((w_lp (fun (s : Int32) => l_89_8 h x1 s) w_N 0).bind <| (Sum.elim (fun y6 =>
      (w_gd (w_ix (h 4 7) 4) <|
      w_let (w_up h 5 ((h 4 7).toNatClampNeg) x1) fun h9 =>
      w_gd (w_ix (h9 4 7) 4) <|
      w_let (w_up h9 6 ((h9 4 7).toNatClampNeg) x2) fun h11 =>
      w_gd (w_ix (h11 4 7) 4) <|
      w_let (w_up h11 7 ((h11 4 7).toNatClampNeg) x3) fun h13 =>
      w_gd (w_ix (h13 4 7) 4) <|
      w_let (w_up h13 8 ((h13 4 7).toNatClampNeg) x2) fun h15 =>
      w_let (w_up h15 4 7 ((h15 4 7) + 1)) fun h16 =>
      some (((h16 4 7) - 1), h16))) (fun y7 =>
      (some y7))))
  else
    (some ((-1), h))
theorem p_89_ok {X : List Int32}  {h : Hp} {x1 : Int32} {x2 : Int32} {x3 : Int32}  {r : Int32 × Hp} (hF : p_89 h x1 x2 x3 = some r) : k_Ev X 0 89 [.ref (4 + 1), .int x1, .int x2, .int x3] h (.inl (some (.int r.1)), r.2) := by
  refine k_of hk_89 ?_
  show k_Go X 0 89 (0, [.ref (4 + 1), .int x1, .int x2, .int x3, (.retAddr 0)], []) h _
  unfold p_89 at hF
  refine kg_aload hk_89 rfl rfl rfl ?_
  refine kg_get (v := .int (h 4 7)) hk_89 rfl wk_4_7 rfl rfl ?_
  refine kg_push (x := 4) hk_89 rfl (by decide) rfl ?_
  refine wf_if hF (fun c1 hF => ?_) (fun c1 hF => ?_)
  · refine kg_icT hk_89 rfl (jc_T2 c1) ?_
    refine kg_push (x := 0) hk_89 rfl (by decide) rfl ?_
    refine kg_istore (L2 := [.ref (4 + 1), .int x1, .int x2, .int x3, .int 0]) hk_89 rfl (Nat.le_of_ble_eq_true rfl) rfl rfl ?_
    refine wf_bind hF (fun e5 he5 hF => ?_)
    refine l_89_8_ok he5 ?_ ?_
    · intro y6 hx
      subst hx
      refine wf_inl hF (fun hF => ?_)
      intro u4
      refine kg_aload hk_89 rfl rfl rfl ?_
      refine kg_get (v := .ref (5 + 1)) hk_89 rfl wk_4_0 rfl rfl ?_
      refine kg_aload hk_89 rfl rfl rfl ?_
      refine kg_get (v := .int (h 4 7)) hk_89 rfl wk_4_7 rfl rfl ?_
      refine kg_iload hk_89 rfl rfl rfl ?_
      refine wf_gd hF (fun g8 hF => ?_)
      refine wf_let hF (fun h9 hh9 hF => ?_)
      refine kg_ast hk_89 rfl wc_5 g8 (by rw [j_nar50]; exact hh9) rfl ?_
      refine kg_aload hk_89 rfl rfl rfl ?_
      refine kg_get (v := .ref (6 + 1)) hk_89 rfl wk_4_1 rfl rfl ?_
      refine kg_aload hk_89 rfl rfl rfl ?_
      refine kg_get (v := .int (h9 4 7)) hk_89 rfl wk_4_7 rfl rfl ?_
      refine kg_iload hk_89 rfl rfl rfl ?_
      refine wf_gd hF (fun g10 hF => ?_)
      refine wf_let hF (fun h11 hh11 hF => ?_)
      refine kg_ast hk_89 rfl wc_6 g10 (by rw [j_nar50]; exact hh11) rfl ?_
      refine kg_aload hk_89 rfl rfl rfl ?_
      refine kg_get (v := .ref (7 + 1)) hk_89 rfl wk_4_2 rfl rfl ?_
      refine kg_aload hk_89 rfl rfl rfl ?_
      refine kg_get (v := .int (h11 4 7)) hk_89 rfl wk_4_7 rfl rfl ?_
      refine kg_iload hk_89 rfl rfl rfl ?_
      refine wf_gd hF (fun g12 hF => ?_)
      refine wf_let hF (fun h13 hh13 hF => ?_)
      refine kg_ast hk_89 rfl wc_7 g12 (by rw [j_nar50]; exact hh13) rfl ?_
      refine kg_aload hk_89 rfl rfl rfl ?_
      refine kg_get (v := .ref (8 + 1)) hk_89 rfl wk_4_3 rfl rfl ?_
      refine kg_aload hk_89 rfl rfl rfl ?_
      refine kg_get (v := .int (h13 4 7)) hk_89 rfl wk_4_7 rfl rfl ?_
      refine kg_iload hk_89 rfl rfl rfl ?_
      refine wf_gd hF (fun g14 hF => ?_)
      refine wf_let hF (fun h15 hh15 hF => ?_)
      refine kg_ast hk_89 rfl wc_8 g14 (by rw [j_nar50]; exact hh15) rfl ?_
      refine kg_aload hk_89 rfl rfl rfl ?_
      refine kg_dup hk_89 rfl rfl rfl ?_
      refine kg_get (v := .int (h15 4 7)) hk_89 rfl wk_4_7 rfl rfl ?_
      refine kg_push (x := 1) hk_89 rfl (by decide) rfl ?_
      refine kg_bin (z := ((h15 4 7) + 1)) hk_89 rfl rfl rfl ?_
      refine wf_let hF (fun h16 hh16 hF => ?_)
      refine kg_put hk_89 rfl wk_4_7 rfl rfl hh16 rfl ?_
      refine kg_aload hk_89 rfl rfl rfl ?_
      refine kg_get (v := .int (h16 4 7)) hk_89 rfl wk_4_7 rfl rfl ?_
      refine kg_push (x := 1) hk_89 rfl (by decide) rfl ?_
      refine kg_bin (z := ((h16 4 7) - 1)) hk_89 rfl rfl rfl ?_
      have hF := Option.some.inj hF
      subst hF
      exact kg_iret hk_89 rfl (Or.inl rfl) rfl
    · intro y7 hx
      subst hx
      refine wf_inr hF (fun hF => ?_)
      have hF := Option.some.inj hF
      subst hF
      rfl
  · refine kg_icF hk_89 rfl (jc_F2 c1) rfl ?_
    refine kg_push (x := (-1)) hk_89 rfl (by decide) rfl ?_
    have hF := Option.some.inj hF
    subst hF
    exact kg_iret hk_89 rfl (Or.inl rfl) rfl
-- NotebookWeir$Widgets.tie(II)Z
theorem hk_90 : jP[90]? = some (jc_90, 3, [], []) := by rfl
def p_90 (h : Hp) (x1 : Int32) (x2 : Int32) : Option (Int32 × Hp) :=
  if (v_88 h x1) = 0 then
    (some (0, h))
  else
    (if (v_88 h x2) = 0 then
      (some (0, h))
    else
      (w_gd (w_ix x1 4) <|
      w_gd (w_ix x1 4) <|
      w_let (w_up h 10 x1.toNatClampNeg ((h 10 x1.toNatClampNeg) ^^^ (1 <<< (x2 &&& 31)))) fun h5 =>
      w_gd (w_ix x2 4) <|
      w_gd (w_ix x2 4) <|
      w_let (w_up h5 10 x2.toNatClampNeg ((h5 10 x2.toNatClampNeg) ^^^ (1 <<< (x1 &&& 31)))) fun h8 =>
      w_gd (w_ix x1 4) <|
      some ((v_126 (h8 10 x1.toNatClampNeg) x2), h8)))
theorem p_90_ok {X : List Int32}  {h : Hp} {x1 : Int32} {x2 : Int32}  {r : Int32 × Hp} (hF : p_90 h x1 x2 = some r) : k_Ev X 1 90 [.ref (4 + 1), .int x1, .int x2] h (.inl (some (.int r.1)), r.2) := by
  refine k_of hk_90 ?_
  show k_Go X 1 90 (0, [.ref (4 + 1), .int x1, .int x2], []) h _
  unfold p_90 at hF
  refine kg_aload hk_90 rfl rfl rfl ?_
  refine kg_iload hk_90 rfl rfl rfl ?_
  refine kg_call (as := [.ref (4 + 1), .int x1]) (rest := []) hk_90 rfl (Or.inr (Or.inr (Or.inr ⟨Or.inl rfl, _, _, rfl, wc_4⟩))) rfl rfl rfl (Nat.not_lt.mpr (Nat.le_of_ble_eq_true rfl)) (v_88_ok) (by decide) rfl ?_
  refine wf_if hF (fun c1 hF => ?_) (fun c1 hF => ?_)
  · refine kg_ifT hk_90 rfl (jc_T0 c1) ?_
    refine kg_push (x := 0) hk_90 rfl (by decide) rfl ?_
    have hF := Option.some.inj hF
    subst hF
    exact kg_iret hk_90 rfl (Or.inr rfl) rfl
  · refine kg_ifF hk_90 rfl (jc_F0 c1) rfl ?_
    refine kg_aload hk_90 rfl rfl rfl ?_
    refine kg_iload hk_90 rfl rfl rfl ?_
    refine kg_call (as := [.ref (4 + 1), .int x2]) (rest := []) hk_90 rfl (Or.inr (Or.inr (Or.inr ⟨Or.inl rfl, _, _, rfl, wc_4⟩))) rfl rfl rfl (Nat.not_lt.mpr (Nat.le_of_ble_eq_true rfl)) (v_88_ok) (by decide) rfl ?_
    refine wf_if hF (fun c2 hF => ?_) (fun c2 hF => ?_)
    · refine kg_ifF hk_90 rfl (jc_F1 c2) rfl ?_
      refine kg_push (x := 0) hk_90 rfl (by decide) rfl ?_
      have hF := Option.some.inj hF
      subst hF
      exact kg_iret hk_90 rfl (Or.inr rfl) rfl
    · refine kg_ifT hk_90 rfl (jc_T1 c2) ?_
      refine kg_aload hk_90 rfl rfl rfl ?_
      refine kg_get (v := .ref (10 + 1)) hk_90 rfl wk_4_5 rfl rfl ?_
      refine kg_iload hk_90 rfl rfl rfl ?_
      refine kg_dup2 hk_90 rfl ⟨rfl, rfl⟩ rfl ?_
      refine wf_gd hF (fun g3 hF => ?_)
      refine kg_ald (y := (h 10 x1.toNatClampNeg)) hk_90 rfl wc_10 g3 rfl rfl ?_
      refine kg_push (x := 1) hk_90 rfl (by decide) rfl ?_
      refine kg_iload hk_90 rfl rfl rfl ?_
      refine kg_bin (z := (1 <<< (x2 &&& 31))) hk_90 rfl rfl rfl ?_
      refine kg_bin (z := ((h 10 x1.toNatClampNeg) ^^^ (1 <<< (x2 &&& 31)))) hk_90 rfl rfl rfl ?_
      refine wf_gd hF (fun g4 hF => ?_)
      refine wf_let hF (fun h5 hh5 hF => ?_)
      refine kg_ast hk_90 rfl wc_10 g4 (by rw [j_nar50]; exact hh5) rfl ?_
      refine kg_aload hk_90 rfl rfl rfl ?_
      refine kg_get (v := .ref (10 + 1)) hk_90 rfl wk_4_5 rfl rfl ?_
      refine kg_iload hk_90 rfl rfl rfl ?_
      refine kg_dup2 hk_90 rfl ⟨rfl, rfl⟩ rfl ?_
      refine wf_gd hF (fun g6 hF => ?_)
      refine kg_ald (y := (h5 10 x2.toNatClampNeg)) hk_90 rfl wc_10 g6 rfl rfl ?_
      refine kg_push (x := 1) hk_90 rfl (by decide) rfl ?_
      refine kg_iload hk_90 rfl rfl rfl ?_
      refine kg_bin (z := (1 <<< (x1 &&& 31))) hk_90 rfl rfl rfl ?_
      refine kg_bin (z := ((h5 10 x2.toNatClampNeg) ^^^ (1 <<< (x1 &&& 31)))) hk_90 rfl rfl rfl ?_
      refine wf_gd hF (fun g7 hF => ?_)
      refine wf_let hF (fun h8 hh8 hF => ?_)
      refine kg_ast hk_90 rfl wc_10 g7 (by rw [j_nar50]; exact hh8) rfl ?_
      refine kg_aload hk_90 rfl rfl rfl ?_
      refine kg_get (v := .ref (10 + 1)) hk_90 rfl wk_4_5 rfl rfl ?_
      refine kg_iload hk_90 rfl rfl rfl ?_
      refine wf_gd hF (fun g9 hF => ?_)
      refine kg_ald (y := (h8 10 x1.toNatClampNeg)) hk_90 rfl wc_10 g9 rfl rfl ?_
      refine kg_iload hk_90 rfl rfl rfl ?_
      refine kg_call (as := [.int (h8 10 x1.toNatClampNeg), .int x2]) (rest := []) hk_90 rfl (Or.inr (Or.inl rfl)) rfl rfl rfl (Nat.not_lt.mpr (Nat.le_of_ble_eq_true rfl)) (v_126_ok) (by decide) rfl ?_
      have hF := Option.some.inj hF
      subst hF
      exact kg_iret hk_90 rfl (Or.inr (v_126_bo _ _)) rfl
-- NotebookWeir$Widgets.held(II)I
theorem hk_91 : jP[91]? = some (jc_91, 3, [], []) := by rfl
def v_91 (h : Hp) (x1 : Int32) (x2 : Int32) : Int32 := (if (v_88 h x1) = 0 then 0 else (if (h 6 x1.toNatClampNeg) < (if x2 < (h 7 x1.toNatClampNeg) then x2 else (h 7 x1.toNatClampNeg)) then (if x2 < (h 7 x1.toNatClampNeg) then x2 else (h 7 x1.toNatClampNeg)) else (h 6 x1.toNatClampNeg)))
def g_91 (h : Hp) (x1 : Int32) (x2 : Int32) : Bool := (if (v_88 h x1) = 0 then true else (w_ix x1 4) && (w_ix x1 4))
theorem v_91_ok {X : List Int32} {h : Hp} {x1 : Int32} {x2 : Int32}  (hg : g_91 h x1 x2 = true) : k_Ev X 1 91 [.ref (4 + 1), .int x1, .int x2] h (.inl (some (.int (v_91 h x1 x2))), h) := by
  refine k_of hk_91 ?_
  show k_Go X 1 91 (0, [.ref (4 + 1), .int x1, .int x2], []) h _
  generalize hv : v_91 h x1 x2 = z
  unfold v_91 at hv
  unfold g_91 at hg
  have g4 := hg
  refine kg_aload hk_91 rfl rfl rfl ?_
  refine kg_iload hk_91 rfl rfl rfl ?_
  refine kg_call (as := [.ref (4 + 1), .int x1]) (rest := []) hk_91 rfl (Or.inr (Or.inr (Or.inr ⟨Or.inl rfl, _, _, rfl, wc_4⟩))) rfl rfl rfl (Nat.not_lt.mpr (Nat.le_of_ble_eq_true rfl)) (v_88_ok) (by decide) rfl ?_
  refine kv_mid (p := 17) (L := [.ref (4 + 1), .int x1, .int x2]) (S := [.int (if (v_88 h x1) = 0 then 0 else (if (h 6 x1.toNatClampNeg) < (if x2 < (h 7 x1.toNatClampNeg) then x2 else (h 7 x1.toNatClampNeg)) then (if x2 < (h 7 x1.toNatClampNeg) then x2 else (h 7 x1.toNatClampNeg)) else (h 6 x1.toNatClampNeg)))]) ?_ (fun hK => ?_)
  · exact kg_iret hk_91 rfl (Or.inl rfl) (by rw [hv])
  · have hg := g4
    by_cases c1 : (v_88 h x1) = 0
    · have hK := kv_T c1 hK
      refine kg_ifT hk_91 rfl (jc_T0 c1) ?_
      refine kg_push (x := 0) hk_91 rfl (by decide) rfl ?_
      exact hK
    · have hg := wv_F c1 hg
      have hK := kv_F c1 hK
      have g2 := wb_1 hg
      have hg := wb_2 hg
      have g3 := hg
      refine kg_ifF hk_91 rfl (jc_F0 c1) rfl ?_
      refine kg_aload hk_91 rfl rfl rfl ?_
      refine kg_get (v := .ref (6 + 1)) hk_91 rfl wk_4_1 rfl rfl ?_
      refine kg_iload hk_91 rfl rfl rfl ?_
      refine kg_ald (y := (h 6 x1.toNatClampNeg)) hk_91 rfl wc_6 g2 rfl rfl ?_
      refine kg_aload hk_91 rfl rfl rfl ?_
      refine kg_get (v := .ref (7 + 1)) hk_91 rfl wk_4_2 rfl rfl ?_
      refine kg_iload hk_91 rfl rfl rfl ?_
      refine kg_ald (y := (h 7 x1.toNatClampNeg)) hk_91 rfl wc_7 g3 rfl rfl ?_
      refine kg_iload hk_91 rfl rfl rfl ?_
      refine kg_min hk_91 rfl (Nat.not_lt.mpr (Nat.le_of_ble_eq_true rfl)) rfl ?_
      refine kg_max hk_91 rfl (Nat.not_lt.mpr (Nat.le_of_ble_eq_true rfl)) rfl ?_
      refine kg_goto hk_91 rfl ?_
      exact hK
-- NotebookWeir$Widgets.set(II)V
theorem hk_92 : jP[92]? = some (jc_92, 3, [], []) := by rfl
def p_92 (h : Hp) (x1 : Int32) (x2 : Int32) : Option (Hp) :=
  if (v_88 h x1) = 0 then
    (some h)
  else
    (w_gd (w_ix x1 4) <|
    w_let (w_up h 9 x1.toNatClampNeg x2) fun h3 =>
    w_let (w_up h3 4 6 ((h3 4 6) ||| (1 <<< (x1 &&& 31)))) fun h4 =>
    some h4)
theorem p_92_ok {X : List Int32}  {h : Hp} {x1 : Int32} {x2 : Int32}  {r : Hp} (hF : p_92 h x1 x2 = some r) : k_Ev X 1 92 [.ref (4 + 1), .int x1, .int x2] h (.inl none, r) := by
  refine k_of hk_92 ?_
  show k_Go X 1 92 (0, [.ref (4 + 1), .int x1, .int x2], []) h _
  unfold p_92 at hF
  refine kg_aload hk_92 rfl rfl rfl ?_
  refine kg_iload hk_92 rfl rfl rfl ?_
  refine kg_call (as := [.ref (4 + 1), .int x1]) (rest := []) hk_92 rfl (Or.inr (Or.inr (Or.inr ⟨Or.inl rfl, _, _, rfl, wc_4⟩))) rfl rfl rfl (Nat.not_lt.mpr (Nat.le_of_ble_eq_true rfl)) (v_88_ok) (by decide) rfl ?_
  refine wf_if hF (fun c1 hF => ?_) (fun c1 hF => ?_)
  · refine kg_ifT hk_92 rfl (jc_T0 c1) ?_
    have hF := Option.some.inj hF
    subst hF
    exact kg_ret hk_92 rfl rfl
  · refine kg_ifF hk_92 rfl (jc_F0 c1) rfl ?_
    refine kg_aload hk_92 rfl rfl rfl ?_
    refine kg_get (v := .ref (9 + 1)) hk_92 rfl wk_4_4 rfl rfl ?_
    refine kg_iload hk_92 rfl rfl rfl ?_
    refine kg_iload hk_92 rfl rfl rfl ?_
    refine wf_gd hF (fun g2 hF => ?_)
    refine wf_let hF (fun h3 hh3 hF => ?_)
    refine kg_ast hk_92 rfl wc_9 g2 (by rw [j_nar50]; exact hh3) rfl ?_
    refine kg_aload hk_92 rfl rfl rfl ?_
    refine kg_dup hk_92 rfl rfl rfl ?_
    refine kg_get (v := .int (h3 4 6)) hk_92 rfl wk_4_6 rfl rfl ?_
    refine kg_push (x := 1) hk_92 rfl (by decide) rfl ?_
    refine kg_iload hk_92 rfl rfl rfl ?_
    refine kg_bin (z := (1 <<< (x1 &&& 31))) hk_92 rfl rfl rfl ?_
    refine kg_bin (z := ((h3 4 6) ||| (1 <<< (x1 &&& 31)))) hk_92 rfl rfl rfl ?_
    refine wf_let hF (fun h4 hh4 hF => ?_)
    refine kg_put hk_92 rfl wk_4_6 rfl rfl hh4 rfl ?_
    have hF := Option.some.inj hF
    subst hF
    exact kg_ret hk_92 rfl rfl
-- NotebookWeir$Widgets.spread(II)I
theorem hk_95 : jP[95]? = some (jc_95, 7, [], []) := by rfl
def q_95_25 (h : Hp) (x1 : Int32) (x2 : Int32) (x3 : Int32) (x4 : Int32) (x5 : Int32) (s0 : Int32) : Option ((Int32 × Int32 × Hp) ⊕ Int32 × Hp) :=
  if s0 = 0 then
    (some (.inl (x3, (x5 + 1), h)))
  else
    (w_gd (w_ix x5 4) <|
    if ((h 10 x5.toNatClampNeg) &&& x3) = 0 then
      (some (.inl (x3, (x5 + 1), h)))
    else
      (w_gd (w_ix x1 4) <|
      w_gd (g_91 h x5 (h 9 x1.toNatClampNeg)) <|
      w_gd (w_ix x5 4) <|
      w_let (w_up h 8 x5.toNatClampNeg (v_91 h x5 (h 9 x1.toNatClampNeg))) fun h10 =>
      some (.inl ((x3 ||| (1 <<< (x5 &&& 31))), (x5 + 1), h10))))
theorem q_95_25_ok {X : List Int32} {o : kO}  {h : Hp} {s0 : Int32} {x1 : Int32} {x2 : Int32} {x3 : Int32} {x4 : Int32} {x5 : Int32}  {r : (Int32 × Int32 × Hp) ⊕ Int32 × Hp} (hF : q_95_25 h x1 x2 x3 x4 x5 s0 = some r) (hK : ∀ s' : Int32 × Int32 × Hp, r = .inl s' → ∀ (u6 : Value), k_Go X 2 95 (12, [.ref (4 + 1), .int x1, .int x2, .int (s'.1), .int x4, .int (s'.2.1), u6], []) s'.2.2 o) (hX0 : ∀ e : Int32 × Hp, r = .inr e → ∀ (u5 : Value) (u6 : Value), k_Go X 2 95 (54, [.ref (4 + 1), .int x1, .int x2, .int e.1, .int x4, u5, u6], []) e.2 o) : ∀ (u6 : Value), k_Go X 2 95 (25, [.ref (4 + 1), .int x1, .int x2, .int x3, .int x4, .int x5, u6], [.int s0]) h o := by
  intro u6
  unfold q_95_25 at hF
  refine kg_istore (L2 := [.ref (4 + 1), .int x1, .int x2, .int x3, .int x4, .int x5, .int s0]) hk_95 rfl (Nat.le_of_ble_eq_true rfl) rfl rfl ?_
  refine kg_iload hk_95 rfl rfl rfl ?_
  refine wf_if hF (fun c4 hF => ?_) (fun c4 hF => ?_)
  · refine kg_ifT hk_95 rfl (jc_T0 c4) ?_
    refine kg_iinc (y := (x5 + 1)) (L2 := [.ref (4 + 1), .int x1, .int x2, .int x3, .int x4, .int (x5 + 1), .int s0]) hk_95 rfl rfl rfl rfl rfl ?_
    refine kg_goto hk_95 rfl ?_
    have hF := Option.some.inj hF
    exact hK _ hF.symm _
  · refine kg_ifF hk_95 rfl (jc_F0 c4) rfl ?_
    refine kg_aload hk_95 rfl rfl rfl ?_
    refine kg_get (v := .ref (10 + 1)) hk_95 rfl wk_4_5 rfl rfl ?_
    refine kg_iload hk_95 rfl rfl rfl ?_
    refine wf_gd hF (fun g5 hF => ?_)
    refine kg_ald (y := (h 10 x5.toNatClampNeg)) hk_95 rfl wc_10 g5 rfl rfl ?_
    refine kg_iload hk_95 rfl rfl rfl ?_
    refine kg_bin (z := ((h 10 x5.toNatClampNeg) &&& x3)) hk_95 rfl rfl rfl ?_
    refine wf_if hF (fun c6 hF => ?_) (fun c6 hF => ?_)
    · refine kg_ifT hk_95 rfl (jc_T0 c6) ?_
      refine kg_iinc (y := (x5 + 1)) (L2 := [.ref (4 + 1), .int x1, .int x2, .int x3, .int x4, .int (x5 + 1), .int s0]) hk_95 rfl rfl rfl rfl rfl ?_
      refine kg_goto hk_95 rfl ?_
      have hF := Option.some.inj hF
      exact hK _ hF.symm _
    · refine kg_ifF hk_95 rfl (jc_F0 c6) rfl ?_
      refine kg_iload hk_95 rfl rfl rfl ?_
      refine kg_push (x := 1) hk_95 rfl (by decide) rfl ?_
      refine kg_iload hk_95 rfl rfl rfl ?_
      refine kg_bin (z := (1 <<< (x5 &&& 31))) hk_95 rfl rfl rfl ?_
      refine kg_bin (z := (x3 ||| (1 <<< (x5 &&& 31)))) hk_95 rfl rfl rfl ?_
      refine kg_istore (L2 := [.ref (4 + 1), .int x1, .int x2, .int (x3 ||| (1 <<< (x5 &&& 31))), .int x4, .int x5, .int s0]) hk_95 rfl (Nat.le_of_ble_eq_true rfl) rfl rfl ?_
      refine kg_aload hk_95 rfl rfl rfl ?_
      refine kg_get (v := .ref (8 + 1)) hk_95 rfl wk_4_3 rfl rfl ?_
      refine kg_iload hk_95 rfl rfl rfl ?_
      refine kg_aload hk_95 rfl rfl rfl ?_
      refine kg_iload hk_95 rfl rfl rfl ?_
      refine kg_aload hk_95 rfl rfl rfl ?_
      refine kg_get (v := .ref (9 + 1)) hk_95 rfl wk_4_4 rfl rfl ?_
      refine kg_iload hk_95 rfl rfl rfl ?_
      refine wf_gd hF (fun g7 hF => ?_)
      refine kg_ald (y := (h 9 x1.toNatClampNeg)) hk_95 rfl wc_9 g7 rfl rfl ?_
      refine wf_gd hF (fun g8 hF => ?_)
      refine kg_call (as := [.ref (4 + 1), .int x5, .int (h 9 x1.toNatClampNeg)]) (rest := [.int x5, .ref (8 + 1)]) hk_95 rfl (Or.inr (Or.inr (Or.inr ⟨Or.inl rfl, _, _, rfl, wc_4⟩))) rfl rfl rfl (Nat.not_lt.mpr (Nat.le_of_ble_eq_true rfl)) (v_91_ok g8) (by decide) rfl ?_
      refine wf_gd hF (fun g9 hF => ?_)
      refine wf_let hF (fun h10 hh10 hF => ?_)
      refine kg_ast hk_95 rfl wc_8 g9 (by rw [j_nar50]; exact hh10) rfl ?_
      refine kg_iinc (y := (x5 + 1)) (L2 := [.ref (4 + 1), .int x1, .int x2, .int (x3 ||| (1 <<< (x5 &&& 31))), .int x4, .int (x5 + 1), .int s0]) hk_95 rfl rfl rfl rfl rfl ?_
      refine kg_goto hk_95 rfl ?_
      have hF := Option.some.inj hF
      exact hK _ hF.symm _
def l_95_12 (x1 : Int32) (x2 : Int32) (x3 : Int32) (x5 : Int32) (h : Hp) : Option ((Int32 × Int32 × Hp) ⊕ Int32 × Hp) :=
  if x5 < (h 4 7) then
    (q_95_25 h x1 x2 x3 x4 x5 (if (v_126 (x2 ||| x3) x5) = 0 then 1 else 0))
  else
    (some (.inr (x3, h)))
theorem l_95_12_st {X : List Int32} {o : kO}  {h : Hp} {x1 : Int32} {x2 : Int32} {x3 : Int32} {x4 : Int32} {x5 : Int32}  {r : (Int32 × Int32 × Hp) ⊕ Int32 × Hp} (hF : l_95_12 x1 x2 x3 x5 h = some r) (hK : ∀ s' : Int32 × Int32 × Hp, r = .inl s' → ∀ (u6 : Value), k_Go X 2 95 (12, [.ref (4 + 1), .int x1, .int x2, .int (s'.1), .int x4, .int (s'.2.1), u6], []) s'.2.2 o) (hX0 : ∀ e : Int32 × Hp, r = .inr e → ∀ (u5 : Value) (u6 : Value), k_Go X 2 95 (54, [.ref (4 + 1), .int x1, .int x2, .int e.1, .int x4, u5, u6], []) e.2 o) : ∀ (u6 : Value), k_Go X 2 95 (12, [.ref (4 + 1), .int x1, .int x2, .int x3, .int x4, .int x5, u6], []) h o := by
  intro u6
  refine kg_iload hk_95 rfl rfl rfl ?_
  refine kg_aload hk_95 rfl rfl rfl ?_
  refine kg_get (v := .int (h 4 7)) hk_95 rfl wk_4_7 rfl rfl ?_
  refine wf_if hF (fun c2 hF => ?_) (fun c2 hF => ?_)
  · refine kg_icF hk_95 rfl (jc_F3 c2) rfl ?_
    refine kg_iload hk_95 rfl rfl rfl ?_
    refine kg_iload hk_95 rfl rfl rfl ?_
    refine kg_bin (z := (x2 ||| x3)) hk_95 rfl rfl rfl ?_
    refine kg_iload hk_95 rfl rfl rfl ?_
    refine kg_call (as := [.int (x2 ||| x3), .int x5]) (rest := []) hk_95 rfl (Or.inr (Or.inl rfl)) rfl rfl rfl (Nat.not_lt.mpr (Nat.le_of_ble_eq_true rfl)) (v_126_ok) (by decide) rfl ?_
    refine kv_mid (p := 25) (L := [.ref (4 + 1), .int x1, .int x2, .int x3, .int x4, .int x5, u6]) (S := [.int (if (v_126 (x2 ||| x3) x5) = 0 then 1 else 0)]) ?_ (fun hK => ?_)
    · exact q_95_25_ok hF hK hX0 _
    · by_cases c3 : (v_126 (x2 ||| x3) x5) = 0
      · have hK := kv_T c3 hK
        refine kg_ifF hk_95 rfl (jc_F1 c3) rfl ?_
        refine kg_push (x := 1) hk_95 rfl (by decide) rfl ?_
        refine kg_goto hk_95 rfl ?_
        exact hK
      · have hK := kv_F c3 hK
        refine kg_ifT hk_95 rfl (jc_T1 c3) ?_
        refine kg_push (x := 0) hk_95 rfl (by decide) rfl ?_
        exact hK
  · refine kg_icT hk_95 rfl (jc_T3 c2) ?_
    have hF := Option.some.inj hF
    exact hX0 _ hF.symm _ _
theorem l_95_12_ok {X : List Int32} {o : kO}  {x1 : Int32} {x2 : Int32} {x4 : Int32}  {n : Nat} {s : Int32 × Int32 × Hp} {e : Int32 × Hp} (hF : w_lp (fun (s : Int32 × Int32 × Hp) => l_95_12 x1 x2 s.1 s.2.1 s.2.2) n s = some e) (hX0 : ∀ (u5 : Value) (u6 : Value), k_Go X 2 95 (54, [.ref (4 + 1), .int x1, .int x2, .int e.1, .int x4, u5, u6], []) e.2 o) : ∀ (u6 : Value), k_Go X 2 95 (12, [.ref (4 + 1), .int x1, .int x2, .int s.1, .int x4, .int s.2.1, u6], []) s.2.2 o := by
  exact w_lp_ok (P := (fun (s : Int32 × Int32 × Hp) => ∀ (u6 : Value), k_Go X 2 95 (12, [.ref (4 + 1), .int x1, .int x2, .int s.1, .int x4, .int s.2.1, u6], []) s.2.2 o)) (Q := (fun (e : Int32 × Hp) => (∀ (u5 : Value) (u6 : Value), k_Go X 2 95 (54, [.ref (4 + 1), .int x1, .int x2, .int e.1, .int x4, u5, u6], []) e.2 o))) (fun s r hF hK hX => l_95_12_st hF hK (fun x hx => (hX _ hx))) n s e hF hX0
def l_95_6 (x1 : Int32) (x2 : Int32) (x3 : Int32) (x4 : Int32) (h : Hp) : Option ((Int32 × Int32 × Hp) ⊕ Int32 × Hp) :=
  if x4 < (h 4 7) then
    ((w_lp (fun (s : Int32 × Int32 × Hp) => l_95_12 x1 x2 s.1 s.2.1 s.2.2) w_N (x3, 0, h)).bind fun e11 =>
    some (.inl (e11.1, (x4 + 1), e11.2)))
  else
    (some (.inr (x3, h)))
theorem l_95_6_st {X : List Int32} {o : kO}  {h : Hp} {x1 : Int32} {x2 : Int32} {x3 : Int32} {x4 : Int32}  {r : (Int32 × Int32 × Hp) ⊕ Int32 × Hp} (hF : l_95_6 x1 x2 x3 x4 h = some r) (hK : ∀ s' : Int32 × Int32 × Hp, r = .inl s' → ∀ (u5 : Value) (u6 : Value), k_Go X 2 95 (6, [.ref (4 + 1), .int x1, .int x2, .int (s'.1), .int (s'.2.1), u5, u6], []) s'.2.2 o) (hX0 : ∀ e : Int32 × Hp, r = .inr e → (.inl (some (.int e.1)), e.2) = o) : ∀ (u5 : Value) (u6 : Value), k_Go X 2 95 (6, [.ref (4 + 1), .int x1, .int x2, .int x3, .int x4, u5, u6], []) h o := by
  intro u5 u6
  refine kg_iload hk_95 rfl rfl rfl ?_
  refine kg_aload hk_95 rfl rfl rfl ?_
  refine kg_get (v := .int (h 4 7)) hk_95 rfl wk_4_7 rfl rfl ?_
  refine wf_if hF (fun c1 hF => ?_) (fun c1 hF => ?_)
  · refine kg_icF hk_95 rfl (jc_F3 c1) rfl ?_
    refine kg_push (x := 0) hk_95 rfl (by decide) rfl ?_
    refine kg_istore (L2 := [.ref (4 + 1), .int x1, .int x2, .int x3, .int x4, .int 0, u6]) hk_95 rfl (Nat.le_of_ble_eq_true rfl) rfl rfl ?_
    refine wf_bind hF (fun e11 he11 hF => ?_)
    refine l_95_12_ok he11 ?_ _
    intro u5 u6
    refine kg_iinc (y := (x4 + 1)) (L2 := [.ref (4 + 1), .int x1, .int x2, .int e11.1, .int (x4 + 1), u5, u6]) hk_95 rfl rfl rfl rfl rfl ?_
    refine kg_goto hk_95 rfl ?_
    have hF := Option.some.inj hF
    exact hK _ hF.symm _ _
  · refine kg_icT hk_95 rfl (jc_T3 c1) ?_
    refine kg_iload hk_95 rfl rfl rfl ?_
    have hF := Option.some.inj hF
    exact kg_iret hk_95 rfl (Or.inl rfl) (hX0 _ hF.symm)
theorem l_95_6_ok {X : List Int32} {o : kO}  {x1 : Int32} {x2 : Int32}  {n : Nat} {s : Int32 × Int32 × Hp} {e : Int32 × Hp} (hF : w_lp (fun (s : Int32 × Int32 × Hp) => l_95_6 x1 x2 s.1 s.2.1 s.2.2) n s = some e) (hX0 : (.inl (some (.int e.1)), e.2) = o) : ∀ (u5 : Value) (u6 : Value), k_Go X 2 95 (6, [.ref (4 + 1), .int x1, .int x2, .int s.1, .int s.2.1, u5, u6], []) s.2.2 o := by
  exact w_lp_ok (P := (fun (s : Int32 × Int32 × Hp) => ∀ (u5 : Value) (u6 : Value), k_Go X 2 95 (6, [.ref (4 + 1), .int x1, .int x2, .int s.1, .int s.2.1, u5, u6], []) s.2.2 o)) (Q := (fun (e : Int32 × Hp) => ((.inl (some (.int e.1)), e.2) = o))) (fun s r hF hK hX => l_95_6_st hF hK (fun x hx => (hX _ hx))) n s e hF hX0
def p_95 (h : Hp) (x1 : Int32) (x2 : Int32) : Option (Int32 × Hp) :=
  w_lp (fun (s : Int32 × Int32 × Hp) => l_95_6 x1 x2 s.1 s.2.1 s.2.2) w_N ((1 <<< (x1 &&& 31)), 0, h)
theorem p_95_ok {X : List Int32}  {h : Hp} {x1 : Int32} {x2 : Int32}  {r : Int32 × Hp} (hF : p_95 h x1 x2 = some r) : k_Ev X 2 95 [.ref (4 + 1), .int x1, .int x2] h (.inl (some (.int r.1)), r.2) := by
  refine k_of hk_95 ?_
  show k_Go X 2 95 (0, [.ref (4 + 1), .int x1, .int x2, (.retAddr 0), (.retAddr 0), (.retAddr 0), (.retAddr 0)], []) h _
  unfold p_95 at hF
  refine kg_push (x := 1) hk_95 rfl (by decide) rfl ?_
  refine kg_iload hk_95 rfl rfl rfl ?_
  refine kg_bin (z := (1 <<< (x1 &&& 31))) hk_95 rfl rfl rfl ?_
  refine kg_istore (L2 := [.ref (4 + 1), .int x1, .int x2, .int (1 <<< (x1 &&& 31)), (.retAddr 0), (.retAddr 0), (.retAddr 0)]) hk_95 rfl (Nat.le_of_ble_eq_true rfl) rfl rfl ?_
  refine kg_push (x := 0) hk_95 rfl (by decide) rfl ?_
  refine kg_istore (L2 := [.ref (4 + 1), .int x1, .int x2, .int (1 <<< (x1 &&& 31)), .int 0, (.retAddr 0), (.retAddr 0)]) hk_95 rfl (Nat.le_of_ble_eq_true rfl) rfl rfl ?_
  exact l_95_6_ok hF rfl _ _
-- NotebookWeir$Widgets.showTurned()V
theorem hk_94 : jP[94]? = some (jc_94, 3, [], []) := by rfl
def l_94_5 (x2 : Int32) (h : Hp) : Option ((Int32 × Hp) ⊕ Hp) :=
  if x2 < (h 4 7) then
    (if (v_126 (h 4 6) x2) = 0 then
      (some (.inl ((x2 + 1), h)))
    else
      (w_gd (w_ix x2 4) <|
      w_gd (w_ix x2 4) <|
      w_let (w_up h 8 x2.toNatClampNeg (h 9 x2.toNatClampNeg)) fun h5 =>
      some (.inl ((x2 + 1), h5))))
  else
    (some (.inr h))
theorem l_94_5_st {X : List Int32} {o : kO}  {h : Hp} {x1 : Int32} {x2 : Int32}  {r : (Int32 × Hp) ⊕ Hp} (hF : l_94_5 x2 h = some r) (hK : ∀ s' : Int32 × Hp, r = .inl s' → k_Go X 3 94 (5, [.ref (4 + 1), .int x1, .int (s'.1)], []) s'.2 o) (hX0 : ∀ e : Hp, r = .inr e → ∀ (u2 : Value), k_Go X 3 94 (24, [.ref (4 + 1), .int x1, u2], []) e o) : k_Go X 3 94 (5, [.ref (4 + 1), .int x1, .int x2], []) h o := by
  refine kg_iload hk_94 rfl rfl rfl ?_
  refine kg_aload hk_94 rfl rfl rfl ?_
  refine kg_get (v := .int (h 4 7)) hk_94 rfl wk_4_7 rfl rfl ?_
  refine wf_if hF (fun c1 hF => ?_) (fun c1 hF => ?_)
  · refine kg_icF hk_94 rfl (jc_F3 c1) rfl ?_
    refine kg_aload hk_94 rfl rfl rfl ?_
    refine kg_get (v := .int (h 4 6)) hk_94 rfl wk_4_6 rfl rfl ?_
    refine kg_iload hk_94 rfl rfl rfl ?_
    refine kg_call (as := [.int (h 4 6), .int x2]) (rest := []) hk_94 rfl (Or.inr (Or.inl rfl)) rfl rfl rfl (Nat.not_lt.mpr (Nat.le_of_ble_eq_true rfl)) (v_126_ok) (by decide) rfl ?_
    refine wf_if hF (fun c2 hF => ?_) (fun c2 hF => ?_)
    · refine kg_ifT hk_94 rfl (jc_T0 c2) ?_
      refine kg_iinc (y := (x2 + 1)) (L2 := [.ref (4 + 1), .int x1, .int (x2 + 1)]) hk_94 rfl rfl rfl rfl rfl ?_
      refine kg_goto hk_94 rfl ?_
      have hF := Option.some.inj hF
      exact hK _ hF.symm
    · refine kg_ifF hk_94 rfl (jc_F0 c2) rfl ?_
      refine kg_aload hk_94 rfl rfl rfl ?_
      refine kg_get (v := .ref (8 + 1)) hk_94 rfl wk_4_3 rfl rfl ?_
      refine kg_iload hk_94 rfl rfl rfl ?_
      refine kg_aload hk_94 rfl rfl rfl ?_
      refine kg_get (v := .ref (9 + 1)) hk_94 rfl wk_4_4 rfl rfl ?_
      refine kg_iload hk_94 rfl rfl rfl ?_
      refine wf_gd hF (fun g3 hF => ?_)
      refine kg_ald (y := (h 9 x2.toNatClampNeg)) hk_94 rfl wc_9 g3 rfl rfl ?_
      refine wf_gd hF (fun g4 hF => ?_)
      refine wf_let hF (fun h5 hh5 hF => ?_)
      refine kg_ast hk_94 rfl wc_8 g4 (by rw [j_nar50]; exact hh5) rfl ?_
      refine kg_iinc (y := (x2 + 1)) (L2 := [.ref (4 + 1), .int x1, .int (x2 + 1)]) hk_94 rfl rfl rfl rfl rfl ?_
      refine kg_goto hk_94 rfl ?_
      have hF := Option.some.inj hF
      exact hK _ hF.symm
  · refine kg_icT hk_94 rfl (jc_T3 c1) ?_
    have hF := Option.some.inj hF
    exact hX0 _ hF.symm _
theorem l_94_5_ok {X : List Int32} {o : kO}  {x1 : Int32}  {n : Nat} {s : Int32 × Hp} {e : Hp} (hF : w_lp (fun (s : Int32 × Hp) => l_94_5 s.1 s.2) n s = some e) (hX0 : ∀ (u2 : Value), k_Go X 3 94 (24, [.ref (4 + 1), .int x1, u2], []) e o) : k_Go X 3 94 (5, [.ref (4 + 1), .int x1, .int s.1], []) s.2 o := by
  exact w_lp_ok (P := (fun (s : Int32 × Hp) => k_Go X 3 94 (5, [.ref (4 + 1), .int x1, .int s.1], []) s.2 o)) (Q := (fun (e : Hp) => (∀ (u2 : Value), k_Go X 3 94 (24, [.ref (4 + 1), .int x1, u2], []) e o))) (fun s r hF hK hX => l_94_5_st hF hK (fun x hx => (hX _ hx))) n s e hF hX0
def l_94_26 (x1 : Int32) (x2 : Int32) (h : Hp) : Option ((Int32 × Int32 × Hp) ⊕ Hp) :=
  if x2 < (h 4 7) then
    (if (v_126 (h 4 6) x2) = 0 then
      (some (.inl (x1, (x2 + 1), h)))
    else
      ((p_95 h x2 x1).bind fun v9 =>
      some (.inl ((x1 ||| v9.1), (x2 + 1), v9.2))))
  else
    (some (.inr h))
theorem l_94_26_st {X : List Int32} {o : kO}  {h : Hp} {x1 : Int32} {x2 : Int32}  {r : (Int32 × Int32 × Hp) ⊕ Hp} (hF : l_94_26 x1 x2 h = some r) (hK : ∀ s' : Int32 × Int32 × Hp, r = .inl s' → k_Go X 3 94 (26, [.ref (4 + 1), .int (s'.1), .int (s'.2.1)], []) s'.2.2 o) (hX0 : ∀ e : Hp, r = .inr e → ∀ (u1 : Value) (u2 : Value), k_Go X 3 94 (44, [.ref (4 + 1), u1, u2], []) e o) : k_Go X 3 94 (26, [.ref (4 + 1), .int x1, .int x2], []) h o := by
  refine kg_iload hk_94 rfl rfl rfl ?_
  refine kg_aload hk_94 rfl rfl rfl ?_
  refine kg_get (v := .int (h 4 7)) hk_94 rfl wk_4_7 rfl rfl ?_
  refine wf_if hF (fun c7 hF => ?_) (fun c7 hF => ?_)
  · refine kg_icF hk_94 rfl (jc_F3 c7) rfl ?_
    refine kg_aload hk_94 rfl rfl rfl ?_
    refine kg_get (v := .int (h 4 6)) hk_94 rfl wk_4_6 rfl rfl ?_
    refine kg_iload hk_94 rfl rfl rfl ?_
    refine kg_call (as := [.int (h 4 6), .int x2]) (rest := []) hk_94 rfl (Or.inr (Or.inl rfl)) rfl rfl rfl (Nat.not_lt.mpr (Nat.le_of_ble_eq_true rfl)) (v_126_ok) (by decide) rfl ?_
    refine wf_if hF (fun c8 hF => ?_) (fun c8 hF => ?_)
    · refine kg_ifT hk_94 rfl (jc_T0 c8) ?_
      refine kg_iinc (y := (x2 + 1)) (L2 := [.ref (4 + 1), .int x1, .int (x2 + 1)]) hk_94 rfl rfl rfl rfl rfl ?_
      refine kg_goto hk_94 rfl ?_
      have hF := Option.some.inj hF
      exact hK _ hF.symm
    · refine kg_ifF hk_94 rfl (jc_F0 c8) rfl ?_
      refine kg_iload hk_94 rfl rfl rfl ?_
      refine kg_aload hk_94 rfl rfl rfl ?_
      refine kg_iload hk_94 rfl rfl rfl ?_
      refine kg_iload hk_94 rfl rfl rfl ?_
      refine wf_bind hF (fun v9 hv9 hF => ?_)
      refine kg_call (as := [.ref (4 + 1), .int x2, .int x1]) (rest := [.int x1]) hk_94 rfl (Or.inr (Or.inr (Or.inr ⟨Or.inl rfl, _, _, rfl, wc_4⟩))) rfl rfl rfl (Nat.not_lt.mpr (Nat.le_of_ble_eq_true rfl)) (p_95_ok hv9) (by decide) rfl ?_
      refine kg_bin (z := (x1 ||| v9.1)) hk_94 rfl rfl rfl ?_
      refine kg_istore (L2 := [.ref (4 + 1), .int (x1 ||| v9.1), .int x2]) hk_94 rfl (Nat.le_of_ble_eq_true rfl) rfl rfl ?_
      refine kg_iinc (y := (x2 + 1)) (L2 := [.ref (4 + 1), .int (x1 ||| v9.1), .int (x2 + 1)]) hk_94 rfl rfl rfl rfl rfl ?_
      refine kg_goto hk_94 rfl ?_
      have hF := Option.some.inj hF
      exact hK _ hF.symm
  · refine kg_icT hk_94 rfl (jc_T3 c7) ?_
    have hF := Option.some.inj hF
    exact hX0 _ hF.symm _ _
theorem l_94_26_ok {X : List Int32} {o : kO}    {n : Nat} {s : Int32 × Int32 × Hp} {e : Hp} (hF : w_lp (fun (s : Int32 × Int32 × Hp) => l_94_26 s.1 s.2.1 s.2.2) n s = some e) (hX0 : ∀ (u1 : Value) (u2 : Value), k_Go X 3 94 (44, [.ref (4 + 1), u1, u2], []) e o) : k_Go X 3 94 (26, [.ref (4 + 1), .int s.1, .int s.2.1], []) s.2.2 o := by
  exact w_lp_ok (P := (fun (s : Int32 × Int32 × Hp) => k_Go X 3 94 (26, [.ref (4 + 1), .int s.1, .int s.2.1], []) s.2.2 o)) (Q := (fun (e : Hp) => (∀ (u1 : Value) (u2 : Value), k_Go X 3 94 (44, [.ref (4 + 1), u1, u2], []) e o))) (fun s r hF hK hX => l_94_26_st hF hK (fun x hx => (hX _ hx))) n s e hF hX0
def p_94 (h : Hp) : Option (Hp) :=
  (w_lp (fun (s : Int32 × Hp) => l_94_5 s.1 s.2) w_N (0, h)).bind fun e6 =>
  (w_lp (fun (s : Int32 × Int32 × Hp) => l_94_26 s.1 s.2.1 s.2.2) w_N ((h 4 6), 0, e6)).bind fun e10 =>
  w_let (w_up e10 4 6 0) fun h11 =>
  some h11
theorem p_94_ok {X : List Int32}  {h : Hp}   {r : Hp} (hF : p_94 h = some r) : k_Ev X 3 94 [.ref (4 + 1)] h (.inl none, r) := by
  refine k_of hk_94 ?_
  show k_Go X 3 94 (0, [.ref (4 + 1), (.retAddr 0), (.retAddr 0)], []) h _
  unfold p_94 at hF
  refine kg_aload hk_94 rfl rfl rfl ?_
  refine kg_get (v := .int (h 4 6)) hk_94 rfl wk_4_6 rfl rfl ?_
  refine kg_istore (L2 := [.ref (4 + 1), .int (h 4 6), (.retAddr 0)]) hk_94 rfl (Nat.le_of_ble_eq_true rfl) rfl rfl ?_
  refine kg_push (x := 0) hk_94 rfl (by decide) rfl ?_
  refine kg_istore (L2 := [.ref (4 + 1), .int (h 4 6), .int 0]) hk_94 rfl (Nat.le_of_ble_eq_true rfl) rfl rfl ?_
  refine wf_bind hF (fun e6 he6 hF => ?_)
  refine l_94_5_ok he6 ?_
  intro u2
  refine kg_push (x := 0) hk_94 rfl (by decide) rfl ?_
  refine kg_istore (L2 := [.ref (4 + 1), .int (h 4 6), .int 0]) hk_94 rfl (Nat.le_of_ble_eq_true rfl) rfl rfl ?_
  refine wf_bind hF (fun e10 he10 hF => ?_)
  refine l_94_26_ok he10 ?_
  intro u1 u2
  refine kg_aload hk_94 rfl rfl rfl ?_
  refine kg_push (x := 0) hk_94 rfl (by decide) rfl ?_
  refine wf_let hF (fun h11 hh11 hF => ?_)
  refine kg_put hk_94 rfl wk_4_6 rfl rfl hh11 rfl ?_
  have hF := Option.some.inj hF
  subst hF
  exact kg_ret hk_94 rfl rfl
-- NotebookWeir.isHand(I)Z
theorem hk_121 : jP[121]? = some (jc_121, 1, [], []) := by rfl
def v_121 (x0 : Int32) : Int32 := (if x0 < 0 then 0 else (if x0 < 2 then 1 else 0))
theorem v_121_bo (x0 : Int32) : w_bo (v_121 x0) = true := by
  unfold v_121
  exact (w_boi rfl (w_boi rfl rfl))
theorem v_121_ok {X : List Int32} {h : Hp} {x0 : Int32}  : k_Ev X 0 121 [.int x0] h (.inl (some (.int (v_121 x0))), h) := by
  refine k_of hk_121 ?_
  show k_Go X 0 121 (0, [.int x0], []) h _
  generalize hv : v_121 x0 = z
  unfold v_121 at hv
  refine kg_iload hk_121 rfl rfl rfl ?_
  refine kv_mid (p := 8) (L := [.int x0]) (S := [.int (if x0 < 0 then 0 else (if x0 < 2 then 1 else 0))]) ?_ (fun hK => ?_)
  · exact kg_iret hk_121 rfl (Or.inr (w_boi rfl (w_boi rfl rfl))) (by rw [hv])
  · by_cases c1 : x0 < 0
    · have hK := kv_T c1 hK
      refine kg_ifT hk_121 rfl (jc_T2 c1) ?_
      refine kg_push (x := 0) hk_121 rfl (by decide) rfl ?_
      exact hK
    · have hK := kv_F c1 hK
      refine kg_ifF hk_121 rfl (jc_F2 c1) rfl ?_
      refine kg_iload hk_121 rfl rfl rfl ?_
      refine kg_push (x := 2) hk_121 rfl (by decide) rfl ?_
      by_cases c2 : x0 < 2
      · have hK := kv_T c2 hK
        refine kg_icF hk_121 rfl (jc_F3 c2) rfl ?_
        refine kg_push (x := 1) hk_121 rfl (by decide) rfl ?_
        refine kg_goto hk_121 rfl ?_
        exact hK
      · have hK := kv_F c2 hK
        refine kg_icT hk_121 rfl (jc_T3 c2) ?_
        refine kg_push (x := 0) hk_121 rfl (by decide) rfl ?_
        exact hK
-- NotebookWeir.type(IC)I
theorem hk_97 : jP[97]? = some (jc_97, 3, [], []) := by rfl
def p_97 (h : Hp) (x1 : Int32) (x2 : Int32) : Option ((Int32 ⊕ Nat) × Hp) :=
  if (v_121 x1) = 0 then
    (some ((.inr 0), h))
  else
    (w_gd (w_ix x1 2) <|
    (p_56 h (2 * x1.toNatClampNeg + 48) x2).bind fun v4 =>
    if v4.1 = 0 then
      (some ((.inr 1), v4.2))
    else
      (w_gd (w_ix x1 2) <|
      some ((.inl (v4.2 (2 * x1.toNatClampNeg + 48) 1)), v4.2)))
theorem p_97_ok {X : List Int32}  {h : Hp} {x1 : Int32} {x2 : Int32}  {r : (Int32 ⊕ Nat) × Hp} (hF : p_97 h x1 x2 = some r) : k_Ev X 1 97 [.ref (0 + 1), .int x1, .int x2] h (w_th r.1, r.2) := by
  refine k_of hk_97 ?_
  show k_Go X 1 97 (0, [.ref (0 + 1), .int x1, .int x2], []) h _
  unfold p_97 at hF
  refine kg_iload hk_97 rfl rfl rfl ?_
  refine kg_call (as := [.int x1]) (rest := []) hk_97 rfl (Or.inl rfl) rfl rfl rfl (Nat.not_lt.mpr (Nat.le_of_ble_eq_true rfl)) (v_121_ok) (by decide) rfl ?_
  refine wf_if hF (fun c1 hF => ?_) (fun c1 hF => ?_)
  · refine kg_ifF hk_97 rfl (jc_F1 c1) rfl ?_
    have hF := Option.some.inj hF
    subst hF
    exact kg_throw hk_97 rfl (Nat.not_lt.mpr (Nat.le_of_ble_eq_true rfl)) rfl
  · refine kg_ifT hk_97 rfl (jc_T1 c1) ?_
    refine kg_aload hk_97 rfl rfl rfl ?_
    refine kg_get (v := .ref (1 + 1)) hk_97 rfl wk_0_0 rfl rfl ?_
    refine kg_iload hk_97 rfl rfl rfl ?_
    refine wf_gd hF (fun g2 hF => ?_)
    have he3 := w_E we_60 wc_1 g2
    refine kg_aald (y := (2 * x1.toNatClampNeg + 48)) hk_97 rfl g2 he3.1 rfl ?_
    refine kg_iload hk_97 rfl rfl rfl ?_
    refine wf_bind hF (fun v4 hv4 hF => ?_)
    refine kg_call (as := [.ref ((2 * x1.toNatClampNeg + 48) + 1), .int x2]) (rest := []) hk_97 rfl (Or.inr (Or.inr (Or.inr ⟨Or.inl rfl, _, _, rfl, he3.2⟩))) rfl rfl rfl (Nat.not_lt.mpr (Nat.le_of_ble_eq_true rfl)) (p_56_ok he3.2 hv4) (by decide) rfl ?_
    refine wf_if hF (fun c5 hF => ?_) (fun c5 hF => ?_)
    · refine kg_ifF hk_97 rfl (jc_F1 c5) rfl ?_
      have hF := Option.some.inj hF
      subst hF
      exact kg_throw hk_97 rfl (Nat.not_lt.mpr (Nat.le_of_ble_eq_true rfl)) rfl
    · refine kg_ifT hk_97 rfl (jc_T1 c5) ?_
      refine kg_aload hk_97 rfl rfl rfl ?_
      refine kg_get (v := .ref (1 + 1)) hk_97 rfl wk_0_0 rfl rfl ?_
      refine kg_iload hk_97 rfl rfl rfl ?_
      refine wf_gd hF (fun g6 hF => ?_)
      have he7 := w_E we_60 wc_1 g6
      refine kg_aald (y := (2 * x1.toNatClampNeg + 48)) hk_97 rfl g6 he7.1 rfl ?_
      refine kg_get (v := .int (v4.2 (2 * x1.toNatClampNeg + 48) 1)) hk_97 rfl (wf_7_1 he7.2) rfl rfl ?_
      have hF := Option.some.inj hF
      subst hF
      exact kg_iret hk_97 rfl (Or.inl rfl) rfl
-- NotebookWeir.isLanguage(I)Z
theorem hk_122 : jP[122]? = some (jc_122, 1, [], []) := by rfl
def v_122 (x0 : Int32) : Int32 := (if x0 = 0 then 1 else (if x0 = 1 then 1 else (if x0 = 2 then 1 else 0)))
theorem v_122_bo (x0 : Int32) : w_bo (v_122 x0) = true := by
  unfold v_122
  exact (w_boi rfl (w_boi rfl (w_boi rfl rfl)))
theorem v_122_ok {X : List Int32} {h : Hp} {x0 : Int32}  : k_Ev X 0 122 [.int x0] h (.inl (some (.int (v_122 x0))), h) := by
  refine k_of hk_122 ?_
  show k_Go X 0 122 (0, [.int x0], []) h _
  generalize hv : v_122 x0 = z
  unfold v_122 at hv
  refine kg_iload hk_122 rfl rfl rfl ?_
  refine kv_mid (p := 11) (L := [.int x0]) (S := [.int (if x0 = 0 then 1 else (if x0 = 1 then 1 else (if x0 = 2 then 1 else 0)))]) ?_ (fun hK => ?_)
  · exact kg_iret hk_122 rfl (Or.inr (w_boi rfl (w_boi rfl (w_boi rfl rfl)))) (by rw [hv])
  · by_cases c1 : x0 = 0
    · have hK := kv_T c1 hK
      refine kg_ifT hk_122 rfl (jc_T0 c1) ?_
      refine kg_push (x := 1) hk_122 rfl (by decide) rfl ?_
      refine kg_goto hk_122 rfl ?_
      exact hK
    · have hK := kv_F c1 hK
      refine kg_ifF hk_122 rfl (jc_F0 c1) rfl ?_
      refine kg_iload hk_122 rfl rfl rfl ?_
      refine kg_push (x := 1) hk_122 rfl (by decide) rfl ?_
      by_cases c2 : x0 = 1
      · have hK := kv_T c2 hK
        refine kg_icT hk_122 rfl (jc_T0 c2) ?_
        refine kg_push (x := 1) hk_122 rfl (by decide) rfl ?_
        refine kg_goto hk_122 rfl ?_
        exact hK
      · have hK := kv_F c2 hK
        refine kg_icF hk_122 rfl (jc_F0 c2) rfl ?_
        refine kg_iload hk_122 rfl rfl rfl ?_
        refine kg_push (x := 2) hk_122 rfl (by decide) rfl ?_
        by_cases c3 : x0 = 2
        · have hK := kv_T c3 hK
          refine kg_icF hk_122 rfl (jc_F1 c3) rfl ?_
          refine kg_push (x := 1) hk_122 rfl (by decide) rfl ?_
          refine kg_goto hk_122 rfl ?_
          exact hK
        · have hK := kv_F c3 hK
          refine kg_icT hk_122 rfl (jc_T1 c3) ?_
          refine kg_push (x := 0) hk_122 rfl (by decide) rfl ?_
          exact hK
-- NotebookWeir.fault(II)I
theorem hk_98 : jP[98]? = some (jc_98, 3, [], []) := by rfl
def p_98 (h : Hp) (x1 : Int32) (x2 : Int32) : Option ((Int32 ⊕ Nat) × Hp) :=
  if (v_121 x1) = 0 then
    (some ((.inr 0), h))
  else
    (if (v_122 x2) = 0 then
      (some ((.inr 0), h))
    else
      (w_gd (w_ix x1 2) <|
      (p_35 h (2 * x1.toNatClampNeg + 48) x2).bind fun v5 =>
      some ((.inl v5.1), v5.2)))
theorem p_98_ok {X : List Int32}  {h : Hp} {x1 : Int32} {x2 : Int32}  {r : (Int32 ⊕ Nat) × Hp} (hF : p_98 h x1 x2 = some r) : k_Ev X 257 98 [.ref (0 + 1), .int x1, .int x2] h (w_th r.1, r.2) := by
  refine k_of hk_98 ?_
  show k_Go X 257 98 (0, [.ref (0 + 1), .int x1, .int x2], []) h _
  unfold p_98 at hF
  refine kg_iload hk_98 rfl rfl rfl ?_
  refine kg_call (as := [.int x1]) (rest := []) hk_98 rfl (Or.inl rfl) rfl rfl rfl (Nat.not_lt.mpr (Nat.le_of_ble_eq_true rfl)) (v_121_ok) (by decide) rfl ?_
  refine wf_if hF (fun c1 hF => ?_) (fun c1 hF => ?_)
  · refine kg_ifT hk_98 rfl (jc_T0 c1) ?_
    have hF := Option.some.inj hF
    subst hF
    exact kg_throw hk_98 rfl (Nat.not_lt.mpr (Nat.le_of_ble_eq_true rfl)) rfl
  · refine kg_ifF hk_98 rfl (jc_F0 c1) rfl ?_
    refine kg_iload hk_98 rfl rfl rfl ?_
    refine kg_call (as := [.int x2]) (rest := []) hk_98 rfl (Or.inl rfl) rfl rfl rfl (Nat.not_lt.mpr (Nat.le_of_ble_eq_true rfl)) (v_122_ok) (by decide) rfl ?_
    refine wf_if hF (fun c2 hF => ?_) (fun c2 hF => ?_)
    · refine kg_ifF hk_98 rfl (jc_F1 c2) rfl ?_
      have hF := Option.some.inj hF
      subst hF
      exact kg_throw hk_98 rfl (Nat.not_lt.mpr (Nat.le_of_ble_eq_true rfl)) rfl
    · refine kg_ifT hk_98 rfl (jc_T1 c2) ?_
      refine kg_aload hk_98 rfl rfl rfl ?_
      refine kg_get (v := .ref (17 + 1)) hk_98 rfl wk_0_5 rfl rfl ?_
      refine kg_aload hk_98 rfl rfl rfl ?_
      refine kg_get (v := .ref (1 + 1)) hk_98 rfl wk_0_0 rfl rfl ?_
      refine kg_iload hk_98 rfl rfl rfl ?_
      refine wf_gd hF (fun g3 hF => ?_)
      have he4 := w_E we_60 wc_1 g3
      refine kg_aald (y := (2 * x1.toNatClampNeg + 48)) hk_98 rfl g3 he4.1 rfl ?_
      refine kg_iload hk_98 rfl rfl rfl ?_
      refine kg_aload hk_98 rfl rfl rfl ?_
      refine kg_get (v := .ref (24 + 1)) hk_98 rfl wk_0_6 rfl rfl ?_
      refine wf_bind hF (fun v5 hv5 hF => ?_)
      refine kg_call (as := [.ref (17 + 1), .ref ((2 * x1.toNatClampNeg + 48) + 1), .int x2, .ref (24 + 1)]) (rest := []) hk_98 rfl (Or.inr (Or.inr (Or.inr ⟨Or.inl rfl, _, _, rfl, wc_17⟩))) rfl rfl rfl (Nat.not_lt.mpr (Nat.le_of_ble_eq_true rfl)) (p_35_ok he4.2 hv5) (by decide) rfl ?_
      have hF := Option.some.inj hF
      subst hF
      exact kg_iret hk_98 rfl (Or.inl rfl) rfl
-- NotebookWeir.takeTyped(ILNotebookWeir$Cell;I)Z
theorem hk_128 : jP[128]? = some (jc_128, 4, [], []) := by rfl
def q_128_18 (h : Hp) (x1 : Int32) (x3 : Int32) : Option (Int32 × Hp) :=
  w_gd (w_ix x1 2) <|
  (p_57 h (2 * x1.toNatClampNeg + 48)).bind fun v9 =>
  some ((if x3 = (-1) then 1 else 0), v9)
theorem q_128_18_ok {X : List Int32}   {h : Hp} {x1 : Int32} {x3 : Int32}  {r : Int32 × Hp} (hF : q_128_18 h x1 x3 = some r)  : ∀ (u2 : Value), k_Go X 1 128 (18, [.ref (0 + 1), .int x1, u2, .int x3], []) h (.inl (some (.int r.1)), r.2) := by
  intro u2
  unfold q_128_18 at hF
  refine kg_aload hk_128 rfl rfl rfl ?_
  refine kg_get (v := .ref (1 + 1)) hk_128 rfl wk_0_0 rfl rfl ?_
  refine kg_iload hk_128 rfl rfl rfl ?_
  refine wf_gd hF (fun g7 hF => ?_)
  have he8 := w_E we_60 wc_1 g7
  refine kg_aald (y := (2 * x1.toNatClampNeg + 48)) hk_128 rfl g7 he8.1 rfl ?_
  refine wf_bind hF (fun v9 hv9 hF => ?_)
  refine kg_call (as := [.ref ((2 * x1.toNatClampNeg + 48) + 1)]) (rest := []) hk_128 rfl (Or.inr (Or.inr (Or.inr ⟨Or.inl rfl, _, _, rfl, he8.2⟩))) rfl rfl rfl (Nat.not_lt.mpr (Nat.le_of_ble_eq_true rfl)) (p_57_ok he8.2 hv9) (by decide) rfl ?_
  refine kg_iload hk_128 rfl rfl rfl ?_
  refine kg_push (x := (-1)) hk_128 rfl (by decide) rfl ?_
  refine kv_mid (p := 29) (L := [.ref (0 + 1), .int x1, u2, .int x3]) (S := [.int (if x3 = (-1) then 1 else 0)]) ?_ (fun hK => ?_)
  · have hF := Option.some.inj hF
    subst hF
    exact kg_iret hk_128 rfl (Or.inr (w_boi rfl rfl)) rfl
  · by_cases c10 : x3 = (-1)
    · have hK := kv_T c10 hK
      refine kg_icF hk_128 rfl (jc_F1 c10) rfl ?_
      refine kg_push (x := 1) hk_128 rfl (by decide) rfl ?_
      refine kg_goto hk_128 rfl ?_
      exact hK
    · have hK := kv_F c10 hK
      refine kg_icT hk_128 rfl (jc_T1 c10) ?_
      refine kg_push (x := 0) hk_128 rfl (by decide) rfl ?_
      exact hK
def p_128 (h : Hp) (x1 : Int32) (q2 : Nat) (x3 : Int32) : Option (Int32 × Hp) :=
  if x3 = (-1) then
    (w_gd (w_ix x1 2) <|
    (p_61 h (q2 + 1) (2 * x1.toNatClampNeg + 48)).bind fun v4 =>
    (p_9 v4 (q2 + 3) 24).bind fun v5 =>
    w_let (w_up v5 q2 15 0) fun h6 =>
    q_128_18 h6 x1 x3)
  else
    (q_128_18 h x1 x3)
theorem p_128_ok {X : List Int32}  {h : Hp} {x1 : Int32} {q2 : Nat} {x3 : Int32} (t2 : w_ob q2 0) {r : Int32 × Hp} (hF : p_128 h x1 q2 x3 = some r) : k_Ev X 1 128 [.ref (0 + 1), .int x1, .ref (q2 + 1), .int x3] h (.inl (some (.int r.1)), r.2) := by
  refine k_of hk_128 ?_
  show k_Go X 1 128 (0, [.ref (0 + 1), .int x1, .ref (q2 + 1), .int x3], []) h _
  unfold p_128 at hF
  refine kg_iload hk_128 rfl rfl rfl ?_
  refine kg_push (x := (-1)) hk_128 rfl (by decide) rfl ?_
  refine wf_if hF (fun c1 hF => ?_) (fun c1 hF => ?_)
  · refine kg_icF hk_128 rfl (jc_F1 c1) rfl ?_
    refine kg_aload hk_128 rfl rfl rfl ?_
    refine kg_get (v := .ref ((q2 + 1) + 1)) hk_128 rfl (wf_0_0 t2) rfl rfl ?_
    refine kg_aload hk_128 rfl rfl rfl ?_
    refine kg_get (v := .ref (1 + 1)) hk_128 rfl wk_0_0 rfl rfl ?_
    refine kg_iload hk_128 rfl rfl rfl ?_
    refine wf_gd hF (fun g2 hF => ?_)
    have he3 := w_E we_60 wc_1 g2
    refine kg_aald (y := (2 * x1.toNatClampNeg + 48)) hk_128 rfl g2 he3.1 rfl ?_
    refine wf_bind hF (fun v4 hv4 hF => ?_)
    refine kg_call (as := [.ref ((q2 + 1) + 1), .ref ((2 * x1.toNatClampNeg + 48) + 1)]) (rest := []) hk_128 rfl (Or.inr (Or.inr (Or.inr ⟨Or.inl rfl, _, _, rfl, (wo_0_0 t2)⟩))) rfl rfl rfl (Nat.not_lt.mpr (Nat.le_of_ble_eq_true rfl)) (p_61_ok (wo_0_0 t2) he3.2 hv4) (by decide) rfl ?_
    refine kg_aload hk_128 rfl rfl rfl ?_
    refine kg_get (v := .ref ((q2 + 3) + 1)) hk_128 rfl (wf_0_1 t2) rfl rfl ?_
    refine kg_aload hk_128 rfl rfl rfl ?_
    refine kg_get (v := .ref (24 + 1)) hk_128 rfl wk_0_6 rfl rfl ?_
    refine wf_bind hF (fun v5 hv5 hF => ?_)
    refine kg_call (as := [.ref ((q2 + 3) + 1), .ref (24 + 1)]) (rest := []) hk_128 rfl (Or.inr (Or.inr (Or.inr ⟨Or.inl rfl, _, _, rfl, (wo_0_1 t2)⟩))) rfl rfl rfl (Nat.not_lt.mpr (Nat.le_of_ble_eq_true rfl)) (p_9_ok (wo_0_1 t2) wc_24 hv5) (by decide) rfl ?_
    refine kg_aload hk_128 rfl rfl rfl ?_
    refine kg_push (x := 0) hk_128 rfl (by decide) rfl ?_
    refine wf_let hF (fun h6 hh6 hF => ?_)
    refine kg_put hk_128 rfl (wf_0_15 t2) rfl (w_fitB rfl) hh6 rfl ?_
    exact q_128_18_ok hF _
  · refine kg_icT hk_128 rfl (jc_T1 c1) ?_
    exact q_128_18_ok hF _
-- NotebookWeir.weaveAnew()V
theorem hk_129 : jP[129]? = some (jc_129, 1, [], []) := by rfl
def p_129 (h : Hp) : Option (Hp) :=
  (p_78 h (h 0 10)).bind fun v1 =>
  w_let (w_up v1 0 17 0) fun h2 =>
  some h2
theorem p_129_ok {X : List Int32}  {h : Hp}   {r : Hp} (hF : p_129 h = some r) : k_Ev X 5 129 [.ref (0 + 1)] h (.inl none, r) := by
  refine k_of hk_129 ?_
  show k_Go X 5 129 (0, [.ref (0 + 1)], []) h _
  unfold p_129 at hF
  refine kg_aload hk_129 rfl rfl rfl ?_
  refine kg_get (v := .ref (11 + 1)) hk_129 rfl wk_0_4 rfl rfl ?_
  refine kg_aload hk_129 rfl rfl rfl ?_
  refine kg_get (v := .ref (2 + 1)) hk_129 rfl wk_0_1 rfl rfl ?_
  refine kg_aload hk_129 rfl rfl rfl ?_
  refine kg_get (v := .int (h 0 10)) hk_129 rfl wk_0_10 rfl rfl ?_
  refine kg_aload hk_129 rfl rfl rfl ?_
  refine kg_get (v := .ref (4 + 1)) hk_129 rfl wk_0_3 rfl rfl ?_
  refine wf_bind hF (fun v1 hv1 hF => ?_)
  refine kg_call (as := [.ref (11 + 1), .ref (2 + 1), .int (h 0 10), .ref (4 + 1)]) (rest := []) hk_129 rfl (Or.inr (Or.inr (Or.inr ⟨Or.inl rfl, _, _, rfl, wc_11⟩))) rfl rfl rfl (Nat.not_lt.mpr (Nat.le_of_ble_eq_true rfl)) (p_78_ok hv1) (by decide) rfl ?_
  refine kg_aload hk_129 rfl rfl rfl ?_
  refine kg_push (x := 0) hk_129 rfl (by decide) rfl ?_
  refine wf_let hF (fun h2 hh2 hF => ?_)
  refine kg_put hk_129 rfl wk_0_17 rfl (w_fitB rfl) hh2 rfl ?_
  have hF := Option.some.inj hF
  subst hF
  exact kg_ret hk_129 rfl rfl
-- NotebookWeir.judgeByNeeds(I)I
theorem hk_133 : jP[133]? = some (jc_133, 5, [], []) := by rfl
def l_133_10 (h : Hp) (x1 : Int32) (x2 : Int32) (x3 : Int32) (x4 : Int32) : Option ((Int32 × Int32) ⊕ (Int32 ⊕ Int32)) :=
  if x4 < (h 0 10) then
    (if (v_126 x2 x4) = 0 then
      (some (.inl (x3, (x4 + 1))))
    else
      (w_gd (w_ix x4 16) <|
      if (h 3 x4.toNatClampNeg) < 2 then
        (w_gd ((if x3 = 0 then (w_ix x4 16) && ((if (h 3 x4.toNatClampNeg) = 1 then true else (w_ix x4 16) && (w_ix x1 16))) else true)) <|
        some (.inl ((if x3 = 0 then (if (h 3 x4.toNatClampNeg) = 1 then 1 else (if (h (64 * x4.toNatClampNeg + 52) 14) ≤ (h (64 * x1.toNatClampNeg + 52) 14) then 0 else 1)) else 1), (x4 + 1))))
      else
        (some (.inr (.inr 3)))))
  else
    (some (.inr (.inl x3)))
theorem l_133_10_st {X : List Int32} {o : kO}  {h : Hp} {x1 : Int32} {x2 : Int32} {x3 : Int32} {x4 : Int32}  {r : (Int32 × Int32) ⊕ (Int32 ⊕ Int32)} (hF : l_133_10 h x1 x2 x3 x4 = some r) (hK : ∀ s' : Int32 × Int32, r = .inl s' → k_Go X 3 133 (10, [.ref (0 + 1), .int x1, .int x2, .int (s'.1), .int (s'.2)], []) h o) (hX0 : ∀ x : Int32, r = .inr (.inl x) → ∀ (u4 : Value), k_Go X 3 133 (51, [.ref (0 + 1), .int x1, .int x2, .int x, u4], []) h o) (hX1 : ∀ x : Int32, r = .inr (.inr x) → (.inl (some (.int x)), h) = o) : k_Go X 3 133 (10, [.ref (0 + 1), .int x1, .int x2, .int x3, .int x4], []) h o := by
  refine kg_iload hk_133 rfl rfl rfl ?_
  refine kg_aload hk_133 rfl rfl rfl ?_
  refine kg_get (v := .int (h 0 10)) hk_133 rfl wk_0_10 rfl rfl ?_
  refine wf_if hF (fun c2 hF => ?_) (fun c2 hF => ?_)
  · refine kg_icF hk_133 rfl (jc_F3 c2) rfl ?_
    refine kg_iload hk_133 rfl rfl rfl ?_
    refine kg_iload hk_133 rfl rfl rfl ?_
    refine kg_call (as := [.int x2, .int x4]) (rest := []) hk_133 rfl (Or.inl rfl) rfl rfl rfl (Nat.not_lt.mpr (Nat.le_of_ble_eq_true rfl)) (v_126_ok) (by decide) rfl ?_
    refine wf_if hF (fun c3 hF => ?_) (fun c3 hF => ?_)
    · refine kg_ifT hk_133 rfl (jc_T0 c3) ?_
      refine kg_iinc (y := (x4 + 1)) (L2 := [.ref (0 + 1), .int x1, .int x2, .int x3, .int (x4 + 1)]) hk_133 rfl rfl rfl rfl rfl ?_
      refine kg_goto hk_133 rfl ?_
      have hF := Option.some.inj hF
      exact hK _ hF.symm
    · refine kg_ifF hk_133 rfl (jc_F0 c3) rfl ?_
      refine kg_aload hk_133 rfl rfl rfl ?_
      refine kg_get (v := .ref (3 + 1)) hk_133 rfl wk_0_2 rfl rfl ?_
      refine kg_iload hk_133 rfl rfl rfl ?_
      refine wf_gd hF (fun g4 hF => ?_)
      refine kg_ald (y := (h 3 x4.toNatClampNeg)) hk_133 rfl wc_3 g4 rfl rfl ?_
      refine kg_push (x := 2) hk_133 rfl (by decide) rfl ?_
      refine wf_if hF (fun c5 hF => ?_) (fun c5 hF => ?_)
      · refine kg_icT hk_133 rfl (jc_T2 c5) ?_
        refine kg_iload hk_133 rfl rfl rfl ?_
        refine wf_gd hF (fun g14 hF => ?_)
        refine kv_mid (p := 48) (L := [.ref (0 + 1), .int x1, .int x2, .int x3, .int x4]) (S := [.int (if x3 = 0 then (if (h 3 x4.toNatClampNeg) = 1 then 1 else (if (h (64 * x4.toNatClampNeg + 52) 14) ≤ (h (64 * x1.toNatClampNeg + 52) 14) then 0 else 1)) else 1)]) ?_ (fun hK => ?_)
        · refine kg_istore (L2 := [.ref (0 + 1), .int x1, .int x2, .int (if x3 = 0 then (if (h 3 x4.toNatClampNeg) = 1 then 1 else (if (h (64 * x4.toNatClampNeg + 52) 14) ≤ (h (64 * x1.toNatClampNeg + 52) 14) then 0 else 1)) else 1), .int x4]) hk_133 rfl (Nat.le_of_ble_eq_true rfl) rfl rfl ?_
          refine kg_iinc (y := (x4 + 1)) (L2 := [.ref (0 + 1), .int x1, .int x2, .int (if x3 = 0 then (if (h 3 x4.toNatClampNeg) = 1 then 1 else (if (h (64 * x4.toNatClampNeg + 52) 14) ≤ (h (64 * x1.toNatClampNeg + 52) 14) then 0 else 1)) else 1), .int (x4 + 1)]) hk_133 rfl rfl rfl rfl rfl ?_
          refine kg_goto hk_133 rfl ?_
          have hF := Option.some.inj hF
          exact hK _ hF.symm
        · have hg := g14
          by_cases c6 : x3 = 0
          · have hg := wv_T c6 hg
            have hK := kv_T c6 hK
            have g7 := wb_1 hg
            have hg := wb_2 hg
            refine kg_ifF hk_133 rfl (jc_F1 c6) rfl ?_
            refine kg_aload hk_133 rfl rfl rfl ?_
            refine kg_get (v := .ref (3 + 1)) hk_133 rfl wk_0_2 rfl rfl ?_
            refine kg_iload hk_133 rfl rfl rfl ?_
            refine kg_ald (y := (h 3 x4.toNatClampNeg)) hk_133 rfl wc_3 g7 rfl rfl ?_
            refine kg_push (x := 1) hk_133 rfl (by decide) rfl ?_
            by_cases c8 : (h 3 x4.toNatClampNeg) = 1
            · have hK := kv_T c8 hK
              refine kg_icT hk_133 rfl (jc_T0 c8) ?_
              refine kg_push (x := 1) hk_133 rfl (by decide) rfl ?_
              refine kg_goto hk_133 rfl ?_
              exact hK
            · have hg := wv_F c8 hg
              have hK := kv_F c8 hK
              have g9 := wb_1 hg
              have hg := wb_2 hg
              have g11 := hg
              refine kg_icF hk_133 rfl (jc_F0 c8) rfl ?_
              refine kg_aload hk_133 rfl rfl rfl ?_
              refine kg_get (v := .ref (2 + 1)) hk_133 rfl wk_0_1 rfl rfl ?_
              refine kg_iload hk_133 rfl rfl rfl ?_
              have he10 := w_E we_61 wc_2 g9
              refine kg_aald (y := (64 * x4.toNatClampNeg + 52)) hk_133 rfl g9 he10.1 rfl ?_
              refine kg_get (v := .int (h (64 * x4.toNatClampNeg + 52) 14)) hk_133 rfl (wf_0_14 he10.2) rfl rfl ?_
              refine kg_aload hk_133 rfl rfl rfl ?_
              refine kg_get (v := .ref (2 + 1)) hk_133 rfl wk_0_1 rfl rfl ?_
              refine kg_iload hk_133 rfl rfl rfl ?_
              have he12 := w_E we_61 wc_2 g11
              refine kg_aald (y := (64 * x1.toNatClampNeg + 52)) hk_133 rfl g11 he12.1 rfl ?_
              refine kg_get (v := .int (h (64 * x1.toNatClampNeg + 52) 14)) hk_133 rfl (wf_0_14 he12.2) rfl rfl ?_
              by_cases c13 : (h (64 * x4.toNatClampNeg + 52) 14) ≤ (h (64 * x1.toNatClampNeg + 52) 14)
              · have hK := kv_T c13 hK
                refine kg_icT hk_133 rfl (jc_T5 c13) ?_
                refine kg_push (x := 0) hk_133 rfl (by decide) rfl ?_
                exact hK
              · have hK := kv_F c13 hK
                refine kg_icF hk_133 rfl (jc_F5 c13) rfl ?_
                refine kg_push (x := 1) hk_133 rfl (by decide) rfl ?_
                refine kg_goto hk_133 rfl ?_
                exact hK
          · have hK := kv_F c6 hK
            refine kg_ifT hk_133 rfl (jc_T1 c6) ?_
            refine kg_push (x := 1) hk_133 rfl (by decide) rfl ?_
            refine kg_goto hk_133 rfl ?_
            exact hK
      · refine kg_icF hk_133 rfl (jc_F2 c5) rfl ?_
        refine kg_push (x := 3) hk_133 rfl (by decide) rfl ?_
        have hF := Option.some.inj hF
        exact kg_iret hk_133 rfl (Or.inl rfl) (hX1 _ hF.symm)
  · refine kg_icT hk_133 rfl (jc_T3 c2) ?_
    have hF := Option.some.inj hF
    exact hX0 _ hF.symm _
theorem l_133_10_ok {X : List Int32} {o : kO}  {h : Hp} {x1 : Int32} {x2 : Int32}  {n : Nat} {s : Int32 × Int32} {e : (Int32 ⊕ Int32)} (hF : w_lp (fun (s : Int32 × Int32) => l_133_10 h x1 x2 s.1 s.2) n s = some e) (hX0 : ∀ x : Int32, e = (.inl x) → ∀ (u4 : Value), k_Go X 3 133 (51, [.ref (0 + 1), .int x1, .int x2, .int x, u4], []) h o) (hX1 : ∀ x : Int32, e = (.inr x) → (.inl (some (.int x)), h) = o) : k_Go X 3 133 (10, [.ref (0 + 1), .int x1, .int x2, .int s.1, .int s.2], []) h o := by
  exact w_lp_ok (P := (fun (s : Int32 × Int32) => k_Go X 3 133 (10, [.ref (0 + 1), .int x1, .int x2, .int s.1, .int s.2], []) h o)) (Q := (fun (e : (Int32 ⊕ Int32)) => (∀ x : Int32, e = (.inl x) → ∀ (u4 : Value), k_Go X 3 133 (51, [.ref (0 + 1), .int x1, .int x2, .int x, u4], []) h o) ∧ (∀ x : Int32, e = (.inr x) → (.inl (some (.int x)), h) = o))) (fun s r hF hK hX => l_133_10_st hF hK (fun x hx => (hX _ hx).1 x rfl) (fun x hx => (hX _ hx).2 x rfl)) n s e hF ⟨hX0, hX1⟩
def p_133 (h : Hp) (x1 : Int32) : Option (Int32) :=
  w_gd (w_ix x1 16) <|
  (w_lp (fun (s : Int32 × Int32) => l_133_10 h x1 (h 14 x1.toNatClampNeg) s.1 s.2) w_N (0, 0)).bind <| (Sum.elim (fun y16 =>
    (if y16 = 0 then
      (w_gd (w_ix x1 16) <|
      (p_5 h (64 * x1.toNatClampNeg + 52) (h 14 x1.toNatClampNeg)).bind fun v21 =>
      if v21 = 0 then
        (some 1)
      else
        (w_gd (w_ix x1 16) <|
        some (if (h (64 * x1.toNatClampNeg + 52) 11) = 0 then 0 else 2)))
    else
      (some 1))) (fun y17 =>
    (some y17)))
theorem p_133_ok {X : List Int32}  {h : Hp} {x1 : Int32}  {r : Int32} (hF : p_133 h x1 = some r) : k_Ev X 3 133 [.ref (0 + 1), .int x1] h (.inl (some (.int r)), h) := by
  refine k_of hk_133 ?_
  show k_Go X 3 133 (0, [.ref (0 + 1), .int x1, (.retAddr 0), (.retAddr 0), (.retAddr 0)], []) h _
  unfold p_133 at hF
  refine kg_aload hk_133 rfl rfl rfl ?_
  refine kg_get (v := .ref (11 + 1)) hk_133 rfl wk_0_4 rfl rfl ?_
  refine kg_get (v := .ref (14 + 1)) hk_133 rfl wk_11_2 rfl rfl ?_
  refine kg_iload hk_133 rfl rfl rfl ?_
  refine wf_gd hF (fun g1 hF => ?_)
  refine kg_ald (y := (h 14 x1.toNatClampNeg)) hk_133 rfl wc_14 g1 rfl rfl ?_
  refine kg_istore (L2 := [.ref (0 + 1), .int x1, .int (h 14 x1.toNatClampNeg), (.retAddr 0), (.retAddr 0)]) hk_133 rfl (Nat.le_of_ble_eq_true rfl) rfl rfl ?_
  refine kg_push (x := 0) hk_133 rfl (by decide) rfl ?_
  refine kg_istore (L2 := [.ref (0 + 1), .int x1, .int (h 14 x1.toNatClampNeg), .int 0, (.retAddr 0)]) hk_133 rfl (Nat.le_of_ble_eq_true rfl) rfl rfl ?_
  refine kg_push (x := 0) hk_133 rfl (by decide) rfl ?_
  refine kg_istore (L2 := [.ref (0 + 1), .int x1, .int (h 14 x1.toNatClampNeg), .int 0, .int 0]) hk_133 rfl (Nat.le_of_ble_eq_true rfl) rfl rfl ?_
  refine wf_bind hF (fun e15 he15 hF => ?_)
  refine l_133_10_ok he15 ?_ ?_
  · intro y16 hx
    subst hx
    refine wf_inl hF (fun hF => ?_)
    intro u4
    refine kg_iload hk_133 rfl rfl rfl ?_
    refine wf_if hF (fun c18 hF => ?_) (fun c18 hF => ?_)
    · refine kg_ifF hk_133 rfl (jc_F1 c18) rfl ?_
      refine kg_aload hk_133 rfl rfl rfl ?_
      refine kg_get (v := .ref (2 + 1)) hk_133 rfl wk_0_1 rfl rfl ?_
      refine kg_iload hk_133 rfl rfl rfl ?_
      refine wf_gd hF (fun g19 hF => ?_)
      have he20 := w_E we_61 wc_2 g19
      refine kg_aald (y := (64 * x1.toNatClampNeg + 52)) hk_133 rfl g19 he20.1 rfl ?_
      refine kg_iload hk_133 rfl rfl rfl ?_
      refine kg_aload hk_133 rfl rfl rfl ?_
      refine kg_get (v := .ref (4 + 1)) hk_133 rfl wk_0_3 rfl rfl ?_
      refine wf_bind hF (fun v21 hv21 hF => ?_)
      refine kg_call (as := [.ref ((64 * x1.toNatClampNeg + 52) + 1), .int (h 14 x1.toNatClampNeg), .ref (4 + 1)]) (rest := []) hk_133 rfl (Or.inr (Or.inr (Or.inr ⟨Or.inl rfl, _, _, rfl, he20.2⟩))) rfl rfl rfl (Nat.not_lt.mpr (Nat.le_of_ble_eq_true rfl)) (p_5_ok he20.2 hv21) (by decide) rfl ?_
      refine wf_if hF (fun c22 hF => ?_) (fun c22 hF => ?_)
      · refine kg_ifF hk_133 rfl (jc_F1 c22) rfl ?_
        refine kg_push (x := 1) hk_133 rfl (by decide) rfl ?_
        have hF := Option.some.inj hF
        subst hF
        exact kg_iret hk_133 rfl (Or.inl rfl) rfl
      · refine kg_ifT hk_133 rfl (jc_T1 c22) ?_
        refine kg_aload hk_133 rfl rfl rfl ?_
        refine kg_get (v := .ref (2 + 1)) hk_133 rfl wk_0_1 rfl rfl ?_
        refine kg_iload hk_133 rfl rfl rfl ?_
        refine wf_gd hF (fun g23 hF => ?_)
        have he24 := w_E we_61 wc_2 g23
        refine kg_aald (y := (64 * x1.toNatClampNeg + 52)) hk_133 rfl g23 he24.1 rfl ?_
        refine kg_get (v := .int (h (64 * x1.toNatClampNeg + 52) 11)) hk_133 rfl (wf_0_11 he24.2) rfl rfl ?_
        refine kv_mid (p := 73) (L := [.ref (0 + 1), .int x1, .int (h 14 x1.toNatClampNeg), .int y16, u4]) (S := [.int (if (h (64 * x1.toNatClampNeg + 52) 11) = 0 then 0 else 2)]) ?_ (fun hK => ?_)
        · have hF := Option.some.inj hF
          subst hF
          exact kg_iret hk_133 rfl (Or.inl rfl) rfl
        · by_cases c25 : (h (64 * x1.toNatClampNeg + 52) 11) = 0
          · have hK := kv_T c25 hK
            refine kg_ifF hk_133 rfl (jc_F1 c25) rfl ?_
            refine kg_push (x := 0) hk_133 rfl (by decide) rfl ?_
            refine kg_goto hk_133 rfl ?_
            exact hK
          · have hK := kv_F c25 hK
            refine kg_ifT hk_133 rfl (jc_T1 c25) ?_
            refine kg_push (x := 2) hk_133 rfl (by decide) rfl ?_
            exact hK
    · refine kg_ifT hk_133 rfl (jc_T1 c18) ?_
      refine kg_push (x := 1) hk_133 rfl (by decide) rfl ?_
      have hF := Option.some.inj hF
      subst hF
      exact kg_iret hk_133 rfl (Or.inl rfl) rfl
  · intro y17 hx
    subst hx
    refine wf_inr hF (fun hF => ?_)
    have hF := Option.some.inj hF
    subst hF
    rfl
-- NotebookWeir.judge()V
theorem hk_132 : jP[132]? = some (jc_132, 3, [], []) := by rfl
def l_132_2 (x1 : Int32) (h : Hp) : Option ((Int32 × Hp) ⊕ Hp) :=
  if x1 < (h 0 10) then
    (w_gd (w_ix x1 16) <|
    w_let (w_up h 3 x1.toNatClampNeg (if (v_126 (h 11 6) x1) = 0 then (if (v_126 (h 11 7) x1) = 0 then 3 else 4) else 5)) fun h5 =>
    some (.inl ((x1 + 1), h5)))
  else
    (some (.inr h))
theorem l_132_2_st {X : List Int32} {o : kO}  {h : Hp} {x1 : Int32}  {r : (Int32 × Hp) ⊕ Hp} (hF : l_132_2 x1 h = some r) (hK : ∀ s' : Int32 × Hp, r = .inl s' → ∀ (u2 : Value), k_Go X 4 132 (2, [.ref (0 + 1), .int (s'.1), u2], []) s'.2 o) (hX0 : ∀ e : Hp, r = .inr e → ∀ (u1 : Value) (u2 : Value), k_Go X 4 132 (29, [.ref (0 + 1), u1, u2], []) e o) : ∀ (u2 : Value), k_Go X 4 132 (2, [.ref (0 + 1), .int x1, u2], []) h o := by
  intro u2
  refine kg_iload hk_132 rfl rfl rfl ?_
  refine kg_aload hk_132 rfl rfl rfl ?_
  refine kg_get (v := .int (h 0 10)) hk_132 rfl wk_0_10 rfl rfl ?_
  refine wf_if hF (fun c1 hF => ?_) (fun c1 hF => ?_)
  · refine kg_icF hk_132 rfl (jc_F3 c1) rfl ?_
    refine kg_aload hk_132 rfl rfl rfl ?_
    refine kg_get (v := .ref (3 + 1)) hk_132 rfl wk_0_2 rfl rfl ?_
    refine kg_iload hk_132 rfl rfl rfl ?_
    refine kg_aload hk_132 rfl rfl rfl ?_
    refine kg_get (v := .ref (11 + 1)) hk_132 rfl wk_0_4 rfl rfl ?_
    refine kg_get (v := .int (h 11 6)) hk_132 rfl wk_11_6 rfl rfl ?_
    refine kg_iload hk_132 rfl rfl rfl ?_
    refine kg_call (as := [.int (h 11 6), .int x1]) (rest := [.int x1, .ref (3 + 1)]) hk_132 rfl (Or.inl rfl) rfl rfl rfl (Nat.not_lt.mpr (Nat.le_of_ble_eq_true rfl)) (v_126_ok) (by decide) rfl ?_
    refine kv_mid (p := 26) (L := [.ref (0 + 1), .int x1, u2]) (S := [.int (if (v_126 (h 11 6) x1) = 0 then (if (v_126 (h 11 7) x1) = 0 then 3 else 4) else 5), .int x1, .ref (3 + 1)]) ?_ (fun hK => ?_)
    · refine wf_gd hF (fun g4 hF => ?_)
      refine wf_let hF (fun h5 hh5 hF => ?_)
      refine kg_ast hk_132 rfl wc_3 g4 (by rw [j_nar50]; exact hh5) rfl ?_
      refine kg_iinc (y := (x1 + 1)) (L2 := [.ref (0 + 1), .int (x1 + 1), u2]) hk_132 rfl rfl rfl rfl rfl ?_
      refine kg_goto hk_132 rfl ?_
      have hF := Option.some.inj hF
      exact hK _ hF.symm _
    · by_cases c2 : (v_126 (h 11 6) x1) = 0
      · have hK := kv_T c2 hK
        refine kg_ifT hk_132 rfl (jc_T0 c2) ?_
        refine kg_aload hk_132 rfl rfl rfl ?_
        refine kg_get (v := .ref (11 + 1)) hk_132 rfl wk_0_4 rfl rfl ?_
        refine kg_get (v := .int (h 11 7)) hk_132 rfl wk_11_7 rfl rfl ?_
        refine kg_iload hk_132 rfl rfl rfl ?_
        refine kg_call (as := [.int (h 11 7), .int x1]) (rest := [.int x1, .ref (3 + 1)]) hk_132 rfl (Or.inl rfl) rfl rfl rfl (Nat.not_lt.mpr (Nat.le_of_ble_eq_true rfl)) (v_126_ok) (by decide) rfl ?_
        by_cases c3 : (v_126 (h 11 7) x1) = 0
        · have hK := kv_T c3 hK
          refine kg_ifT hk_132 rfl (jc_T0 c3) ?_
          refine kg_push (x := 3) hk_132 rfl (by decide) rfl ?_
          exact hK
        · have hK := kv_F c3 hK
          refine kg_ifF hk_132 rfl (jc_F0 c3) rfl ?_
          refine kg_push (x := 4) hk_132 rfl (by decide) rfl ?_
          refine kg_goto hk_132 rfl ?_
          exact hK
      · have hK := kv_F c2 hK
        refine kg_ifF hk_132 rfl (jc_F0 c2) rfl ?_
        refine kg_push (x := 5) hk_132 rfl (by decide) rfl ?_
        refine kg_goto hk_132 rfl ?_
        exact hK
  · refine kg_icT hk_132 rfl (jc_T3 c1) ?_
    have hF := Option.some.inj hF
    exact hX0 _ hF.symm _ _
theorem l_132_2_ok {X : List Int32} {o : kO}    {n : Nat} {s : Int32 × Hp} {e : Hp} (hF : w_lp (fun (s : Int32 × Hp) => l_132_2 s.1 s.2) n s = some e) (hX0 : ∀ (u1 : Value) (u2 : Value), k_Go X 4 132 (29, [.ref (0 + 1), u1, u2], []) e o) : ∀ (u2 : Value), k_Go X 4 132 (2, [.ref (0 + 1), .int s.1, u2], []) s.2 o := by
  exact w_lp_ok (P := (fun (s : Int32 × Hp) => ∀ (u2 : Value), k_Go X 4 132 (2, [.ref (0 + 1), .int s.1, u2], []) s.2 o)) (Q := (fun (e : Hp) => (∀ (u1 : Value) (u2 : Value), k_Go X 4 132 (29, [.ref (0 + 1), u1, u2], []) e o))) (fun s r hF hK hX => l_132_2_st hF hK (fun x hx => (hX _ hx))) n s e hF hX0
def l_132_31 (x1 : Int32) (h : Hp) : Option ((Int32 × Hp) ⊕ Hp) :=
  if x1 < (h 11 5) then
    (w_gd (w_ix x1 16) <|
    (p_133 h (h 16 x1.toNatClampNeg)).bind fun v9 =>
    w_gd (w_ix (h 16 x1.toNatClampNeg) 16) <|
    w_let (w_up h 3 ((h 16 x1.toNatClampNeg).toNatClampNeg) v9) fun h11 =>
    some (.inl ((x1 + 1), h11)))
  else
    (some (.inr h))
theorem l_132_31_st {X : List Int32} {o : kO}  {h : Hp} {x1 : Int32}  {r : (Int32 × Hp) ⊕ Hp} (hF : l_132_31 x1 h = some r) (hK : ∀ s' : Int32 × Hp, r = .inl s' → ∀ (u2 : Value), k_Go X 4 132 (31, [.ref (0 + 1), .int (s'.1), u2], []) s'.2 o) (hX0 : ∀ e : Hp, r = .inr e → (.inl none, e) = o) : ∀ (u2 : Value), k_Go X 4 132 (31, [.ref (0 + 1), .int x1, u2], []) h o := by
  intro u2
  refine kg_iload hk_132 rfl rfl rfl ?_
  refine kg_aload hk_132 rfl rfl rfl ?_
  refine kg_get (v := .ref (11 + 1)) hk_132 rfl wk_0_4 rfl rfl ?_
  refine kg_get (v := .int (h 11 5)) hk_132 rfl wk_11_5 rfl rfl ?_
  refine wf_if hF (fun c7 hF => ?_) (fun c7 hF => ?_)
  · refine kg_icF hk_132 rfl (jc_F3 c7) rfl ?_
    refine kg_aload hk_132 rfl rfl rfl ?_
    refine kg_get (v := .ref (11 + 1)) hk_132 rfl wk_0_4 rfl rfl ?_
    refine kg_get (v := .ref (16 + 1)) hk_132 rfl wk_11_4 rfl rfl ?_
    refine kg_iload hk_132 rfl rfl rfl ?_
    refine wf_gd hF (fun g8 hF => ?_)
    refine kg_ald (y := (h 16 x1.toNatClampNeg)) hk_132 rfl wc_16 g8 rfl rfl ?_
    refine kg_istore (L2 := [.ref (0 + 1), .int x1, .int (h 16 x1.toNatClampNeg)]) hk_132 rfl (Nat.le_of_ble_eq_true rfl) rfl rfl ?_
    refine kg_aload hk_132 rfl rfl rfl ?_
    refine kg_get (v := .ref (3 + 1)) hk_132 rfl wk_0_2 rfl rfl ?_
    refine kg_iload hk_132 rfl rfl rfl ?_
    refine kg_aload hk_132 rfl rfl rfl ?_
    refine kg_iload hk_132 rfl rfl rfl ?_
    refine wf_bind hF (fun v9 hv9 hF => ?_)
    refine kg_call (as := [.ref (0 + 1), .int (h 16 x1.toNatClampNeg)]) (rest := [.int (h 16 x1.toNatClampNeg), .ref (3 + 1)]) hk_132 rfl (Or.inr (Or.inr (Or.inr ⟨Or.inl rfl, _, _, rfl, wc_0⟩))) rfl rfl rfl (Nat.not_lt.mpr (Nat.le_of_ble_eq_true rfl)) (p_133_ok hv9) (by decide) rfl ?_
    refine wf_gd hF (fun g10 hF => ?_)
    refine wf_let hF (fun h11 hh11 hF => ?_)
    refine kg_ast hk_132 rfl wc_3 g10 (by rw [j_nar50]; exact hh11) rfl ?_
    refine kg_iinc (y := (x1 + 1)) (L2 := [.ref (0 + 1), .int (x1 + 1), .int (h 16 x1.toNatClampNeg)]) hk_132 rfl rfl rfl rfl rfl ?_
    refine kg_goto hk_132 rfl ?_
    have hF := Option.some.inj hF
    exact hK _ hF.symm _
  · refine kg_icT hk_132 rfl (jc_T3 c7) ?_
    have hF := Option.some.inj hF
    exact kg_ret hk_132 rfl (hX0 _ hF.symm)
theorem l_132_31_ok {X : List Int32} {o : kO}    {n : Nat} {s : Int32 × Hp} {e : Hp} (hF : w_lp (fun (s : Int32 × Hp) => l_132_31 s.1 s.2) n s = some e) (hX0 : (.inl none, e) = o) : ∀ (u2 : Value), k_Go X 4 132 (31, [.ref (0 + 1), .int s.1, u2], []) s.2 o := by
  exact w_lp_ok (P := (fun (s : Int32 × Hp) => ∀ (u2 : Value), k_Go X 4 132 (31, [.ref (0 + 1), .int s.1, u2], []) s.2 o)) (Q := (fun (e : Hp) => ((.inl none, e) = o))) (fun s r hF hK hX => l_132_31_st hF hK (fun x hx => (hX _ hx))) n s e hF hX0
def p_132 (h : Hp) : Option (Hp) :=
  (w_lp (fun (s : Int32 × Hp) => l_132_2 s.1 s.2) w_N (0, h)).bind fun e6 =>
  w_lp (fun (s : Int32 × Hp) => l_132_31 s.1 s.2) w_N (0, e6)
theorem p_132_ok {X : List Int32}  {h : Hp}   {r : Hp} (hF : p_132 h = some r) : k_Ev X 4 132 [.ref (0 + 1)] h (.inl none, r) := by
  refine k_of hk_132 ?_
  show k_Go X 4 132 (0, [.ref (0 + 1), (.retAddr 0), (.retAddr 0)], []) h _
  unfold p_132 at hF
  refine kg_push (x := 0) hk_132 rfl (by decide) rfl ?_
  refine kg_istore (L2 := [.ref (0 + 1), .int 0, (.retAddr 0)]) hk_132 rfl (Nat.le_of_ble_eq_true rfl) rfl rfl ?_
  refine wf_bind hF (fun e6 he6 hF => ?_)
  refine l_132_2_ok he6 ?_ _
  intro u1 u2
  refine kg_push (x := 0) hk_132 rfl (by decide) rfl ?_
  refine kg_istore (L2 := [.ref (0 + 1), .int 0, u2]) hk_132 rfl (Nat.le_of_ble_eq_true rfl) rfl rfl ?_
  exact l_132_31_ok hF rfl _
-- NotebookWeir.areNeedsFresh(I)Z
theorem hk_136 : jP[136]? = some (jc_136, 3, [], []) := by rfl
def l_136_2 (h : Hp) (x1 : Int32) (x2 : Int32) : Option ((Int32) ⊕ Int32) :=
  if x2 < (h 0 10) then
    (w_gd (w_ix x1 16) <|
    if (v_126 (h 14 x1.toNatClampNeg) x2) = 0 then
      (some (.inl (x2 + 1)))
    else
      (w_gd (w_ix x2 16) <|
      if (h 3 x2.toNatClampNeg) = 0 then
        (some (.inl (x2 + 1)))
      else
        (some (.inr 0))))
  else
    (some (.inr 1))
theorem l_136_2_st {X : List Int32} {o : kO}  {h : Hp} {x1 : Int32} {x2 : Int32}  {r : (Int32) ⊕ Int32} (hF : l_136_2 h x1 x2 = some r) (hK : ∀ s' : Int32, r = .inl s' → k_Go X 1 136 (2, [.ref (0 + 1), .int x1, .int (s')], []) h o) (hX0 : ∀ e : Int32, r = .inr e → (.inl (some (.int e)), h) = o) : k_Go X 1 136 (2, [.ref (0 + 1), .int x1, .int x2], []) h o := by
  refine kg_iload hk_136 rfl rfl rfl ?_
  refine kg_aload hk_136 rfl rfl rfl ?_
  refine kg_get (v := .int (h 0 10)) hk_136 rfl wk_0_10 rfl rfl ?_
  refine wf_if hF (fun c1 hF => ?_) (fun c1 hF => ?_)
  · refine kg_icF hk_136 rfl (jc_F3 c1) rfl ?_
    refine kg_aload hk_136 rfl rfl rfl ?_
    refine kg_get (v := .ref (11 + 1)) hk_136 rfl wk_0_4 rfl rfl ?_
    refine kg_get (v := .ref (14 + 1)) hk_136 rfl wk_11_2 rfl rfl ?_
    refine kg_iload hk_136 rfl rfl rfl ?_
    refine wf_gd hF (fun g2 hF => ?_)
    refine kg_ald (y := (h 14 x1.toNatClampNeg)) hk_136 rfl wc_14 g2 rfl rfl ?_
    refine kg_iload hk_136 rfl rfl rfl ?_
    refine kg_call (as := [.int (h 14 x1.toNatClampNeg), .int x2]) (rest := []) hk_136 rfl (Or.inl rfl) rfl rfl rfl (Nat.not_lt.mpr (Nat.le_of_ble_eq_true rfl)) (v_126_ok) (by decide) rfl ?_
    refine wf_if hF (fun c3 hF => ?_) (fun c3 hF => ?_)
    · refine kg_ifT hk_136 rfl (jc_T0 c3) ?_
      refine kg_iinc (y := (x2 + 1)) (L2 := [.ref (0 + 1), .int x1, .int (x2 + 1)]) hk_136 rfl rfl rfl rfl rfl ?_
      refine kg_goto hk_136 rfl ?_
      have hF := Option.some.inj hF
      exact hK _ hF.symm
    · refine kg_ifF hk_136 rfl (jc_F0 c3) rfl ?_
      refine kg_aload hk_136 rfl rfl rfl ?_
      refine kg_get (v := .ref (3 + 1)) hk_136 rfl wk_0_2 rfl rfl ?_
      refine kg_iload hk_136 rfl rfl rfl ?_
      refine wf_gd hF (fun g4 hF => ?_)
      refine kg_ald (y := (h 3 x2.toNatClampNeg)) hk_136 rfl wc_3 g4 rfl rfl ?_
      refine wf_if hF (fun c5 hF => ?_) (fun c5 hF => ?_)
      · refine kg_ifT hk_136 rfl (jc_T0 c5) ?_
        refine kg_iinc (y := (x2 + 1)) (L2 := [.ref (0 + 1), .int x1, .int (x2 + 1)]) hk_136 rfl rfl rfl rfl rfl ?_
        refine kg_goto hk_136 rfl ?_
        have hF := Option.some.inj hF
        exact hK _ hF.symm
      · refine kg_ifF hk_136 rfl (jc_F0 c5) rfl ?_
        refine kg_push (x := 0) hk_136 rfl (by decide) rfl ?_
        have hF := Option.some.inj hF
        exact kg_iret hk_136 rfl (Or.inr rfl) (hX0 _ hF.symm)
  · refine kg_icT hk_136 rfl (jc_T3 c1) ?_
    refine kg_push (x := 1) hk_136 rfl (by decide) rfl ?_
    have hF := Option.some.inj hF
    exact kg_iret hk_136 rfl (Or.inr rfl) (hX0 _ hF.symm)
theorem l_136_2_ok {X : List Int32} {o : kO}  {h : Hp} {x1 : Int32}  {n : Nat} {s : Int32} {e : Int32} (hF : w_lp (fun (s : Int32) => l_136_2 h x1 s) n s = some e) (hX0 : (.inl (some (.int e)), h) = o) : k_Go X 1 136 (2, [.ref (0 + 1), .int x1, .int s], []) h o := by
  exact w_lp_ok (P := (fun (s : Int32) => k_Go X 1 136 (2, [.ref (0 + 1), .int x1, .int s], []) h o)) (Q := (fun (e : Int32) => ((.inl (some (.int e)), h) = o))) (fun s r hF hK hX => l_136_2_st hF hK (fun x hx => (hX _ hx))) n s e hF hX0
def p_136 (h : Hp) (x1 : Int32) : Option (Int32) :=
  w_lp (fun (s : Int32) => l_136_2 h x1 s) w_N 0
theorem p_136_ok {X : List Int32}  {h : Hp} {x1 : Int32}  {r : Int32} (hF : p_136 h x1 = some r) : k_Ev X 1 136 [.ref (0 + 1), .int x1] h (.inl (some (.int r)), h) := by
  refine k_of hk_136 ?_
  show k_Go X 1 136 (0, [.ref (0 + 1), .int x1, (.retAddr 0)], []) h _
  unfold p_136 at hF
  refine kg_push (x := 0) hk_136 rfl (by decide) rfl ?_
  refine kg_istore (L2 := [.ref (0 + 1), .int x1, .int 0]) hk_136 rfl (Nat.le_of_ble_eq_true rfl) rfl rfl ?_
  exact l_136_2_ok hF rfl
-- NotebookWeir.lowestReady(I)I
theorem hk_135 : jP[135]? = some (jc_135, 3, [], []) := by rfl
def l_135_2 (h : Hp) (x1 : Int32) (x2 : Int32) : Option ((Int32) ⊕ Int32) :=
  if x2 < (h 0 10) then
    (if (v_126 x1 x2) = 0 then
      (some (.inl (x2 + 1)))
    else
      (w_gd (w_ix x2 16) <|
      if (h 3 x2.toNatClampNeg) = 1 then
        ((p_136 h x2).bind fun v5 =>
        if v5 = 0 then
          (some (.inl (x2 + 1)))
        else
          (some (.inr x2)))
      else
        (some (.inl (x2 + 1)))))
  else
    (some (.inr (-1)))
theorem l_135_2_st {X : List Int32} {o : kO}  {h : Hp} {x1 : Int32} {x2 : Int32}  {r : (Int32) ⊕ Int32} (hF : l_135_2 h x1 x2 = some r) (hK : ∀ s' : Int32, r = .inl s' → k_Go X 2 135 (2, [.ref (0 + 1), .int x1, .int (s')], []) h o) (hX0 : ∀ e : Int32, r = .inr e → (.inl (some (.int e)), h) = o) : k_Go X 2 135 (2, [.ref (0 + 1), .int x1, .int x2], []) h o := by
  refine kg_iload hk_135 rfl rfl rfl ?_
  refine kg_aload hk_135 rfl rfl rfl ?_
  refine kg_get (v := .int (h 0 10)) hk_135 rfl wk_0_10 rfl rfl ?_
  refine wf_if hF (fun c1 hF => ?_) (fun c1 hF => ?_)
  · refine kg_icF hk_135 rfl (jc_F3 c1) rfl ?_
    refine kg_iload hk_135 rfl rfl rfl ?_
    refine kg_iload hk_135 rfl rfl rfl ?_
    refine kg_call (as := [.int x1, .int x2]) (rest := []) hk_135 rfl (Or.inl rfl) rfl rfl rfl (Nat.not_lt.mpr (Nat.le_of_ble_eq_true rfl)) (v_126_ok) (by decide) rfl ?_
    refine wf_if hF (fun c2 hF => ?_) (fun c2 hF => ?_)
    · refine kg_ifT hk_135 rfl (jc_T0 c2) ?_
      refine kg_iinc (y := (x2 + 1)) (L2 := [.ref (0 + 1), .int x1, .int (x2 + 1)]) hk_135 rfl rfl rfl rfl rfl ?_
      refine kg_goto hk_135 rfl ?_
      have hF := Option.some.inj hF
      exact hK _ hF.symm
    · refine kg_ifF hk_135 rfl (jc_F0 c2) rfl ?_
      refine kg_aload hk_135 rfl rfl rfl ?_
      refine kg_get (v := .ref (3 + 1)) hk_135 rfl wk_0_2 rfl rfl ?_
      refine kg_iload hk_135 rfl rfl rfl ?_
      refine wf_gd hF (fun g3 hF => ?_)
      refine kg_ald (y := (h 3 x2.toNatClampNeg)) hk_135 rfl wc_3 g3 rfl rfl ?_
      refine kg_push (x := 1) hk_135 rfl (by decide) rfl ?_
      refine wf_if hF (fun c4 hF => ?_) (fun c4 hF => ?_)
      · refine kg_icF hk_135 rfl (jc_F1 c4) rfl ?_
        refine kg_aload hk_135 rfl rfl rfl ?_
        refine kg_iload hk_135 rfl rfl rfl ?_
        refine wf_bind hF (fun v5 hv5 hF => ?_)
        refine kg_call (as := [.ref (0 + 1), .int x2]) (rest := []) hk_135 rfl (Or.inr (Or.inr (Or.inr ⟨Or.inl rfl, _, _, rfl, wc_0⟩))) rfl rfl rfl (Nat.not_lt.mpr (Nat.le_of_ble_eq_true rfl)) (p_136_ok hv5) (by decide) rfl ?_
        refine wf_if hF (fun c6 hF => ?_) (fun c6 hF => ?_)
        · refine kg_ifT hk_135 rfl (jc_T0 c6) ?_
          refine kg_iinc (y := (x2 + 1)) (L2 := [.ref (0 + 1), .int x1, .int (x2 + 1)]) hk_135 rfl rfl rfl rfl rfl ?_
          refine kg_goto hk_135 rfl ?_
          have hF := Option.some.inj hF
          exact hK _ hF.symm
        · refine kg_ifF hk_135 rfl (jc_F0 c6) rfl ?_
          refine kg_iload hk_135 rfl rfl rfl ?_
          have hF := Option.some.inj hF
          exact kg_iret hk_135 rfl (Or.inl rfl) (hX0 _ hF.symm)
      · refine kg_icT hk_135 rfl (jc_T1 c4) ?_
        refine kg_iinc (y := (x2 + 1)) (L2 := [.ref (0 + 1), .int x1, .int (x2 + 1)]) hk_135 rfl rfl rfl rfl rfl ?_
        refine kg_goto hk_135 rfl ?_
        have hF := Option.some.inj hF
        exact hK _ hF.symm
  · refine kg_icT hk_135 rfl (jc_T3 c1) ?_
    refine kg_push (x := (-1)) hk_135 rfl (by decide) rfl ?_
    have hF := Option.some.inj hF
    exact kg_iret hk_135 rfl (Or.inl rfl) (hX0 _ hF.symm)
theorem l_135_2_ok {X : List Int32} {o : kO}  {h : Hp} {x1 : Int32}  {n : Nat} {s : Int32} {e : Int32} (hF : w_lp (fun (s : Int32) => l_135_2 h x1 s) n s = some e) (hX0 : (.inl (some (.int e)), h) = o) : k_Go X 2 135 (2, [.ref (0 + 1), .int x1, .int s], []) h o := by
  exact w_lp_ok (P := (fun (s : Int32) => k_Go X 2 135 (2, [.ref (0 + 1), .int x1, .int s], []) h o)) (Q := (fun (e : Int32) => ((.inl (some (.int e)), h) = o))) (fun s r hF hK hX => l_135_2_st hF hK (fun x hx => (hX _ hx))) n s e hF hX0
def p_135 (h : Hp) (x1 : Int32) : Option (Int32) :=
  w_lp (fun (s : Int32) => l_135_2 h x1 s) w_N 0
theorem p_135_ok {X : List Int32}  {h : Hp} {x1 : Int32}  {r : Int32} (hF : p_135 h x1 = some r) : k_Ev X 2 135 [.ref (0 + 1), .int x1] h (.inl (some (.int r)), h) := by
  refine k_of hk_135 ?_
  show k_Go X 2 135 (0, [.ref (0 + 1), .int x1, (.retAddr 0)], []) h _
  unfold p_135 at hF
  refine kg_push (x := 0) hk_135 rfl (by decide) rfl ?_
  refine kg_istore (L2 := [.ref (0 + 1), .int x1, .int 0]) hk_135 rfl (Nat.le_of_ble_eq_true rfl) rfl rfl ?_
  exact l_135_2_ok hF rfl
-- NotebookWeir.keptFor(I)LNotebookWeir$Kept;
theorem hk_140 : jP[140]? = some (jc_140, 4, [], []) := by rfl
def q_140_24 (h : Hp) (q2 : Nat) (s0 : Int32) : Option (Nat) :=
  if s0 = 0 then
    (some 0)
  else
    (some ((q2 + 17) + 1))
theorem q_140_24_ok {X : List Int32}   {h : Hp} {q2 : Nat} {s0 : Int32} (t2 : w_ob q2 0) {r : Nat} (hF : q_140_24 h q2 s0 = some r)  : ∀ (u0 : Value) (u1 : Value) (u3 : Value), k_Go X 3 140 (24, [u0, u1, .ref (q2 + 1), u3], [.int s0]) h (.inl (some (w_rf r)), h) := by
  intro u0 u1 u3
  unfold q_140_24 at hF
  refine kg_istore (L2 := [u0, u1, .ref (q2 + 1), .int s0]) hk_140 rfl (Nat.le_of_ble_eq_true rfl) rfl rfl ?_
  refine kg_iload hk_140 rfl rfl rfl ?_
  refine wf_if hF (fun c4 hF => ?_) (fun c4 hF => ?_)
  · refine kg_ifT hk_140 rfl (jc_T0 c4) ?_
    refine kg_null hk_140 rfl rfl ?_
    have hF := Option.some.inj hF
    subst hF
    exact kg_aret hk_140 rfl rfl
  · refine kg_ifF hk_140 rfl (jc_F0 c4) rfl ?_
    refine kg_aload hk_140 rfl rfl rfl ?_
    refine kg_get (v := .ref ((q2 + 17) + 1)) hk_140 rfl (wf_0_5 t2) rfl rfl ?_
    refine kg_goto hk_140 rfl ?_
    refine kg_cvR ?_
    have hF := Option.some.inj hF
    subst hF
    exact kg_aret hk_140 rfl rfl
def q_140_23 (h : Hp) (q2 : Nat) : Option (Nat) :=
  q_140_24 h q2 0
theorem q_140_23_ok {X : List Int32}   {h : Hp} {q2 : Nat} (t2 : w_ob q2 0) {r : Nat} (hF : q_140_23 h q2 = some r)  : ∀ (u0 : Value) (u1 : Value) (u3 : Value), k_Go X 3 140 (23, [u0, u1, .ref (q2 + 1), u3], []) h (.inl (some (w_rf r)), h) := by
  intro u0 u1 u3
  unfold q_140_23 at hF
  refine kg_push (x := 0) hk_140 rfl (by decide) rfl ?_
  exact q_140_24_ok t2 hF _ _ _
def p_140 (h : Hp) (x1 : Int32) : Option (Nat) :=
  w_gd (w_ix x1 16) <|
  if (v_126 (h 0 15) x1) = 0 then
    (q_140_23 h (64 * x1.toNatClampNeg + 52))
  else
    (if (h (64 * x1.toNatClampNeg + 52) 16) = 0 then
      (q_140_23 h (64 * x1.toNatClampNeg + 52))
    else
      ((p_14 h (64 * x1.toNatClampNeg + 69) (64 * x1.toNatClampNeg + 53) 45).bind fun v6 =>
      q_140_24 h (64 * x1.toNatClampNeg + 52) (if v6 = 0 then 0 else 1)))
theorem p_140_ok {X : List Int32}  {h : Hp} {x1 : Int32}  {r : Nat} (hF : p_140 h x1 = some r) : k_Ev X 3 140 [.ref (0 + 1), .int x1] h (.inl (some (w_rf r)), h) := by
  refine k_of hk_140 ?_
  show k_Go X 3 140 (0, [.ref (0 + 1), .int x1, (.retAddr 0), (.retAddr 0)], []) h _
  unfold p_140 at hF
  refine kg_aload hk_140 rfl rfl rfl ?_
  refine kg_get (v := .ref (2 + 1)) hk_140 rfl wk_0_1 rfl rfl ?_
  refine kg_iload hk_140 rfl rfl rfl ?_
  refine wf_gd hF (fun g1 hF => ?_)
  have he2 := w_E we_61 wc_2 g1
  refine kg_aald (y := (64 * x1.toNatClampNeg + 52)) hk_140 rfl g1 he2.1 rfl ?_
  refine kg_astore (L2 := [.ref (0 + 1), .int x1, .ref ((64 * x1.toNatClampNeg + 52) + 1), (.retAddr 0)]) hk_140 rfl (Nat.le_of_ble_eq_true rfl) rfl rfl ?_
  refine kg_aload hk_140 rfl rfl rfl ?_
  refine kg_get (v := .int (h 0 15)) hk_140 rfl wk_0_15 rfl rfl ?_
  refine kg_iload hk_140 rfl rfl rfl ?_
  refine kg_call (as := [.int (h 0 15), .int x1]) (rest := []) hk_140 rfl (Or.inl rfl) rfl rfl rfl (Nat.not_lt.mpr (Nat.le_of_ble_eq_true rfl)) (v_126_ok) (by decide) rfl ?_
  refine wf_if hF (fun c3 hF => ?_) (fun c3 hF => ?_)
  · refine kg_ifT hk_140 rfl (jc_T0 c3) ?_
    exact q_140_23_ok he2.2 hF _ _ _
  · refine kg_ifF hk_140 rfl (jc_F0 c3) rfl ?_
    refine kg_aload hk_140 rfl rfl rfl ?_
    refine kg_get (v := .int (h (64 * x1.toNatClampNeg + 52) 16)) hk_140 rfl (wf_0_16 he2.2) rfl rfl ?_
    refine wf_if hF (fun c5 hF => ?_) (fun c5 hF => ?_)
    · refine kg_ifT hk_140 rfl (jc_T0 c5) ?_
      exact q_140_23_ok he2.2 hF _ _ _
    · refine kg_ifF hk_140 rfl (jc_F0 c5) rfl ?_
      refine kg_aload hk_140 rfl rfl rfl ?_
      refine kg_get (v := .ref ((64 * x1.toNatClampNeg + 69) + 1)) hk_140 rfl (wf_0_5 he2.2) rfl rfl ?_
      refine kg_aload hk_140 rfl rfl rfl ?_
      refine kg_get (v := .ref ((64 * x1.toNatClampNeg + 53) + 1)) hk_140 rfl (wf_0_0 he2.2) rfl rfl ?_
      refine kg_aload hk_140 rfl rfl rfl ?_
      refine kg_get (v := .ref (45 + 1)) hk_140 rfl wk_0_9 rfl rfl ?_
      refine wf_bind hF (fun v6 hv6 hF => ?_)
      refine kg_call (as := [.ref ((64 * x1.toNatClampNeg + 69) + 1), .ref ((64 * x1.toNatClampNeg + 53) + 1), .ref (45 + 1)]) (rest := []) hk_140 rfl (Or.inr (Or.inr (Or.inr ⟨Or.inl rfl, _, _, rfl, (wo_0_5 he2.2)⟩))) rfl rfl rfl (Nat.not_lt.mpr (Nat.le_of_ble_eq_true rfl)) (p_14_ok (wo_0_5 he2.2) (wo_0_0 he2.2) wc_45 hv6) (by decide) rfl ?_
      refine kv_mid (p := 24) (L := [.ref (0 + 1), .int x1, .ref ((64 * x1.toNatClampNeg + 52) + 1), (.retAddr 0)]) (S := [.int (if v6 = 0 then 0 else 1)]) ?_ (fun hK => ?_)
      · exact q_140_24_ok he2.2 hF _ _ _
      · by_cases c7 : v6 = 0
        · have hK := kv_T c7 hK
          refine kg_ifT hk_140 rfl (jc_T0 c7) ?_
          refine kg_push (x := 0) hk_140 rfl (by decide) rfl ?_
          exact hK
        · have hK := kv_F c7 hK
          refine kg_ifF hk_140 rfl (jc_F0 c7) rfl ?_
          refine kg_push (x := 1) hk_140 rfl (by decide) rfl ?_
          refine kg_goto hk_140 rfl ?_
          exact hK
-- NotebookWeir.isCell(I)Z
theorem hk_125 : jP[125]? = some (jc_125, 2, [], []) := by rfl
def v_125 (h : Hp) (x1 : Int32) : Int32 := (if x1 < 0 then 0 else (if x1 < (h 0 10) then 1 else 0))
theorem v_125_bo (h : Hp) (x1 : Int32) : w_bo (v_125 h x1) = true := by
  unfold v_125
  exact (w_boi rfl (w_boi rfl rfl))
theorem v_125_ok {X : List Int32} {h : Hp} {x1 : Int32}  : k_Ev X 0 125 [.ref (0 + 1), .int x1] h (.inl (some (.int (v_125 h x1))), h) := by
  refine k_of hk_125 ?_
  show k_Go X 0 125 (0, [.ref (0 + 1), .int x1], []) h _
  generalize hv : v_125 h x1 = z
  unfold v_125 at hv
  refine kg_iload hk_125 rfl rfl rfl ?_
  refine kv_mid (p := 9) (L := [.ref (0 + 1), .int x1]) (S := [.int (if x1 < 0 then 0 else (if x1 < (h 0 10) then 1 else 0))]) ?_ (fun hK => ?_)
  · exact kg_iret hk_125 rfl (Or.inr (w_boi rfl (w_boi rfl rfl))) (by rw [hv])
  · by_cases c1 : x1 < 0
    · have hK := kv_T c1 hK
      refine kg_ifT hk_125 rfl (jc_T2 c1) ?_
      refine kg_push (x := 0) hk_125 rfl (by decide) rfl ?_
      exact hK
    · have hK := kv_F c1 hK
      refine kg_ifF hk_125 rfl (jc_F2 c1) rfl ?_
      refine kg_iload hk_125 rfl rfl rfl ?_
      refine kg_aload hk_125 rfl rfl rfl ?_
      refine kg_get (v := .int (h 0 10)) hk_125 rfl wk_0_10 rfl rfl ?_
      by_cases c2 : x1 < (h 0 10)
      · have hK := kv_T c2 hK
        refine kg_icF hk_125 rfl (jc_F3 c2) rfl ?_
        refine kg_push (x := 1) hk_125 rfl (by decide) rfl ?_
        refine kg_goto hk_125 rfl ?_
        exact hK
      · have hK := kv_F c2 hK
        refine kg_icT hk_125 rfl (jc_T3 c2) ?_
        refine kg_push (x := 0) hk_125 rfl (by decide) rfl ?_
        exact hK
-- NotebookWeir.gather(IZ)V
theorem hk_141 : jP[141]? = some (jc_141, 6, [], []) := by rfl
def q_141_48 (h : Hp) (x1 : Int32) (x2 : Int32) (x3 : Int32) (x4 : Int32) (s0 : Nat) (s1 : Int32) : Option ((Int32 × Hp) ⊕ Hp) :=
  (p_71 h 45 s1 s0 x4).bind fun v13 =>
  some (.inl ((x4 + 1), v13))
theorem q_141_48_ok {X : List Int32} {o : kO}  {h : Hp} {s0 : Nat} {s1 : Int32} {x1 : Int32} {x2 : Int32} {x3 : Int32} {x4 : Int32} (ts0 : w_ob s0 8) {r : (Int32 × Hp) ⊕ Hp} (hF : q_141_48 h x1 x2 x3 x4 s0 s1 = some r) (hK : ∀ s' : Int32 × Hp, r = .inl s' → ∀ (u5 : Value), k_Go X 3 141 (12, [.ref (0 + 1), .int x1, .int x2, .int x3, .int (s'.1), u5], []) s'.2 o) (hX0 : ∀ e : Hp, r = .inr e → (.inl none, e) = o) : ∀ (u5 : Value), k_Go X 3 141 (48, [.ref (0 + 1), .int x1, .int x2, .int x3, .int x4, u5], [.ref (s0 + 1), .int s1, .ref (45 + 1)]) h o := by
  intro u5
  unfold q_141_48 at hF
  refine kg_iload hk_141 rfl rfl rfl ?_
  refine wf_bind hF (fun v13 hv13 hF => ?_)
  refine kg_call (as := [.ref (45 + 1), .int s1, .ref (s0 + 1), .int x4]) (rest := []) hk_141 rfl (Or.inr (Or.inr (Or.inr ⟨Or.inl rfl, _, _, rfl, wc_45⟩))) rfl rfl rfl (Nat.not_lt.mpr (Nat.le_of_ble_eq_true rfl)) (p_71_ok wc_45 ts0 hv13) (by decide) rfl ?_
  refine kg_goto hk_141 rfl ?_
  refine kg_iinc (y := (x4 + 1)) (L2 := [.ref (0 + 1), .int x1, .int x2, .int x3, .int (x4 + 1), u5]) hk_141 rfl rfl rfl rfl rfl ?_
  refine kg_goto hk_141 rfl ?_
  have hF := Option.some.inj hF
  exact hK _ hF.symm _
def q_141_27 (h : Hp) (x1 : Int32) (x2 : Int32) (x3 : Int32) (x4 : Int32) (s0 : Int32) : Option ((Int32 × Hp) ⊕ Hp) :=
  if (v_125 h s0) = 0 then
    (if s0 = (-1) then
      (some (.inl ((x4 + 1), h)))
    else
      (w_gd (g_93 h (s0 - 16)) <|
      (p_68 h 45 x4 (v_93 h (s0 - 16))).bind fun v9 =>
      some (.inl ((x4 + 1), v9))))
  else
    (if x2 = 0 then
      (w_gd (w_ix s0 16) <|
      q_141_48 h x1 x2 x3 x4 (64 * s0.toNatClampNeg + 59) x4)
    else
      (w_gd (w_ix s0 16) <|
      q_141_48 h x1 x2 x3 x4 (64 * s0.toNatClampNeg + 62) x4))
theorem q_141_27_ok {X : List Int32} {o : kO}  {h : Hp} {s0 : Int32} {x1 : Int32} {x2 : Int32} {x3 : Int32} {x4 : Int32}  {r : (Int32 × Hp) ⊕ Hp} (hF : q_141_27 h x1 x2 x3 x4 s0 = some r) (hK : ∀ s' : Int32 × Hp, r = .inl s' → ∀ (u5 : Value), k_Go X 3 141 (12, [.ref (0 + 1), .int x1, .int x2, .int x3, .int (s'.1), u5], []) s'.2 o) (hX0 : ∀ e : Hp, r = .inr e → (.inl none, e) = o) : ∀ (u5 : Value), k_Go X 3 141 (27, [.ref (0 + 1), .int x1, .int x2, .int x3, .int x4, u5], [.int s0]) h o := by
  intro u5
  unfold q_141_27 at hF
  refine kg_istore (L2 := [.ref (0 + 1), .int x1, .int x2, .int x3, .int x4, .int s0]) hk_141 rfl (Nat.le_of_ble_eq_true rfl) rfl rfl ?_
  refine kg_aload hk_141 rfl rfl rfl ?_
  refine kg_iload hk_141 rfl rfl rfl ?_
  refine kg_call (as := [.ref (0 + 1), .int s0]) (rest := []) hk_141 rfl (Or.inr (Or.inr (Or.inr ⟨Or.inl rfl, _, _, rfl, wc_0⟩))) rfl rfl rfl (Nat.not_lt.mpr (Nat.le_of_ble_eq_true rfl)) (v_125_ok) (by decide) rfl ?_
  refine wf_if hF (fun c6 hF => ?_) (fun c6 hF => ?_)
  · refine kg_ifT hk_141 rfl (jc_T0 c6) ?_
    refine kg_iload hk_141 rfl rfl rfl ?_
    refine kg_push (x := (-1)) hk_141 rfl (by decide) rfl ?_
    refine wf_if hF (fun c7 hF => ?_) (fun c7 hF => ?_)
    · refine kg_icT hk_141 rfl (jc_T0 c7) ?_
      refine kg_iinc (y := (x4 + 1)) (L2 := [.ref (0 + 1), .int x1, .int x2, .int x3, .int (x4 + 1), .int s0]) hk_141 rfl rfl rfl rfl rfl ?_
      refine kg_goto hk_141 rfl ?_
      have hF := Option.some.inj hF
      exact hK _ hF.symm _
    · refine kg_icF hk_141 rfl (jc_F0 c7) rfl ?_
      refine kg_aload hk_141 rfl rfl rfl ?_
      refine kg_get (v := .ref (45 + 1)) hk_141 rfl wk_0_9 rfl rfl ?_
      refine kg_iload hk_141 rfl rfl rfl ?_
      refine kg_aload hk_141 rfl rfl rfl ?_
      refine kg_get (v := .ref (4 + 1)) hk_141 rfl wk_0_3 rfl rfl ?_
      refine kg_iload hk_141 rfl rfl rfl ?_
      refine kg_push (x := 16) hk_141 rfl (by decide) rfl ?_
      refine kg_bin (z := (s0 - 16)) hk_141 rfl rfl rfl ?_
      refine wf_gd hF (fun g8 hF => ?_)
      refine kg_call (as := [.ref (4 + 1), .int (s0 - 16)]) (rest := [.int x4, .ref (45 + 1)]) hk_141 rfl (Or.inr (Or.inr (Or.inr ⟨Or.inl rfl, _, _, rfl, wc_4⟩))) rfl rfl rfl (Nat.not_lt.mpr (Nat.le_of_ble_eq_true rfl)) (v_93_ok g8) (by decide) rfl ?_
      refine wf_bind hF (fun v9 hv9 hF => ?_)
      refine kg_call (as := [.ref (45 + 1), .int x4, .int (v_93 h (s0 - 16))]) (rest := []) hk_141 rfl (Or.inr (Or.inr (Or.inr ⟨Or.inl rfl, _, _, rfl, wc_45⟩))) rfl rfl rfl (Nat.not_lt.mpr (Nat.le_of_ble_eq_true rfl)) (p_68_ok wc_45 hv9) (by decide) rfl ?_
      refine kg_iinc (y := (x4 + 1)) (L2 := [.ref (0 + 1), .int x1, .int x2, .int x3, .int (x4 + 1), .int s0]) hk_141 rfl rfl rfl rfl rfl ?_
      refine kg_goto hk_141 rfl ?_
      have hF := Option.some.inj hF
      exact hK _ hF.symm _
  · refine kg_ifF hk_141 rfl (jc_F0 c6) rfl ?_
    refine kg_aload hk_141 rfl rfl rfl ?_
    refine kg_get (v := .ref (45 + 1)) hk_141 rfl wk_0_9 rfl rfl ?_
    refine kg_iload hk_141 rfl rfl rfl ?_
    refine kg_iload hk_141 rfl rfl rfl ?_
    refine wf_if hF (fun c10 hF => ?_) (fun c10 hF => ?_)
    · refine kg_ifT hk_141 rfl (jc_T0 c10) ?_
      refine kg_aload hk_141 rfl rfl rfl ?_
      refine kg_get (v := .ref (2 + 1)) hk_141 rfl wk_0_1 rfl rfl ?_
      refine kg_iload hk_141 rfl rfl rfl ?_
      refine wf_gd hF (fun g11 hF => ?_)
      have he12 := w_E we_61 wc_2 g11
      refine kg_aald (y := (64 * s0.toNatClampNeg + 52)) hk_141 rfl g11 he12.1 rfl ?_
      refine kg_get (v := .ref ((64 * s0.toNatClampNeg + 59) + 1)) hk_141 rfl (wf_0_2 he12.2) rfl rfl ?_
      exact q_141_48_ok (wo_0_2 he12.2) hF hK hX0 _
    · refine kg_ifF hk_141 rfl (jc_F0 c10) rfl ?_
      refine kg_aload hk_141 rfl rfl rfl ?_
      refine kg_get (v := .ref (2 + 1)) hk_141 rfl wk_0_1 rfl rfl ?_
      refine kg_iload hk_141 rfl rfl rfl ?_
      refine wf_gd hF (fun g14 hF => ?_)
      have he15 := w_E we_61 wc_2 g14
      refine kg_aald (y := (64 * s0.toNatClampNeg + 52)) hk_141 rfl g14 he15.1 rfl ?_
      refine kg_get (v := .ref ((64 * s0.toNatClampNeg + 62) + 1)) hk_141 rfl (wf_0_3 he15.2) rfl rfl ?_
      refine kg_goto hk_141 rfl ?_
      exact q_141_48_ok (wo_0_3 he15.2) hF hK hX0 _
def l_141_12 (x1 : Int32) (x2 : Int32) (x3 : Int32) (x4 : Int32) (h : Hp) : Option ((Int32 × Hp) ⊕ Hp) :=
  if x4 < 26 then
    (if (v_126 x3 x4) = 0 then
      (q_141_27 h x1 x2 x3 x4 (-1))
    else
      ((p_81 h x1 x4).bind fun v16 =>
      (p_127 h v16).bind fun v17 =>
      q_141_27 h x1 x2 x3 x4 v17))
  else
    (some (.inr h))
theorem l_141_12_st {X : List Int32} {o : kO}  {h : Hp} {x1 : Int32} {x2 : Int32} {x3 : Int32} {x4 : Int32}  {r : (Int32 × Hp) ⊕ Hp} (hF : l_141_12 x1 x2 x3 x4 h = some r) (hK : ∀ s' : Int32 × Hp, r = .inl s' → ∀ (u5 : Value), k_Go X 3 141 (12, [.ref (0 + 1), .int x1, .int x2, .int x3, .int (s'.1), u5], []) s'.2 o) (hX0 : ∀ e : Hp, r = .inr e → (.inl none, e) = o) : ∀ (u5 : Value), k_Go X 3 141 (12, [.ref (0 + 1), .int x1, .int x2, .int x3, .int x4, u5], []) h o := by
  intro u5
  refine kg_iload hk_141 rfl rfl rfl ?_
  refine kg_push (x := 26) hk_141 rfl (by decide) rfl ?_
  refine wf_if hF (fun c4 hF => ?_) (fun c4 hF => ?_)
  · refine kg_icF hk_141 rfl (jc_F3 c4) rfl ?_
    refine kg_iload hk_141 rfl rfl rfl ?_
    refine kg_iload hk_141 rfl rfl rfl ?_
    refine kg_call (as := [.int x3, .int x4]) (rest := []) hk_141 rfl (Or.inl rfl) rfl rfl rfl (Nat.not_lt.mpr (Nat.le_of_ble_eq_true rfl)) (v_126_ok) (by decide) rfl ?_
    refine wf_if hF (fun c5 hF => ?_) (fun c5 hF => ?_)
    · refine kg_ifT hk_141 rfl (jc_T0 c5) ?_
      refine kg_push (x := (-1)) hk_141 rfl (by decide) rfl ?_
      exact q_141_27_ok hF hK hX0 _
    · refine kg_ifF hk_141 rfl (jc_F0 c5) rfl ?_
      refine kg_aload hk_141 rfl rfl rfl ?_
      refine kg_get (v := .ref (11 + 1)) hk_141 rfl wk_0_4 rfl rfl ?_
      refine kg_iload hk_141 rfl rfl rfl ?_
      refine kg_iload hk_141 rfl rfl rfl ?_
      refine wf_bind hF (fun v16 hv16 hF => ?_)
      refine kg_call (as := [.ref (11 + 1), .int x1, .int x4]) (rest := []) hk_141 rfl (Or.inr (Or.inr (Or.inr ⟨Or.inl rfl, _, _, rfl, wc_11⟩))) rfl rfl rfl (Nat.not_lt.mpr (Nat.le_of_ble_eq_true rfl)) (p_81_ok hv16) (by decide) rfl ?_
      refine wf_bind hF (fun v17 hv17 hF => ?_)
      refine kg_call (as := [.int v16]) (rest := []) hk_141 rfl (Or.inl rfl) rfl rfl rfl (Nat.not_lt.mpr (Nat.le_of_ble_eq_true rfl)) (p_127_ok hv17) (by decide) rfl ?_
      refine kg_goto hk_141 rfl ?_
      exact q_141_27_ok hF hK hX0 _
  · refine kg_icT hk_141 rfl (jc_T3 c4) ?_
    have hF := Option.some.inj hF
    exact kg_ret hk_141 rfl (hX0 _ hF.symm)
theorem l_141_12_ok {X : List Int32} {o : kO}  {x1 : Int32} {x2 : Int32} {x3 : Int32}  {n : Nat} {s : Int32 × Hp} {e : Hp} (hF : w_lp (fun (s : Int32 × Hp) => l_141_12 x1 x2 x3 s.1 s.2) n s = some e) (hX0 : (.inl none, e) = o) : ∀ (u5 : Value), k_Go X 3 141 (12, [.ref (0 + 1), .int x1, .int x2, .int x3, .int s.1, u5], []) s.2 o := by
  exact w_lp_ok (P := (fun (s : Int32 × Hp) => ∀ (u5 : Value), k_Go X 3 141 (12, [.ref (0 + 1), .int x1, .int x2, .int x3, .int s.1, u5], []) s.2 o)) (Q := (fun (e : Hp) => ((.inl none, e) = o))) (fun s r hF hK hX => l_141_12_st hF hK (fun x hx => (hX _ hx))) n s e hF hX0
def p_141 (h : Hp) (x1 : Int32) (x2 : Int32) : Option (Hp) :=
  w_gd (w_ix x1 16) <|
  (p_67 h 45).bind fun v3 =>
  w_lp (fun (s : Int32 × Hp) => l_141_12 x1 x2 (h (64 * x1.toNatClampNeg + 55) 7) s.1 s.2) w_N (0, v3)
theorem p_141_ok {X : List Int32}  {h : Hp} {x1 : Int32} {x2 : Int32}  {r : Hp} (hF : p_141 h x1 x2 = some r) : k_Ev X 3 141 [.ref (0 + 1), .int x1, .int x2] h (.inl none, r) := by
  refine k_of hk_141 ?_
  show k_Go X 3 141 (0, [.ref (0 + 1), .int x1, .int x2, (.retAddr 0), (.retAddr 0), (.retAddr 0)], []) h _
  unfold p_141 at hF
  refine kg_aload hk_141 rfl rfl rfl ?_
  refine kg_get (v := .ref (2 + 1)) hk_141 rfl wk_0_1 rfl rfl ?_
  refine kg_iload hk_141 rfl rfl rfl ?_
  refine wf_gd hF (fun g1 hF => ?_)
  have he2 := w_E we_61 wc_2 g1
  refine kg_aald (y := (64 * x1.toNatClampNeg + 52)) hk_141 rfl g1 he2.1 rfl ?_
  refine kg_get (v := .ref ((64 * x1.toNatClampNeg + 55) + 1)) hk_141 rfl (wf_0_1 he2.2) rfl rfl ?_
  refine kg_get (v := .int (h (64 * x1.toNatClampNeg + 55) 7)) hk_141 rfl (wf_1_7 (wo_0_1 he2.2)) rfl rfl ?_
  refine kg_istore (L2 := [.ref (0 + 1), .int x1, .int x2, .int (h (64 * x1.toNatClampNeg + 55) 7), (.retAddr 0), (.retAddr 0)]) hk_141 rfl (Nat.le_of_ble_eq_true rfl) rfl rfl ?_
  refine kg_aload hk_141 rfl rfl rfl ?_
  refine kg_get (v := .ref (45 + 1)) hk_141 rfl wk_0_9 rfl rfl ?_
  refine wf_bind hF (fun v3 hv3 hF => ?_)
  refine kg_call (as := [.ref (45 + 1)]) (rest := []) hk_141 rfl (Or.inr (Or.inr (Or.inr ⟨Or.inl rfl, _, _, rfl, wc_45⟩))) rfl rfl rfl (Nat.not_lt.mpr (Nat.le_of_ble_eq_true rfl)) (p_67_ok wc_45 hv3) (by decide) rfl ?_
  refine kg_push (x := 0) hk_141 rfl (by decide) rfl ?_
  refine kg_istore (L2 := [.ref (0 + 1), .int x1, .int x2, .int (h (64 * x1.toNatClampNeg + 55) 7), .int 0, (.retAddr 0)]) hk_141 rfl (Nat.le_of_ble_eq_true rfl) rfl rfl ?_
  exact l_141_12_ok hF rfl _
-- NotebookWeir.runOne(IZ)I
theorem hk_139 : jP[139]? = some (jc_139, 5, [], []) := by rfl
def q_139_86 (h : Hp) (x1 : Int32) (q3 : Nat) (n4 : Nat) : Option (Int32 × Hp) :=
  w_let (w_up h 0 14 ((h 0 14) + 1)) fun h15 =>
  w_gd (w_ix x1 16) <|
  (p_4 h15 q3 (h15 0 14) (h15 14 x1.toNatClampNeg)).bind fun v17 =>
  w_let (w_up v17 0 17 0) fun h18 =>
  if n4 = 0 then
    (some (0, h18))
  else
    (some (1, h18))
theorem q_139_86_ok {X : List Int32}   {h : Hp} {n4 : Nat} {q3 : Nat} {x1 : Int32} (t3 : w_ob q3 0) {r : Int32 × Hp} (hF : q_139_86 h x1 q3 n4 = some r)  : ∀ (u2 : Value), k_Go X 4 139 (86, [.ref (0 + 1), .int x1, u2, .ref (q3 + 1), w_rf n4], []) h (.inl (some (.int r.1)), r.2) := by
  intro u2
  unfold q_139_86 at hF
  refine kg_aload hk_139 rfl rfl rfl ?_
  refine kg_dup hk_139 rfl rfl rfl ?_
  refine kg_get (v := .int (h 0 14)) hk_139 rfl wk_0_14 rfl rfl ?_
  refine kg_push (x := 1) hk_139 rfl (by decide) rfl ?_
  refine kg_bin (z := ((h 0 14) + 1)) hk_139 rfl rfl rfl ?_
  refine wf_let hF (fun h15 hh15 hF => ?_)
  refine kg_put hk_139 rfl wk_0_14 rfl rfl hh15 rfl ?_
  refine kg_aload hk_139 rfl rfl rfl ?_
  refine kg_aload hk_139 rfl rfl rfl ?_
  refine kg_get (v := .int (h15 0 14)) hk_139 rfl wk_0_14 rfl rfl ?_
  refine kg_aload hk_139 rfl rfl rfl ?_
  refine kg_get (v := .ref (11 + 1)) hk_139 rfl wk_0_4 rfl rfl ?_
  refine kg_get (v := .ref (14 + 1)) hk_139 rfl wk_11_2 rfl rfl ?_
  refine kg_iload hk_139 rfl rfl rfl ?_
  refine wf_gd hF (fun g16 hF => ?_)
  refine kg_ald (y := (h15 14 x1.toNatClampNeg)) hk_139 rfl wc_14 g16 rfl rfl ?_
  refine kg_aload hk_139 rfl rfl rfl ?_
  refine kg_get (v := .ref (4 + 1)) hk_139 rfl wk_0_3 rfl rfl ?_
  refine wf_bind hF (fun v17 hv17 hF => ?_)
  refine kg_call (as := [.ref (q3 + 1), .int (h15 0 14), .int (h15 14 x1.toNatClampNeg), .ref (4 + 1)]) (rest := []) hk_139 rfl (Or.inr (Or.inr (Or.inr ⟨Or.inl rfl, _, _, rfl, t3⟩))) rfl rfl rfl (Nat.not_lt.mpr (Nat.le_of_ble_eq_true rfl)) (p_4_ok t3 hv17) (by decide) rfl ?_
  refine kg_aload hk_139 rfl rfl rfl ?_
  refine kg_push (x := 0) hk_139 rfl (by decide) rfl ?_
  refine wf_let hF (fun h18 hh18 hF => ?_)
  refine kg_put hk_139 rfl wk_0_17 rfl (w_fitB rfl) hh18 rfl ?_
  refine kg_aloadW hk_139 rfl rfl rfl ?_
  refine wf_if hF (fun c19 hF => ?_) (fun c19 hF => ?_)
  · refine kg_nullWT hk_139 rfl c19 ?_
    refine kg_push (x := 0) hk_139 rfl (by decide) rfl ?_
    have hF := Option.some.inj hF
    subst hF
    exact kg_iret hk_139 rfl (Or.inl rfl) rfl
  · refine kg_nullWF hk_139 rfl c19 rfl ?_
    refine kg_push (x := 1) hk_139 rfl (by decide) rfl ?_
    refine kg_goto hk_139 rfl ?_
    have hF := Option.some.inj hF
    subst hF
    exact kg_iret hk_139 rfl (Or.inl rfl) rfl
def q_139_38 (h : Hp) (x1 : Int32) (q3 : Nat) (n4 : Nat) (s0 : Int32) (s1 : Int32) : Option (Int32 × Hp) :=
  w_let (w_up h 0 13 (s1 + s0)) fun h24 =>
  q_139_86 h24 x1 q3 n4
theorem q_139_38_ok {X : List Int32}   {h : Hp} {n4 : Nat} {q3 : Nat} {s0 : Int32} {s1 : Int32} {x1 : Int32} (t3 : w_ob q3 0) {r : Int32 × Hp} (hF : q_139_38 h x1 q3 n4 s0 s1 = some r)  : ∀ (u2 : Value), k_Go X 4 139 (38, [.ref (0 + 1), .int x1, u2, .ref (q3 + 1), w_rf n4], [.int s0, .int s1, .ref (0 + 1)]) h (.inl (some (.int r.1)), r.2) := by
  intro u2
  unfold q_139_38 at hF
  refine kg_bin (z := (s1 + s0)) hk_139 rfl rfl rfl ?_
  refine wf_let hF (fun h24 hh24 hF => ?_)
  refine kg_put hk_139 rfl wk_0_13 rfl rfl hh24 rfl ?_
  refine kg_goto hk_139 rfl ?_
  exact q_139_86_ok t3 hF _
def q_139_19 (h : Hp) (x1 : Int32) (x2 : Int32) (q3 : Nat) (s0 : Nat) : Option (Int32 × Hp) :=
  if s0 = 0 then
    ((p_53 h (q3 + 13) (q3 + 1) x2 1).bind fun v7 =>
    (p_16 v7 (q3 + 3) 45).bind fun v8 =>
    w_let (w_up v8.2 q3 11 v8.1) fun h9 =>
    w_let (w_up h9 q3 12 (h9 28 3)) fun h10 =>
    w_let (w_up h10 0 12 ((h10 0 12) + 1)) fun h11 =>
    (p_17 h11 (q3 + 3) (q3 + 7)).bind fun v12 =>
    if (v12 q3 11) = 0 then
      ((p_3 v12 q3 45).bind fun v14 =>
      q_139_86 v14 x1 q3 s0)
    else
      (q_139_86 v12 x1 q3 s0))
  else
    (w_gd (w_tag (s0 - 1) == 3 && 3 != 999) <|
    (p_72 h (q3 + 7) ((s0 - 1) + 6)).bind fun v21 =>
    w_let (w_up v21 q3 11 0) fun h22 =>
    q_139_38 h22 x1 q3 s0 (if x2 = 0 then 1 else 0) (h22 0 13))
theorem q_139_19_ok {X : List Int32}   {h : Hp} {q3 : Nat} {s0 : Nat} {x1 : Int32} {x2 : Int32} (t3 : w_ob q3 0) {r : Int32 × Hp} (hF : q_139_19 h x1 x2 q3 s0 = some r)  : ∀ (u4 : Value), k_Go X 4 139 (19, [.ref (0 + 1), .int x1, .int x2, .ref (q3 + 1), u4], [w_rf s0]) h (.inl (some (.int r.1)), r.2) := by
  intro u4
  unfold q_139_19 at hF
  refine kg_astoreW (L2 := [.ref (0 + 1), .int x1, .int x2, .ref (q3 + 1), w_rf s0]) hk_139 rfl (Nat.le_of_ble_eq_true rfl) rfl rfl ?_
  refine kg_aloadW hk_139 rfl rfl rfl ?_
  refine wf_if hF (fun c6 hF => ?_) (fun c6 hF => ?_)
  · refine kg_nullWT hk_139 rfl c6 ?_
    refine kg_aload hk_139 rfl rfl rfl ?_
    refine kg_get (v := .ref (40 + 1)) hk_139 rfl wk_0_8 rfl rfl ?_
    refine kg_aload hk_139 rfl rfl rfl ?_
    refine kg_get (v := .ref ((q3 + 13) + 1)) hk_139 rfl (wf_0_4 t3) rfl rfl ?_
    refine kg_aload hk_139 rfl rfl rfl ?_
    refine kg_get (v := .ref ((q3 + 1) + 1)) hk_139 rfl (wf_0_0 t3) rfl rfl ?_
    refine kg_iload hk_139 rfl rfl rfl ?_
    refine kg_push (x := 1) hk_139 rfl (by decide) rfl ?_
    refine wf_bind hF (fun v7 hv7 hF => ?_)
    refine kg_call (as := [.ref (40 + 1), .ref ((q3 + 13) + 1), .ref ((q3 + 1) + 1), .int x2, .int 1]) (rest := []) hk_139 rfl (Or.inr (Or.inr (Or.inr ⟨Or.inl rfl, _, _, rfl, wc_40⟩))) rfl rfl rfl (Nat.not_lt.mpr (Nat.le_of_ble_eq_true rfl)) (p_53_ok (wo_0_4 t3) (wo_0_0 t3) hv7) (by decide) rfl ?_
    refine kg_aload hk_139 rfl rfl rfl ?_
    refine kg_aload hk_139 rfl rfl rfl ?_
    refine kg_get (v := .ref (28 + 1)) hk_139 rfl wk_0_7 rfl rfl ?_
    refine kg_aload hk_139 rfl rfl rfl ?_
    refine kg_get (v := .ref ((q3 + 3) + 1)) hk_139 rfl (wf_0_1 t3) rfl rfl ?_
    refine kg_aload hk_139 rfl rfl rfl ?_
    refine kg_get (v := .ref (45 + 1)) hk_139 rfl wk_0_9 rfl rfl ?_
    refine kg_aload hk_139 rfl rfl rfl ?_
    refine kg_get (v := .ref (40 + 1)) hk_139 rfl wk_0_8 rfl rfl ?_
    refine wf_bind hF (fun v8 hv8 hF => ?_)
    refine kg_call (as := [.ref (28 + 1), .ref ((q3 + 3) + 1), .ref (45 + 1), .ref (40 + 1)]) (rest := [.ref (q3 + 1)]) hk_139 rfl (Or.inr (Or.inr (Or.inr ⟨Or.inl rfl, _, _, rfl, wc_28⟩))) rfl rfl rfl (Nat.not_lt.mpr (Nat.le_of_ble_eq_true rfl)) (p_16_ok (wo_0_1 t3) wc_45 hv8) (by decide) rfl ?_
    refine wf_let hF (fun h9 hh9 hF => ?_)
    refine kg_put hk_139 rfl (wf_0_11 t3) rfl rfl hh9 rfl ?_
    refine kg_aload hk_139 rfl rfl rfl ?_
    refine kg_aload hk_139 rfl rfl rfl ?_
    refine kg_get (v := .ref (28 + 1)) hk_139 rfl wk_0_7 rfl rfl ?_
    refine kg_get (v := .int (h9 28 3)) hk_139 rfl wk_28_3 rfl rfl ?_
    refine wf_let hF (fun h10 hh10 hF => ?_)
    refine kg_put hk_139 rfl (wf_0_12 t3) rfl rfl hh10 rfl ?_
    refine kg_aload hk_139 rfl rfl rfl ?_
    refine kg_dup hk_139 rfl rfl rfl ?_
    refine kg_get (v := .int (h10 0 12)) hk_139 rfl wk_0_12 rfl rfl ?_
    refine kg_push (x := 1) hk_139 rfl (by decide) rfl ?_
    refine kg_bin (z := ((h10 0 12) + 1)) hk_139 rfl rfl rfl ?_
    refine wf_let hF (fun h11 hh11 hF => ?_)
    refine kg_put hk_139 rfl wk_0_12 rfl rfl hh11 rfl ?_
    refine kg_aload hk_139 rfl rfl rfl ?_
    refine kg_get (v := .ref (28 + 1)) hk_139 rfl wk_0_7 rfl rfl ?_
    refine kg_aload hk_139 rfl rfl rfl ?_
    refine kg_get (v := .ref ((q3 + 3) + 1)) hk_139 rfl (wf_0_1 t3) rfl rfl ?_
    refine kg_aload hk_139 rfl rfl rfl ?_
    refine kg_get (v := .ref ((q3 + 7) + 1)) hk_139 rfl (wf_0_2 t3) rfl rfl ?_
    refine wf_bind hF (fun v12 hv12 hF => ?_)
    refine kg_call (as := [.ref (28 + 1), .ref ((q3 + 3) + 1), .ref ((q3 + 7) + 1)]) (rest := []) hk_139 rfl (Or.inr (Or.inr (Or.inr ⟨Or.inl rfl, _, _, rfl, wc_28⟩))) rfl rfl rfl (Nat.not_lt.mpr (Nat.le_of_ble_eq_true rfl)) (p_17_ok (wo_0_1 t3) (wo_0_2 t3) hv12) (by decide) rfl ?_
    refine kg_aload hk_139 rfl rfl rfl ?_
    refine kg_get (v := .int (v12 q3 11)) hk_139 rfl (wf_0_11 t3) rfl rfl ?_
    refine wf_if hF (fun c13 hF => ?_) (fun c13 hF => ?_)
    · refine kg_ifF hk_139 rfl (jc_F1 c13) rfl ?_
      refine kg_aload hk_139 rfl rfl rfl ?_
      refine kg_aload hk_139 rfl rfl rfl ?_
      refine kg_get (v := .ref (45 + 1)) hk_139 rfl wk_0_9 rfl rfl ?_
      refine wf_bind hF (fun v14 hv14 hF => ?_)
      refine kg_call (as := [.ref (q3 + 1), .ref (45 + 1)]) (rest := []) hk_139 rfl (Or.inr (Or.inr (Or.inr ⟨Or.inl rfl, _, _, rfl, t3⟩))) rfl rfl rfl (Nat.not_lt.mpr (Nat.le_of_ble_eq_true rfl)) (p_3_ok t3 wc_45 hv14) (by decide) rfl ?_
      exact q_139_86_ok t3 hF _
    · refine kg_ifT hk_139 rfl (jc_T1 c13) ?_
      exact q_139_86_ok t3 hF _
  · refine kg_nullWF hk_139 rfl c6 rfl ?_
    refine kg_aload hk_139 rfl rfl rfl ?_
    refine kg_get (v := .ref ((q3 + 7) + 1)) hk_139 rfl (wf_0_2 t3) rfl rfl ?_
    refine kg_aloadW hk_139 rfl rfl rfl ?_
    refine wf_gd hF (fun g20 hF => ?_)
    refine kg_cvW c6 ?_
    refine kg_get (v := .ref (((s0 - 1) + 6) + 1)) hk_139 rfl (wf_3_2 (w_tagE g20)) rfl rfl ?_
    refine wf_bind hF (fun v21 hv21 hF => ?_)
    refine kg_call (as := [.ref ((q3 + 7) + 1), .ref (((s0 - 1) + 6) + 1)]) (rest := []) hk_139 rfl (Or.inr (Or.inr (Or.inr ⟨Or.inl rfl, _, _, rfl, (wo_0_2 t3)⟩))) rfl rfl rfl (Nat.not_lt.mpr (Nat.le_of_ble_eq_true rfl)) (p_72_ok (wo_0_2 t3) (wo_3_2 (w_tagE g20)) hv21) (by decide) rfl ?_
    refine kg_aload hk_139 rfl rfl rfl ?_
    refine kg_push (x := 0) hk_139 rfl (by decide) rfl ?_
    refine wf_let hF (fun h22 hh22 hF => ?_)
    refine kg_put hk_139 rfl (wf_0_11 t3) rfl rfl hh22 rfl ?_
    refine kg_aload hk_139 rfl rfl rfl ?_
    refine kg_dup hk_139 rfl rfl rfl ?_
    refine kg_get (v := .int (h22 0 13)) hk_139 rfl wk_0_13 rfl rfl ?_
    refine kg_iload hk_139 rfl rfl rfl ?_
    refine kv_mid (p := 38) (L := [.ref (0 + 1), .int x1, .int x2, .ref (q3 + 1), w_rf s0]) (S := [.int (if x2 = 0 then 1 else 0), .int (h22 0 13), .ref (0 + 1)]) ?_ (fun hK => ?_)
    · exact q_139_38_ok t3 hF _
    · by_cases c23 : x2 = 0
      · have hK := kv_T c23 hK
        refine kg_ifT hk_139 rfl (jc_T0 c23) ?_
        refine kg_push (x := 1) hk_139 rfl (by decide) rfl ?_
        exact hK
      · have hK := kv_F c23 hK
        refine kg_ifF hk_139 rfl (jc_F0 c23) rfl ?_
        refine kg_push (x := 0) hk_139 rfl (by decide) rfl ?_
        refine kg_goto hk_139 rfl ?_
        exact hK
def p_139 (h : Hp) (x1 : Int32) (x2 : Int32) : Option (Int32 × Hp) :=
  w_gd (w_ix x1 16) <|
  (p_141 h x1 0).bind fun v3 =>
  if x2 = 0 then
    ((p_2 v3 (64 * x1.toNatClampNeg + 52) 45).bind fun v5 =>
    q_139_19 v3 x1 x2 (64 * x1.toNatClampNeg + 52) v5)
  else
    ((p_140 v3 x1).bind fun v25 =>
    q_139_19 v3 x1 x2 (64 * x1.toNatClampNeg + 52) v25)
theorem p_139_ok {X : List Int32}  {h : Hp} {x1 : Int32} {x2 : Int32}  {r : Int32 × Hp} (hF : p_139 h x1 x2 = some r) : k_Ev X 4 139 [.ref (0 + 1), .int x1, .int x2] h (.inl (some (.int r.1)), r.2) := by
  refine k_of hk_139 ?_
  show k_Go X 4 139 (0, [.ref (0 + 1), .int x1, .int x2, (.retAddr 0), (.retAddr 0)], []) h _
  unfold p_139 at hF
  refine kg_aload hk_139 rfl rfl rfl ?_
  refine kg_get (v := .ref (2 + 1)) hk_139 rfl wk_0_1 rfl rfl ?_
  refine kg_iload hk_139 rfl rfl rfl ?_
  refine wf_gd hF (fun g1 hF => ?_)
  have he2 := w_E we_61 wc_2 g1
  refine kg_aald (y := (64 * x1.toNatClampNeg + 52)) hk_139 rfl g1 he2.1 rfl ?_
  refine kg_astore (L2 := [.ref (0 + 1), .int x1, .int x2, .ref ((64 * x1.toNatClampNeg + 52) + 1), (.retAddr 0)]) hk_139 rfl (Nat.le_of_ble_eq_true rfl) rfl rfl ?_
  refine kg_aload hk_139 rfl rfl rfl ?_
  refine kg_iload hk_139 rfl rfl rfl ?_
  refine kg_push (x := 0) hk_139 rfl (by decide) rfl ?_
  refine wf_bind hF (fun v3 hv3 hF => ?_)
  refine kg_call (as := [.ref (0 + 1), .int x1, .int 0]) (rest := []) hk_139 rfl (Or.inr (Or.inr (Or.inr ⟨Or.inl rfl, _, _, rfl, wc_0⟩))) rfl rfl rfl (Nat.not_lt.mpr (Nat.le_of_ble_eq_true rfl)) (p_141_ok hv3) (by decide) rfl ?_
  refine kg_iload hk_139 rfl rfl rfl ?_
  refine wf_if hF (fun c4 hF => ?_) (fun c4 hF => ?_)
  · refine kg_ifT hk_139 rfl (jc_T0 c4) ?_
    refine kg_aload hk_139 rfl rfl rfl ?_
    refine kg_aload hk_139 rfl rfl rfl ?_
    refine kg_get (v := .ref (45 + 1)) hk_139 rfl wk_0_9 rfl rfl ?_
    refine wf_bind hF (fun v5 hv5 hF => ?_)
    refine kg_call (as := [.ref ((64 * x1.toNatClampNeg + 52) + 1), .ref (45 + 1)]) (rest := []) hk_139 rfl (Or.inr (Or.inr (Or.inr ⟨Or.inl rfl, _, _, rfl, he2.2⟩))) rfl rfl rfl (Nat.not_lt.mpr (Nat.le_of_ble_eq_true rfl)) (p_2_ok he2.2 wc_45 hv5) (by decide) rfl ?_
    exact q_139_19_ok he2.2 hF _
  · refine kg_ifF hk_139 rfl (jc_F0 c4) rfl ?_
    refine kg_aload hk_139 rfl rfl rfl ?_
    refine kg_iload hk_139 rfl rfl rfl ?_
    refine wf_bind hF (fun v25 hv25 hF => ?_)
    refine kg_call (as := [.ref (0 + 1), .int x1]) (rest := []) hk_139 rfl (Or.inr (Or.inr (Or.inr ⟨Or.inl rfl, _, _, rfl, wc_0⟩))) rfl rfl rfl (Nat.not_lt.mpr (Nat.le_of_ble_eq_true rfl)) (p_140_ok hv25) (by decide) rfl ?_
    refine kg_goto hk_139 rfl ?_
    exact q_139_19_ok he2.2 hF _
-- NotebookWeir.runStale(I)V
theorem hk_137 : jP[137]? = some (jc_137, 4, [], []) := by rfl
def l_137_2 (x1 : Int32) (x2 : Int32) (h : Hp) : Option ((Int32 × Hp) ⊕ Hp) :=
  if x2 < 16 then
    ((p_132 h).bind fun v2 =>
    (p_135 v2 x1).bind fun v3 =>
    if v3 = (-1) then
      (some (.inr v2))
    else
      ((p_139 v2 v3 0).bind fun v5 =>
      some (.inl ((x2 + 1), v5.2))))
  else
    (some (.inr h))
theorem l_137_2_st {X : List Int32} {o : kO}  {h : Hp} {x1 : Int32} {x2 : Int32}  {r : (Int32 × Hp) ⊕ Hp} (hF : l_137_2 x1 x2 h = some r) (hK : ∀ s' : Int32 × Hp, r = .inl s' → ∀ (u3 : Value), k_Go X 5 137 (2, [.ref (0 + 1), .int x1, .int (s'.1), u3], []) s'.2 o) (hX0 : ∀ e : Hp, r = .inr e → (.inl none, e) = o) : ∀ (u3 : Value), k_Go X 5 137 (2, [.ref (0 + 1), .int x1, .int x2, u3], []) h o := by
  intro u3
  refine kg_iload hk_137 rfl rfl rfl ?_
  refine kg_push (x := 16) hk_137 rfl (by decide) rfl ?_
  refine wf_if hF (fun c1 hF => ?_) (fun c1 hF => ?_)
  · refine kg_icF hk_137 rfl (jc_F3 c1) rfl ?_
    refine kg_aload hk_137 rfl rfl rfl ?_
    refine wf_bind hF (fun v2 hv2 hF => ?_)
    refine kg_call (as := [.ref (0 + 1)]) (rest := []) hk_137 rfl (Or.inr (Or.inr (Or.inr ⟨Or.inl rfl, _, _, rfl, wc_0⟩))) rfl rfl rfl (Nat.not_lt.mpr (Nat.le_of_ble_eq_true rfl)) (p_132_ok hv2) (by decide) rfl ?_
    refine kg_aload hk_137 rfl rfl rfl ?_
    refine kg_iload hk_137 rfl rfl rfl ?_
    refine wf_bind hF (fun v3 hv3 hF => ?_)
    refine kg_call (as := [.ref (0 + 1), .int x1]) (rest := []) hk_137 rfl (Or.inr (Or.inr (Or.inr ⟨Or.inl rfl, _, _, rfl, wc_0⟩))) rfl rfl rfl (Nat.not_lt.mpr (Nat.le_of_ble_eq_true rfl)) (p_135_ok hv3) (by decide) rfl ?_
    refine kg_istore (L2 := [.ref (0 + 1), .int x1, .int x2, .int v3]) hk_137 rfl (Nat.le_of_ble_eq_true rfl) rfl rfl ?_
    refine kg_iload hk_137 rfl rfl rfl ?_
    refine kg_push (x := (-1)) hk_137 rfl (by decide) rfl ?_
    refine wf_if hF (fun c4 hF => ?_) (fun c4 hF => ?_)
    · refine kg_icF hk_137 rfl (jc_F1 c4) rfl ?_
      have hF := Option.some.inj hF
      exact kg_ret hk_137 rfl (hX0 _ hF.symm)
    · refine kg_icT hk_137 rfl (jc_T1 c4) ?_
      refine kg_aload hk_137 rfl rfl rfl ?_
      refine kg_iload hk_137 rfl rfl rfl ?_
      refine kg_push (x := 0) hk_137 rfl (by decide) rfl ?_
      refine wf_bind hF (fun v5 hv5 hF => ?_)
      refine kg_call (as := [.ref (0 + 1), .int v3, .int 0]) (rest := []) hk_137 rfl (Or.inr (Or.inr (Or.inr ⟨Or.inl rfl, _, _, rfl, wc_0⟩))) rfl rfl rfl (Nat.not_lt.mpr (Nat.le_of_ble_eq_true rfl)) (p_139_ok hv5) (by decide) rfl ?_
      refine kg_pop hk_137 rfl rfl rfl ?_
      refine kg_iinc (y := (x2 + 1)) (L2 := [.ref (0 + 1), .int x1, .int (x2 + 1), .int v3]) hk_137 rfl rfl rfl rfl rfl ?_
      refine kg_goto hk_137 rfl ?_
      have hF := Option.some.inj hF
      exact hK _ hF.symm _
  · refine kg_icT hk_137 rfl (jc_T3 c1) ?_
    have hF := Option.some.inj hF
    exact kg_ret hk_137 rfl (hX0 _ hF.symm)
theorem l_137_2_ok {X : List Int32} {o : kO}  {x1 : Int32}  {n : Nat} {s : Int32 × Hp} {e : Hp} (hF : w_lp (fun (s : Int32 × Hp) => l_137_2 x1 s.1 s.2) n s = some e) (hX0 : (.inl none, e) = o) : ∀ (u3 : Value), k_Go X 5 137 (2, [.ref (0 + 1), .int x1, .int s.1, u3], []) s.2 o := by
  exact w_lp_ok (P := (fun (s : Int32 × Hp) => ∀ (u3 : Value), k_Go X 5 137 (2, [.ref (0 + 1), .int x1, .int s.1, u3], []) s.2 o)) (Q := (fun (e : Hp) => ((.inl none, e) = o))) (fun s r hF hK hX => l_137_2_st hF hK (fun x hx => (hX _ hx))) n s e hF hX0
def p_137 (h : Hp) (x1 : Int32) : Option (Hp) :=
  w_lp (fun (s : Int32 × Hp) => l_137_2 x1 s.1 s.2) w_N (0, h)
theorem p_137_ok {X : List Int32}  {h : Hp} {x1 : Int32}  {r : Hp} (hF : p_137 h x1 = some r) : k_Ev X 5 137 [.ref (0 + 1), .int x1] h (.inl none, r) := by
  refine k_of hk_137 ?_
  show k_Go X 5 137 (0, [.ref (0 + 1), .int x1, (.retAddr 0), (.retAddr 0)], []) h _
  unfold p_137 at hF
  refine kg_push (x := 0) hk_137 rfl (by decide) rfl ?_
  refine kg_istore (L2 := [.ref (0 + 1), .int x1, .int 0, (.retAddr 0)]) hk_137 rfl (Nat.le_of_ble_eq_true rfl) rfl rfl ?_
  exact l_137_2_ok hF rfl _
-- NotebookWeir.runIfAtOnce()V
theorem hk_130 : jP[130]? = some (jc_130, 1, [], []) := by rfl
def p_130 (h : Hp) : Option (Hp) :=
  if (h 0 11) = 2 then
    ((p_137 h 65535).bind fun v2 =>
    some v2)
  else
    (some h)
theorem p_130_ok {X : List Int32}  {h : Hp}   {r : Hp} (hF : p_130 h = some r) : k_Ev X 6 130 [.ref (0 + 1)] h (.inl none, r) := by
  refine k_of hk_130 ?_
  show k_Go X 6 130 (0, [.ref (0 + 1)], []) h _
  unfold p_130 at hF
  refine kg_aload hk_130 rfl rfl rfl ?_
  refine kg_get (v := .int (h 0 11)) hk_130 rfl wk_0_11 rfl rfl ?_
  refine kg_push (x := 2) hk_130 rfl (by decide) rfl ?_
  refine wf_if hF (fun c1 hF => ?_) (fun c1 hF => ?_)
  · refine kg_icF hk_130 rfl (jc_F1 c1) rfl ?_
    refine kg_aload hk_130 rfl rfl rfl ?_
    refine kg_push (x := 65535) hk_130 rfl (by decide) rfl ?_
    refine wf_bind hF (fun v2 hv2 hF => ?_)
    refine kg_call (as := [.ref (0 + 1), .int 65535]) (rest := []) hk_130 rfl (Or.inr (Or.inr (Or.inr ⟨Or.inl rfl, _, _, rfl, wc_0⟩))) rfl rfl rfl (Nat.not_lt.mpr (Nat.le_of_ble_eq_true rfl)) (p_137_ok hv2) (by decide) rfl ?_
    have hF := Option.some.inj hF
    subst hF
    exact kg_ret hk_130 rfl rfl
  · refine kg_icT hk_130 rfl (jc_T1 c1) ?_
    have hF := Option.some.inj hF
    subst hF
    exact kg_ret hk_130 rfl rfl
