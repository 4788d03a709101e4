/-! ===== the methods as functions over the flat heap, and that the interpreter does what they say (printed by wip/whole/dec.py) ===== -/
-- NotebookWeirModel.runsWith(I)I
theorem hk_225 : jP[225]? = some (jc_225, 2, [], []) := by rfl
def p_225 (h : Hp) (x1 : Int32) : Option (Int32 × Hp) :=
  (p_188 h).bind fun v1 =>
  w_gd (w_ix x1 16) <|
  (p_191 v1 ((v1 1121 x1.toNatClampNeg) &&& ((1 <<< (x1 &&& 31)) ^^^ (-1)))).bind fun v3 =>
  w_gd (w_ix x1 16) <|
  (p_189 v3 (v3 1120 x1.toNatClampNeg)).bind fun v5 =>
  if v5 = 0 then
    (some ((-1), v3))
  else
    ((p_224 v3 x1).bind fun v7 =>
    some (v7.1, v7.2))
theorem p_225_ok {X : List Int32}  {h : Hp} {x1 : Int32}  {r : Int32 × Hp} (hF : p_225 h x1 = some r) : k_Ev X 13 225 [.ref (1076 + 1), .int x1] h (.inl (some (.int r.1)), r.2) := by
  refine k_of hk_225 ?_
  show k_Go X 13 225 (0, [.ref (1076 + 1), .int x1], []) h _
  unfold p_225 at hF
  refine kg_aload hk_225 rfl rfl rfl ?_
  refine wf_bind hF (fun v1 hv1 hF => ?_)
  refine kg_call (as := [.ref (1076 + 1)]) (rest := []) hk_225 rfl (Or.inr (Or.inr (Or.inr ⟨Or.inl rfl, _, _, rfl, wc_1076⟩))) rfl rfl rfl (Nat.not_lt.mpr (Nat.le_of_ble_eq_true rfl)) (p_188_ok hv1) (by decide) rfl ?_
  refine kg_aload hk_225 rfl rfl rfl ?_
  refine kg_aload hk_225 rfl rfl rfl ?_
  refine kg_get (v := .ref (1121 + 1)) hk_225 rfl wk_1076_58 rfl rfl ?_
  refine kg_iload hk_225 rfl rfl rfl ?_
  refine wf_gd hF (fun g2 hF => ?_)
  refine kg_ald (y := (v1 1121 x1.toNatClampNeg)) hk_225 rfl wc_1121 g2 rfl rfl ?_
  refine kg_push (x := 1) hk_225 rfl (by decide) rfl ?_
  refine kg_iload hk_225 rfl rfl rfl ?_
  refine kg_bin (z := (1 <<< (x1 &&& 31))) hk_225 rfl rfl rfl ?_
  refine kg_push (x := (-1)) hk_225 rfl (by decide) rfl ?_
  refine kg_bin (z := ((1 <<< (x1 &&& 31)) ^^^ (-1))) hk_225 rfl rfl rfl ?_
  refine kg_bin (z := ((v1 1121 x1.toNatClampNeg) &&& ((1 <<< (x1 &&& 31)) ^^^ (-1)))) hk_225 rfl rfl rfl ?_
  refine wf_bind hF (fun v3 hv3 hF => ?_)
  refine kg_call (as := [.ref (1076 + 1), .int ((v1 1121 x1.toNatClampNeg) &&& ((1 <<< (x1 &&& 31)) ^^^ (-1)))]) (rest := []) hk_225 rfl (Or.inr (Or.inr (Or.inr ⟨Or.inl rfl, _, _, rfl, wc_1076⟩))) rfl rfl rfl (Nat.not_lt.mpr (Nat.le_of_ble_eq_true rfl)) (p_191_ok hv3) (by decide) rfl ?_
  refine kg_aload hk_225 rfl rfl rfl ?_
  refine kg_aload hk_225 rfl rfl rfl ?_
  refine kg_get (v := .ref (1120 + 1)) hk_225 rfl wk_1076_57 rfl rfl ?_
  refine kg_iload hk_225 rfl rfl rfl ?_
  refine wf_gd hF (fun g4 hF => ?_)
  refine kg_ald (y := (v3 1120 x1.toNatClampNeg)) hk_225 rfl wc_1120 g4 rfl rfl ?_
  refine wf_bind hF (fun v5 hv5 hF => ?_)
  refine kg_call (as := [.ref (1076 + 1), .int (v3 1120 x1.toNatClampNeg)]) (rest := []) hk_225 rfl (Or.inr (Or.inr (Or.inr ⟨Or.inl rfl, _, _, rfl, wc_1076⟩))) rfl rfl rfl (Nat.not_lt.mpr (Nat.le_of_ble_eq_true rfl)) (p_189_ok hv5) (by decide) rfl ?_
  refine wf_if hF (fun c6 hF => ?_) (fun c6 hF => ?_)
  · refine kg_ifT hk_225 rfl (jc_T0 c6) ?_
    refine kg_push (x := (-1)) hk_225 rfl (by decide) rfl ?_
    have hF := Option.some.inj hF
    subst hF
    exact kg_iret hk_225 rfl (Or.inl rfl) rfl
  · refine kg_ifF hk_225 rfl (jc_F0 c6) rfl ?_
    refine kg_aload hk_225 rfl rfl rfl ?_
    refine kg_iload hk_225 rfl rfl rfl ?_
    refine wf_bind hF (fun v7 hv7 hF => ?_)
    refine kg_call (as := [.ref (1076 + 1), .int x1]) (rest := []) hk_225 rfl (Or.inr (Or.inr (Or.inr ⟨Or.inl rfl, _, _, rfl, wc_1076⟩))) rfl rfl rfl (Nat.not_lt.mpr (Nat.le_of_ble_eq_true rfl)) (p_224_ok hv7) (by decide) rfl ?_
    refine kg_goto hk_225 rfl ?_
    have hF := Option.some.inj hF
    subst hF
    exact kg_iret hk_225 rfl (Or.inl rfl) rfl
-- NotebookWeirModel.run(I)I
theorem hk_226 : jP[226]? = some (jc_226, 3, [], []) := by rfl
def q_226_19 (h : Hp) (x1 : Int32) (s0 : Int32) (s1 : Int32) : Option (Int32 × Hp) :=
  (p_146 h s1 s0 1).bind fun v6 =>
  if v6.1 = 0 then
    (some (0, v6.2))
  else
    ((p_225 v6.2 x1).bind fun v8 =>
    some (v8.1, v8.2))
theorem q_226_19_ok {X : List Int32}   {h : Hp} {s0 : Int32} {s1 : Int32} {x1 : Int32}  {r : Int32 × Hp} (hF : q_226_19 h x1 s0 s1 = some r)  : ∀ (u2 : Value), k_Go X 14 226 (19, [.ref (1076 + 1), .int x1, u2], [.int s0, .int s1, .ref (1076 + 1)]) h (.inl (some (.int r.1)), r.2) := by
  intro u2
  unfold q_226_19 at hF
  refine kg_push (x := 1) hk_226 rfl (by decide) rfl ?_
  refine wf_bind hF (fun v6 hv6 hF => ?_)
  refine kg_call (as := [.ref (1076 + 1), .int s1, .int s0, .int 1]) (rest := []) hk_226 rfl (Or.inr (Or.inr (Or.inr ⟨Or.inl rfl, _, _, rfl, wc_1076⟩))) rfl rfl rfl (Nat.not_lt.mpr (Nat.le_of_ble_eq_true rfl)) (p_146_ok hv6) (by decide) rfl ?_
  refine wf_if hF (fun c7 hF => ?_) (fun c7 hF => ?_)
  · refine kg_ifT hk_226 rfl (jc_T0 c7) ?_
    refine kg_push (x := 0) hk_226 rfl (by decide) rfl ?_
    have hF := Option.some.inj hF
    subst hF
    exact kg_iret hk_226 rfl (Or.inl rfl) rfl
  · refine kg_ifF hk_226 rfl (jc_F0 c7) rfl ?_
    refine kg_aload hk_226 rfl rfl rfl ?_
    refine kg_iload hk_226 rfl rfl rfl ?_
    refine wf_bind hF (fun v8 hv8 hF => ?_)
    refine kg_call (as := [.ref (1076 + 1), .int x1]) (rest := []) hk_226 rfl (Or.inr (Or.inr (Or.inr ⟨Or.inl rfl, _, _, rfl, wc_1076⟩))) rfl rfl rfl (Nat.not_lt.mpr (Nat.le_of_ble_eq_true rfl)) (p_225_ok hv8) (by decide) rfl ?_
    refine kg_goto hk_226 rfl ?_
    have hF := Option.some.inj hF
    subst hF
    exact kg_iret hk_226 rfl (Or.inl rfl) rfl
def p_226 (h : Hp) (x1 : Int32) : Option (Int32 × Hp) :=
  (p_188 h).bind fun v1 =>
  w_gd ((if (v_167 h x1) = 0 then true else w_ix x1 16)) <|
  q_226_19 v1 x1 (if (v_167 h x1) = 0 then 0 else (if (v1 1122 x1.toNatClampNeg) < 3 then 1 else 0)) (v_167 h x1)
theorem p_226_ok {X : List Int32}  {h : Hp} {x1 : Int32}  {r : Int32 × Hp} (hF : p_226 h x1 = some r) : k_Ev X 14 226 [.ref (1076 + 1), .int x1] h (.inl (some (.int r.1)), r.2) := by
  refine k_of hk_226 ?_
  show k_Go X 14 226 (0, [.ref (1076 + 1), .int x1, (.retAddr 0)], []) h _
  unfold p_226 at hF
  refine kg_aload hk_226 rfl rfl rfl ?_
  refine kg_iload hk_226 rfl rfl rfl ?_
  refine kg_call (as := [.ref (1076 + 1), .int x1]) (rest := []) hk_226 rfl (Or.inr (Or.inr (Or.inr ⟨Or.inl rfl, _, _, rfl, wc_1076⟩))) rfl rfl rfl (Nat.not_lt.mpr (Nat.le_of_ble_eq_true rfl)) (v_167_ok) (by decide) rfl ?_
  refine kg_istore (L2 := [.ref (1076 + 1), .int x1, .int (v_167 h x1)]) hk_226 rfl (Nat.le_of_ble_eq_true rfl) rfl rfl ?_
  refine kg_aload hk_226 rfl rfl rfl ?_
  refine wf_bind hF (fun v1 hv1 hF => ?_)
  refine kg_call (as := [.ref (1076 + 1)]) (rest := []) hk_226 rfl (Or.inr (Or.inr (Or.inr ⟨Or.inl rfl, _, _, rfl, wc_1076⟩))) rfl rfl rfl (Nat.not_lt.mpr (Nat.le_of_ble_eq_true rfl)) (p_188_ok hv1) (by decide) rfl ?_
  refine kg_aload hk_226 rfl rfl rfl ?_
  refine kg_iload hk_226 rfl rfl rfl ?_
  refine kg_iload hk_226 rfl rfl rfl ?_
  refine wf_gd hF (fun g5 hF => ?_)
  refine kv_mid (p := 19) (L := [.ref (1076 + 1), .int x1, .int (v_167 h x1)]) (S := [.int (if (v_167 h x1) = 0 then 0 else (if (v1 1122 x1.toNatClampNeg) < 3 then 1 else 0)), .int (v_167 h x1), .ref (1076 + 1)]) ?_ (fun hK => ?_)
  · exact q_226_19_ok hF _
  · have hg := g5
    by_cases c2 : (v_167 h x1) = 0
    · have hK := kv_T c2 hK
      refine kg_ifT hk_226 rfl (jc_T0 c2) ?_
      refine kg_push (x := 0) hk_226 rfl (by decide) rfl ?_
      exact hK
    · have hg := wv_F c2 hg
      have hK := kv_F c2 hK
      have g3 := hg
      refine kg_ifF hk_226 rfl (jc_F0 c2) rfl ?_
      refine kg_aload hk_226 rfl rfl rfl ?_
      refine kg_get (v := .ref (1122 + 1)) hk_226 rfl wk_1076_59 rfl rfl ?_
      refine kg_iload hk_226 rfl rfl rfl ?_
      refine kg_ald (y := (v1 1122 x1.toNatClampNeg)) hk_226 rfl wc_1122 g3 rfl rfl ?_
      refine kg_push (x := 3) hk_226 rfl (by decide) rfl ?_
      by_cases c4 : (v1 1122 x1.toNatClampNeg) < 3
      · have hK := kv_T c4 hK
        refine kg_icF hk_226 rfl (jc_F3 c4) rfl ?_
        refine kg_push (x := 1) hk_226 rfl (by decide) rfl ?_
        refine kg_goto hk_226 rfl ?_
        exact hK
      · have hK := kv_F c4 hK
        refine kg_icT hk_226 rfl (jc_T3 c4) ?_
        refine kg_push (x := 0) hk_226 rfl (by decide) rfl ?_
        exact hK
-- NotebookWeirModel.checkpoint()I
theorem hk_227 : jP[227]? = some (jc_227, 5, [], []) := by rfl
def l_227_34 (h : Hp) (x2 : Int32) (x3 : Int32) (x4 : Int32) : Option ((Int32 × Int32) ⊕ Int32) :=
  if x4 < 26 then
    (if x3 = 0 then
      (some (.inr x3))
    else
      (w_gd (w_ix ((234 * x2) + (9 * x4)) 3744) <|
      some (.inl ((if (h 1093 ((234 * x2) + (9 * x4)).toNatClampNeg) < 0 then 1 else 0), (x4 + 1)))))
  else
    (some (.inr x3))
theorem l_227_34_st {X : List Int32} {o : kO}  {h : Hp} {x1 : Int32} {x2 : Int32} {x3 : Int32} {x4 : Int32}  {r : (Int32 × Int32) ⊕ Int32} (hF : l_227_34 h x2 x3 x4 = some r) (hK : ∀ s' : Int32 × Int32, r = .inl s' → k_Go X 7 227 (34, [.ref (1076 + 1), .int x1, .int x2, .int (s'.1), .int (s'.2)], []) h o) (hX0 : ∀ e : Int32, r = .inr e → ∀ (u4 : Value), k_Go X 7 227 (56, [.ref (1076 + 1), .int x1, .int x2, .int e, u4], []) h o) : k_Go X 7 227 (34, [.ref (1076 + 1), .int x1, .int x2, .int x3, .int x4], []) h o := by
  refine kg_iload hk_227 rfl rfl rfl ?_
  refine kg_push (x := 26) hk_227 rfl (by decide) rfl ?_
  refine wf_if hF (fun c10 hF => ?_) (fun c10 hF => ?_)
  · refine kg_icF hk_227 rfl (jc_F3 c10) rfl ?_
    refine kg_iload hk_227 rfl rfl rfl ?_
    refine wf_if hF (fun c11 hF => ?_) (fun c11 hF => ?_)
    · refine kg_ifT hk_227 rfl (jc_T0 c11) ?_
      have hF := Option.some.inj hF
      exact hX0 _ hF.symm _
    · refine kg_ifF hk_227 rfl (jc_F0 c11) rfl ?_
      refine kg_aload hk_227 rfl rfl rfl ?_
      refine kg_get (v := .ref (1093 + 1)) hk_227 rfl wk_1076_17 rfl rfl ?_
      refine kg_push (x := 234) hk_227 rfl (by decide) rfl ?_
      refine kg_iload hk_227 rfl rfl rfl ?_
      refine kg_bin (z := (234 * x2)) hk_227 rfl rfl rfl ?_
      refine kg_push (x := 9) hk_227 rfl (by decide) rfl ?_
      refine kg_iload hk_227 rfl rfl rfl ?_
      refine kg_bin (z := (9 * x4)) hk_227 rfl rfl rfl ?_
      refine kg_bin (z := ((234 * x2) + (9 * x4))) hk_227 rfl rfl rfl ?_
      refine wf_gd hF (fun g12 hF => ?_)
      refine kg_ald (y := (h 1093 ((234 * x2) + (9 * x4)).toNatClampNeg)) hk_227 rfl wc_1093 g12 rfl rfl ?_
      refine kv_mid (p := 53) (L := [.ref (1076 + 1), .int x1, .int x2, .int x3, .int x4]) (S := [.int (if (h 1093 ((234 * x2) + (9 * x4)).toNatClampNeg) < 0 then 1 else 0)]) ?_ (fun hK => ?_)
      · refine kg_istore (L2 := [.ref (1076 + 1), .int x1, .int x2, .int (if (h 1093 ((234 * x2) + (9 * x4)).toNatClampNeg) < 0 then 1 else 0), .int x4]) hk_227 rfl (Nat.le_of_ble_eq_true rfl) rfl rfl ?_
        refine kg_iinc (y := (x4 + 1)) (L2 := [.ref (1076 + 1), .int x1, .int x2, .int (if (h 1093 ((234 * x2) + (9 * x4)).toNatClampNeg) < 0 then 1 else 0), .int (x4 + 1)]) hk_227 rfl rfl rfl rfl rfl ?_
        refine kg_goto hk_227 rfl ?_
        have hF := Option.some.inj hF
        exact hK _ hF.symm
      · by_cases c13 : (h 1093 ((234 * x2) + (9 * x4)).toNatClampNeg) < 0
        · have hK := kv_T c13 hK
          refine kg_ifF hk_227 rfl (jc_F3 c13) rfl ?_
          refine kg_push (x := 1) hk_227 rfl (by decide) rfl ?_
          refine kg_goto hk_227 rfl ?_
          exact hK
        · have hK := kv_F c13 hK
          refine kg_ifT hk_227 rfl (jc_T3 c13) ?_
          refine kg_push (x := 0) hk_227 rfl (by decide) rfl ?_
          exact hK
  · refine kg_icT hk_227 rfl (jc_T3 c10) ?_
    have hF := Option.some.inj hF
    exact hX0 _ hF.symm _
theorem l_227_34_ok {X : List Int32} {o : kO}  {h : Hp} {x1 : Int32} {x2 : Int32}  {n : Nat} {s : Int32 × Int32} {e : Int32} (hF : w_lp (fun (s : Int32 × Int32) => l_227_34 h x2 s.1 s.2) n s = some e) (hX0 : ∀ (u4 : Value), k_Go X 7 227 (56, [.ref (1076 + 1), .int x1, .int x2, .int e, u4], []) h o) : k_Go X 7 227 (34, [.ref (1076 + 1), .int x1, .int x2, .int s.1, .int s.2], []) h o := by
  exact w_lp_ok (P := (fun (s : Int32 × Int32) => k_Go X 7 227 (34, [.ref (1076 + 1), .int x1, .int x2, .int s.1, .int s.2], []) h o)) (Q := (fun (e : Int32) => (∀ (u4 : Value), k_Go X 7 227 (56, [.ref (1076 + 1), .int x1, .int x2, .int e, u4], []) h o))) (fun s r hF hK hX => l_227_34_st hF hK (fun x hx => (hX _ hx))) n s e hF hX0
def l_227_58 (h : Hp) (x2 : Int32) (x3 : Int32) (x4 : Int32) : Option ((Int32 × Int32) ⊕ Int32) :=
  if x3 = 0 then
    (some (.inr x3))
  else
    (w_gd (w_ix x2 16) <|
    if x4 < (h 1080 x2.toNatClampNeg) then
      (w_gd (w_ix ((40 * x2) + x4) 640) <|
      w_gd ((if (h 1079 ((40 * x2) + x4).toNatClampNeg) = 63 then true else w_ix ((40 * x2) + x4) 640)) <|
      some (.inl ((if (h 1079 ((40 * x2) + x4).toNatClampNeg) = 63 then 0 else (if (h 1079 ((40 * x2) + x4).toNatClampNeg) = 64 then 0 else 1)), (x4 + 1))))
    else
      (some (.inr x3)))
theorem l_227_58_st {X : List Int32} {o : kO}  {h : Hp} {x1 : Int32} {x2 : Int32} {x3 : Int32} {x4 : Int32}  {r : (Int32 × Int32) ⊕ Int32} (hF : l_227_58 h x2 x3 x4 = some r) (hK : ∀ s' : Int32 × Int32, r = .inl s' → k_Go X 7 227 (58, [.ref (1076 + 1), .int x1, .int x2, .int (s'.1), .int (s'.2)], []) h o) (hX0 : ∀ e : Int32, r = .inr e → ∀ (u4 : Value), k_Go X 7 227 (92, [.ref (1076 + 1), .int x1, .int x2, .int e, u4], []) h o) : k_Go X 7 227 (58, [.ref (1076 + 1), .int x1, .int x2, .int x3, .int x4], []) h o := by
  refine kg_iload hk_227 rfl rfl rfl ?_
  refine wf_if hF (fun c15 hF => ?_) (fun c15 hF => ?_)
  · refine kg_ifT hk_227 rfl (jc_T0 c15) ?_
    have hF := Option.some.inj hF
    exact hX0 _ hF.symm _
  · refine kg_ifF hk_227 rfl (jc_F0 c15) rfl ?_
    refine kg_iload hk_227 rfl rfl rfl ?_
    refine kg_aload hk_227 rfl rfl rfl ?_
    refine kg_get (v := .ref (1080 + 1)) hk_227 rfl wk_1076_4 rfl rfl ?_
    refine kg_iload hk_227 rfl rfl rfl ?_
    refine wf_gd hF (fun g16 hF => ?_)
    refine kg_ald (y := (h 1080 x2.toNatClampNeg)) hk_227 rfl wc_1080 g16 rfl rfl ?_
    refine wf_if hF (fun c17 hF => ?_) (fun c17 hF => ?_)
    · refine kg_icF hk_227 rfl (jc_F3 c17) rfl ?_
      refine kg_aload hk_227 rfl rfl rfl ?_
      refine kg_get (v := .ref (1079 + 1)) hk_227 rfl wk_1076_3 rfl rfl ?_
      refine kg_push (x := 40) hk_227 rfl (by decide) rfl ?_
      refine kg_iload hk_227 rfl rfl rfl ?_
      refine kg_bin (z := (40 * x2)) hk_227 rfl rfl rfl ?_
      refine kg_iload hk_227 rfl rfl rfl ?_
      refine kg_bin (z := ((40 * x2) + x4)) hk_227 rfl rfl rfl ?_
      refine wf_gd hF (fun g18 hF => ?_)
      refine kg_ald (y := (h 1079 ((40 * x2) + x4).toNatClampNeg)) hk_227 rfl wc_1079 g18 rfl rfl ?_
      refine kg_push (x := 63) hk_227 rfl (by decide) rfl ?_
      refine wf_gd hF (fun g22 hF => ?_)
      refine kv_mid (p := 89) (L := [.ref (1076 + 1), .int x1, .int x2, .int x3, .int x4]) (S := [.int (if (h 1079 ((40 * x2) + x4).toNatClampNeg) = 63 then 0 else (if (h 1079 ((40 * x2) + x4).toNatClampNeg) = 64 then 0 else 1))]) ?_ (fun hK => ?_)
      · refine kg_istore (L2 := [.ref (1076 + 1), .int x1, .int x2, .int (if (h 1079 ((40 * x2) + x4).toNatClampNeg) = 63 then 0 else (if (h 1079 ((40 * x2) + x4).toNatClampNeg) = 64 then 0 else 1)), .int x4]) hk_227 rfl (Nat.le_of_ble_eq_true rfl) rfl rfl ?_
        refine kg_iinc (y := (x4 + 1)) (L2 := [.ref (1076 + 1), .int x1, .int x2, .int (if (h 1079 ((40 * x2) + x4).toNatClampNeg) = 63 then 0 else (if (h 1079 ((40 * x2) + x4).toNatClampNeg) = 64 then 0 else 1)), .int (x4 + 1)]) hk_227 rfl rfl rfl rfl rfl ?_
        refine kg_goto hk_227 rfl ?_
        have hF := Option.some.inj hF
        exact hK _ hF.symm
      · have hg := g22
        by_cases c19 : (h 1079 ((40 * x2) + x4).toNatClampNeg) = 63
        · have hK := kv_T c19 hK
          refine kg_icT hk_227 rfl (jc_T0 c19) ?_
          refine kg_push (x := 0) hk_227 rfl (by decide) rfl ?_
          exact hK
        · have hg := wv_F c19 hg
          have hK := kv_F c19 hK
          have g20 := hg
          refine kg_icF hk_227 rfl (jc_F0 c19) rfl ?_
          refine kg_aload hk_227 rfl rfl rfl ?_
          refine kg_get (v := .ref (1079 + 1)) hk_227 rfl wk_1076_3 rfl rfl ?_
          refine kg_push (x := 40) hk_227 rfl (by decide) rfl ?_
          refine kg_iload hk_227 rfl rfl rfl ?_
          refine kg_bin (z := (40 * x2)) hk_227 rfl rfl rfl ?_
          refine kg_iload hk_227 rfl rfl rfl ?_
          refine kg_bin (z := ((40 * x2) + x4)) hk_227 rfl rfl rfl ?_
          refine kg_ald (y := (h 1079 ((40 * x2) + x4).toNatClampNeg)) hk_227 rfl wc_1079 g20 rfl rfl ?_
          refine kg_push (x := 64) hk_227 rfl (by decide) rfl ?_
          by_cases c21 : (h 1079 ((40 * x2) + x4).toNatClampNeg) = 64
          · have hK := kv_T c21 hK
            refine kg_icT hk_227 rfl (jc_T0 c21) ?_
            refine kg_push (x := 0) hk_227 rfl (by decide) rfl ?_
            exact hK
          · have hK := kv_F c21 hK
            refine kg_icF hk_227 rfl (jc_F0 c21) rfl ?_
            refine kg_push (x := 1) hk_227 rfl (by decide) rfl ?_
            refine kg_goto hk_227 rfl ?_
            exact hK
    · refine kg_icT hk_227 rfl (jc_T3 c17) ?_
      have hF := Option.some.inj hF
      exact hX0 _ hF.symm _
theorem l_227_58_ok {X : List Int32} {o : kO}  {h : Hp} {x1 : Int32} {x2 : Int32}  {n : Nat} {s : Int32 × Int32} {e : Int32} (hF : w_lp (fun (s : Int32 × Int32) => l_227_58 h x2 s.1 s.2) n s = some e) (hX0 : ∀ (u4 : Value), k_Go X 7 227 (92, [.ref (1076 + 1), .int x1, .int x2, .int e, u4], []) h o) : k_Go X 7 227 (58, [.ref (1076 + 1), .int x1, .int x2, .int s.1, .int s.2], []) h o := by
  exact w_lp_ok (P := (fun (s : Int32 × Int32) => k_Go X 7 227 (58, [.ref (1076 + 1), .int x1, .int x2, .int s.1, .int s.2], []) h o)) (Q := (fun (e : Int32) => (∀ (u4 : Value), k_Go X 7 227 (92, [.ref (1076 + 1), .int x1, .int x2, .int e, u4], []) h o))) (fun s r hF hK hX => l_227_58_st hF hK (fun x hx => (hX _ hx))) n s e hF hX0
def l_227_126 (x2 : Int32) (x4 : Int32) (h : Hp) : Option ((Int32 × Hp) ⊕ Hp) :=
  if x4 < 234 then
    (w_gd (w_ix ((234 * x2) + x4) 3744) <|
    w_gd (w_ix ((234 * x2) + x4) 3744) <|
    w_let (w_up h 1110 (((234 * x2) + x4).toNatClampNeg) (h 1093 ((234 * x2) + x4).toNatClampNeg)) fun h35 =>
    some (.inl ((x4 + 1), h35)))
  else
    (some (.inr h))
theorem l_227_126_st {X : List Int32} {o : kO}  {h : Hp} {x1 : Int32} {x2 : Int32} {x4 : Int32}  {r : (Int32 × Hp) ⊕ Hp} (hF : l_227_126 x2 x4 h = some r) (hK : ∀ s' : Int32 × Hp, r = .inl s' → ∀ (u3 : Value), k_Go X 7 227 (126, [.ref (1076 + 1), .int x1, .int x2, u3, .int (s'.1)], []) s'.2 o) (hX0 : ∀ e : Hp, r = .inr e → ∀ (u3 : Value) (u4 : Value), k_Go X 7 227 (147, [.ref (1076 + 1), .int x1, .int x2, u3, u4], []) e o) : ∀ (u3 : Value), k_Go X 7 227 (126, [.ref (1076 + 1), .int x1, .int x2, u3, .int x4], []) h o := by
  intro u3
  refine kg_iload hk_227 rfl rfl rfl ?_
  refine kg_push (x := 234) hk_227 rfl (by decide) rfl ?_
  refine wf_if hF (fun c32 hF => ?_) (fun c32 hF => ?_)
  · refine kg_icF hk_227 rfl (jc_F3 c32) rfl ?_
    refine kg_aload hk_227 rfl rfl rfl ?_
    refine kg_get (v := .ref (1110 + 1)) hk_227 rfl wk_1076_43 rfl rfl ?_
    refine kg_push (x := 234) hk_227 rfl (by decide) rfl ?_
    refine kg_iload hk_227 rfl rfl rfl ?_
    refine kg_bin (z := (234 * x2)) hk_227 rfl rfl rfl ?_
    refine kg_iload hk_227 rfl rfl rfl ?_
    refine kg_bin (z := ((234 * x2) + x4)) hk_227 rfl rfl rfl ?_
    refine kg_aload hk_227 rfl rfl rfl ?_
    refine kg_get (v := .ref (1093 + 1)) hk_227 rfl wk_1076_17 rfl rfl ?_
    refine kg_push (x := 234) hk_227 rfl (by decide) rfl ?_
    refine kg_iload hk_227 rfl rfl rfl ?_
    refine kg_bin (z := (234 * x2)) hk_227 rfl rfl rfl ?_
    refine kg_iload hk_227 rfl rfl rfl ?_
    refine kg_bin (z := ((234 * x2) + x4)) hk_227 rfl rfl rfl ?_
    refine wf_gd hF (fun g33 hF => ?_)
    refine kg_ald (y := (h 1093 ((234 * x2) + x4).toNatClampNeg)) hk_227 rfl wc_1093 g33 rfl rfl ?_
    refine wf_gd hF (fun g34 hF => ?_)
    refine wf_let hF (fun h35 hh35 hF => ?_)
    refine kg_ast hk_227 rfl wc_1110 g34 (by rw [j_nar50]; exact hh35) rfl ?_
    refine kg_iinc (y := (x4 + 1)) (L2 := [.ref (1076 + 1), .int x1, .int x2, u3, .int (x4 + 1)]) hk_227 rfl rfl rfl rfl rfl ?_
    refine kg_goto hk_227 rfl ?_
    have hF := Option.some.inj hF
    exact hK _ hF.symm _
  · refine kg_icT hk_227 rfl (jc_T3 c32) ?_
    have hF := Option.some.inj hF
    exact hX0 _ hF.symm _ _
theorem l_227_126_ok {X : List Int32} {o : kO}  {x1 : Int32} {x2 : Int32}  {n : Nat} {s : Int32 × Hp} {e : Hp} (hF : w_lp (fun (s : Int32 × Hp) => l_227_126 x2 s.1 s.2) n s = some e) (hX0 : ∀ (u3 : Value) (u4 : Value), k_Go X 7 227 (147, [.ref (1076 + 1), .int x1, .int x2, u3, u4], []) e o) : ∀ (u3 : Value), k_Go X 7 227 (126, [.ref (1076 + 1), .int x1, .int x2, u3, .int s.1], []) s.2 o := by
  exact w_lp_ok (P := (fun (s : Int32 × Hp) => ∀ (u3 : Value), k_Go X 7 227 (126, [.ref (1076 + 1), .int x1, .int x2, u3, .int s.1], []) s.2 o)) (Q := (fun (e : Hp) => (∀ (u3 : Value) (u4 : Value), k_Go X 7 227 (147, [.ref (1076 + 1), .int x1, .int x2, u3, u4], []) e o))) (fun s r hF hK hX => l_227_126_st hF hK (fun x hx => (hX _ hx))) n s e hF hX0
def q_227_92 (h : Hp) (x1 : Int32) (x2 : Int32) (x3 : Int32) : Option ((Int32 × Int32 × Hp) ⊕ Int32 × Hp) :=
  w_gd (w_ix x2 16) <|
  w_let (w_up h 1106 x2.toNatClampNeg (j_nar 52 x3)) fun h25 =>
  if x3 = 0 then
    (some (.inl (x1, (x2 + 1), h25)))
  else
    ((p_215 h25 x2 1107 (40 * x2)).bind fun v27 =>
    w_gd (w_ix x2 16) <|
    w_gd (w_ix x2 16) <|
    w_let (w_up v27 1108 x2.toNatClampNeg (v27 1080 x2.toNatClampNeg)) fun h30 =>
    (p_219 h30 x2 1109 (234 * x2)).bind fun v31 =>
    (w_lp (fun (s : Int32 × Hp) => l_227_126 x2 s.1 s.2) w_N (0, v31)).bind fun e36 =>
    (p_193 e36 1094 (9 * x2) 1111 (9 * x2)).bind fun v37 =>
    some (.inl ((x1 + 1), (x2 + 1), v37)))
theorem q_227_92_ok {X : List Int32} {o : kO}  {h : Hp} {x1 : Int32} {x2 : Int32} {x3 : Int32}  {r : (Int32 × Int32 × Hp) ⊕ Int32 × Hp} (hF : q_227_92 h x1 x2 x3 = some r) (hK : ∀ s' : Int32 × Int32 × Hp, r = .inl s' → ∀ (u3 : Value) (u4 : Value), k_Go X 7 227 (9, [.ref (1076 + 1), .int (s'.1), .int (s'.2.1), u3, u4], []) s'.2.2 o) (hX0 : ∀ e : Int32 × Hp, r = .inr e → (.inl (some (.int e.1)), e.2) = o) : ∀ (u4 : Value), k_Go X 7 227 (92, [.ref (1076 + 1), .int x1, .int x2, .int x3, u4], []) h o := by
  intro u4
  unfold q_227_92 at hF
  refine kg_aload hk_227 rfl rfl rfl ?_
  refine kg_get (v := .ref (1106 + 1)) hk_227 rfl wk_1076_39 rfl rfl ?_
  refine kg_iload hk_227 rfl rfl rfl ?_
  refine kg_iload hk_227 rfl rfl rfl ?_
  refine wf_gd hF (fun g24 hF => ?_)
  refine wf_let hF (fun h25 hh25 hF => ?_)
  refine kg_ast hk_227 rfl wc_1106 g24 hh25 rfl ?_
  refine kg_iload hk_227 rfl rfl rfl ?_
  refine wf_if hF (fun c26 hF => ?_) (fun c26 hF => ?_)
  · refine kg_ifT hk_227 rfl (jc_T0 c26) ?_
    refine kg_iinc (y := (x2 + 1)) (L2 := [.ref (1076 + 1), .int x1, .int (x2 + 1), .int x3, u4]) hk_227 rfl rfl rfl rfl rfl ?_
    refine kg_goto hk_227 rfl ?_
    have hF := Option.some.inj hF
    exact hK _ hF.symm _ _
  · refine kg_ifF hk_227 rfl (jc_F0 c26) rfl ?_
    refine kg_iinc (y := (x1 + 1)) (L2 := [.ref (1076 + 1), .int (x1 + 1), .int x2, .int x3, u4]) hk_227 rfl rfl rfl rfl rfl ?_
    refine kg_aload hk_227 rfl rfl rfl ?_
    refine kg_iload hk_227 rfl rfl rfl ?_
    refine kg_aload hk_227 rfl rfl rfl ?_
    refine kg_get (v := .ref (1107 + 1)) hk_227 rfl wk_1076_40 rfl rfl ?_
    refine kg_push (x := 40) hk_227 rfl (by decide) rfl ?_
    refine kg_iload hk_227 rfl rfl rfl ?_
    refine kg_bin (z := (40 * x2)) hk_227 rfl rfl rfl ?_
    refine wf_bind hF (fun v27 hv27 hF => ?_)
    refine kg_call (as := [.ref (1076 + 1), .int x2, .ref (1107 + 1), .int (40 * x2)]) (rest := []) hk_227 rfl (Or.inr (Or.inr (Or.inr ⟨Or.inl rfl, _, _, rfl, wc_1076⟩))) rfl rfl rfl (Nat.not_lt.mpr (Nat.le_of_ble_eq_true rfl)) (p_215_ok wc_1107 hv27) (by decide) rfl ?_
    refine kg_aload hk_227 rfl rfl rfl ?_
    refine kg_get (v := .ref (1108 + 1)) hk_227 rfl wk_1076_41 rfl rfl ?_
    refine kg_iload hk_227 rfl rfl rfl ?_
    refine kg_aload hk_227 rfl rfl rfl ?_
    refine kg_get (v := .ref (1080 + 1)) hk_227 rfl wk_1076_4 rfl rfl ?_
    refine kg_iload hk_227 rfl rfl rfl ?_
    refine wf_gd hF (fun g28 hF => ?_)
    refine kg_ald (y := (v27 1080 x2.toNatClampNeg)) hk_227 rfl wc_1080 g28 rfl rfl ?_
    refine wf_gd hF (fun g29 hF => ?_)
    refine wf_let hF (fun h30 hh30 hF => ?_)
    refine kg_ast hk_227 rfl wc_1108 g29 (by rw [j_nar50]; exact hh30) rfl ?_
    refine kg_aload hk_227 rfl rfl rfl ?_
    refine kg_iload hk_227 rfl rfl rfl ?_
    refine kg_aload hk_227 rfl rfl rfl ?_
    refine kg_get (v := .ref (1109 + 1)) hk_227 rfl wk_1076_42 rfl rfl ?_
    refine kg_push (x := 234) hk_227 rfl (by decide) rfl ?_
    refine kg_iload hk_227 rfl rfl rfl ?_
    refine kg_bin (z := (234 * x2)) hk_227 rfl rfl rfl ?_
    refine wf_bind hF (fun v31 hv31 hF => ?_)
    refine kg_call (as := [.ref (1076 + 1), .int x2, .ref (1109 + 1), .int (234 * x2)]) (rest := []) hk_227 rfl (Or.inr (Or.inr (Or.inr ⟨Or.inl rfl, _, _, rfl, wc_1076⟩))) rfl rfl rfl (Nat.not_lt.mpr (Nat.le_of_ble_eq_true rfl)) (p_219_ok wc_1109 hv31) (by decide) rfl ?_
    refine kg_push (x := 0) hk_227 rfl (by decide) rfl ?_
    refine kg_istore (L2 := [.ref (1076 + 1), .int (x1 + 1), .int x2, .int x3, .int 0]) hk_227 rfl (Nat.le_of_ble_eq_true rfl) rfl rfl ?_
    refine wf_bind hF (fun e36 he36 hF => ?_)
    refine l_227_126_ok he36 ?_ _
    intro u3 u4
    refine kg_aload hk_227 rfl rfl rfl ?_
    refine kg_aload hk_227 rfl rfl rfl ?_
    refine kg_get (v := .ref (1094 + 1)) hk_227 rfl wk_1076_18 rfl rfl ?_
    refine kg_push (x := 9) hk_227 rfl (by decide) rfl ?_
    refine kg_iload hk_227 rfl rfl rfl ?_
    refine kg_bin (z := (9 * x2)) hk_227 rfl rfl rfl ?_
    refine kg_aload hk_227 rfl rfl rfl ?_
    refine kg_get (v := .ref (1111 + 1)) hk_227 rfl wk_1076_44 rfl rfl ?_
    refine kg_push (x := 9) hk_227 rfl (by decide) rfl ?_
    refine kg_iload hk_227 rfl rfl rfl ?_
    refine kg_bin (z := (9 * x2)) hk_227 rfl rfl rfl ?_
    refine wf_bind hF (fun v37 hv37 hF => ?_)
    refine kg_call (as := [.ref (1076 + 1), .ref (1094 + 1), .int (9 * x2), .ref (1111 + 1), .int (9 * x2)]) (rest := []) hk_227 rfl (Or.inr (Or.inr (Or.inr ⟨Or.inl rfl, _, _, rfl, wc_1076⟩))) rfl rfl rfl (Nat.not_lt.mpr (Nat.le_of_ble_eq_true rfl)) (p_193_ok wc_1094 wc_1111 hv37) (by decide) rfl ?_
    refine kg_iinc (y := (x2 + 1)) (L2 := [.ref (1076 + 1), .int (x1 + 1), .int (x2 + 1), u3, u4]) hk_227 rfl rfl rfl rfl rfl ?_
    refine kg_goto hk_227 rfl ?_
    have hF := Option.some.inj hF
    exact hK _ hF.symm _ _
def q_227_56 (h : Hp) (x1 : Int32) (x2 : Int32) (x3 : Int32) : Option ((Int32 × Int32 × Hp) ⊕ Int32 × Hp) :=
  (w_lp (fun (s : Int32 × Int32) => l_227_58 h x2 s.1 s.2) w_N (x3, 0)).bind fun e23 =>
  q_227_92 h x1 x2 e23
theorem q_227_56_ok {X : List Int32} {o : kO}  {h : Hp} {x1 : Int32} {x2 : Int32} {x3 : Int32}  {r : (Int32 × Int32 × Hp) ⊕ Int32 × Hp} (hF : q_227_56 h x1 x2 x3 = some r) (hK : ∀ s' : Int32 × Int32 × Hp, r = .inl s' → ∀ (u3 : Value) (u4 : Value), k_Go X 7 227 (9, [.ref (1076 + 1), .int (s'.1), .int (s'.2.1), u3, u4], []) s'.2.2 o) (hX0 : ∀ e : Int32 × Hp, r = .inr e → (.inl (some (.int e.1)), e.2) = o) : ∀ (u4 : Value), k_Go X 7 227 (56, [.ref (1076 + 1), .int x1, .int x2, .int x3, u4], []) h o := by
  intro u4
  unfold q_227_56 at hF
  refine kg_push (x := 0) hk_227 rfl (by decide) rfl ?_
  refine kg_istore (L2 := [.ref (1076 + 1), .int x1, .int x2, .int x3, .int 0]) hk_227 rfl (Nat.le_of_ble_eq_true rfl) rfl rfl ?_
  refine wf_bind hF (fun e23 he23 hF => ?_)
  refine l_227_58_ok he23 ?_
  intro u4
  exact q_227_92_ok hF hK hX0 _
def q_227_31 (h : Hp) (x1 : Int32) (x2 : Int32) (s0 : Int32) : Option ((Int32 × Int32 × Hp) ⊕ Int32 × Hp) :=
  (w_lp (fun (s : Int32 × Int32) => l_227_34 h x2 s.1 s.2) w_N (s0, 0)).bind fun e14 =>
  q_227_56 h x1 x2 e14
theorem q_227_31_ok {X : List Int32} {o : kO}  {h : Hp} {s0 : Int32} {x1 : Int32} {x2 : Int32}  {r : (Int32 × Int32 × Hp) ⊕ Int32 × Hp} (hF : q_227_31 h x1 x2 s0 = some r) (hK : ∀ s' : Int32 × Int32 × Hp, r = .inl s' → ∀ (u3 : Value) (u4 : Value), k_Go X 7 227 (9, [.ref (1076 + 1), .int (s'.1), .int (s'.2.1), u3, u4], []) s'.2.2 o) (hX0 : ∀ e : Int32 × Hp, r = .inr e → (.inl (some (.int e.1)), e.2) = o) : ∀ (u3 : Value) (u4 : Value), k_Go X 7 227 (31, [.ref (1076 + 1), .int x1, .int x2, u3, u4], [.int s0]) h o := by
  intro u3 u4
  unfold q_227_31 at hF
  refine kg_istore (L2 := [.ref (1076 + 1), .int x1, .int x2, .int s0, u4]) hk_227 rfl (Nat.le_of_ble_eq_true rfl) rfl rfl ?_
  refine kg_push (x := 0) hk_227 rfl (by decide) rfl ?_
  refine kg_istore (L2 := [.ref (1076 + 1), .int x1, .int x2, .int s0, .int 0]) hk_227 rfl (Nat.le_of_ble_eq_true rfl) rfl rfl ?_
  refine wf_bind hF (fun e14 he14 hF => ?_)
  refine l_227_34_ok he14 ?_
  intro u4
  exact q_227_56_ok hF hK hX0 _
def l_227_9 (x1 : Int32) (x2 : Int32) (h : Hp) : Option ((Int32 × Int32 × Hp) ⊕ Int32 × Hp) :=
  if x2 < 16 then
    (w_gd ((if x2 < (h 1076 2) then (w_ix x2 16) && ((if (h 1122 x2.toNatClampNeg) = 0 then w_ix (9 * x2) 144 else true)) else true)) <|
    q_227_31 h x1 x2 (if x2 < (h 1076 2) then (if (h 1122 x2.toNatClampNeg) = 0 then (if (h 1094 (9 * x2).toNatClampNeg) < 0 then 1 else 0) else 0) else 0))
  else
    (some (.inr (x1, h)))
theorem l_227_9_st {X : List Int32} {o : kO}  {h : Hp} {x1 : Int32} {x2 : Int32}  {r : (Int32 × Int32 × Hp) ⊕ Int32 × Hp} (hF : l_227_9 x1 x2 h = some r) (hK : ∀ s' : Int32 × Int32 × Hp, r = .inl s' → ∀ (u3 : Value) (u4 : Value), k_Go X 7 227 (9, [.ref (1076 + 1), .int (s'.1), .int (s'.2.1), u3, u4], []) s'.2.2 o) (hX0 : ∀ e : Int32 × Hp, r = .inr e → (.inl (some (.int e.1)), e.2) = o) : ∀ (u3 : Value) (u4 : Value), k_Go X 7 227 (9, [.ref (1076 + 1), .int x1, .int x2, u3, u4], []) h o := by
  intro u3 u4
  refine kg_iload hk_227 rfl rfl rfl ?_
  refine kg_push (x := 16) hk_227 rfl (by decide) rfl ?_
  refine wf_if hF (fun c3 hF => ?_) (fun c3 hF => ?_)
  · refine kg_icF hk_227 rfl (jc_F3 c3) rfl ?_
    refine kg_iload hk_227 rfl rfl rfl ?_
    refine kg_aload hk_227 rfl rfl rfl ?_
    refine kg_get (v := .int (h 1076 2)) hk_227 rfl wk_1076_2 rfl rfl ?_
    refine wf_gd hF (fun g9 hF => ?_)
    refine kv_mid (p := 31) (L := [.ref (1076 + 1), .int x1, .int x2, u3, u4]) (S := [.int (if x2 < (h 1076 2) then (if (h 1122 x2.toNatClampNeg) = 0 then (if (h 1094 (9 * x2).toNatClampNeg) < 0 then 1 else 0) else 0) else 0)]) ?_ (fun hK => ?_)
    · exact q_227_31_ok hF hK hX0 _ _
    · have hg := g9
      by_cases c4 : x2 < (h 1076 2)
      · have hg := wv_T c4 hg
        have hK := kv_T c4 hK
        have g5 := wb_1 hg
        have hg := wb_2 hg
        refine kg_icF hk_227 rfl (jc_F3 c4) rfl ?_
        refine kg_aload hk_227 rfl rfl rfl ?_
        refine kg_get (v := .ref (1122 + 1)) hk_227 rfl wk_1076_59 rfl rfl ?_
        refine kg_iload hk_227 rfl rfl rfl ?_
        refine kg_ald (y := (h 1122 x2.toNatClampNeg)) hk_227 rfl wc_1122 g5 rfl rfl ?_
        by_cases c6 : (h 1122 x2.toNatClampNeg) = 0
        · have hg := wv_T c6 hg
          have hK := kv_T c6 hK
          have g7 := hg
          refine kg_ifF hk_227 rfl (jc_F1 c6) rfl ?_
          refine kg_aload hk_227 rfl rfl rfl ?_
          refine kg_get (v := .ref (1094 + 1)) hk_227 rfl wk_1076_18 rfl rfl ?_
          refine kg_push (x := 9) hk_227 rfl (by decide) rfl ?_
          refine kg_iload hk_227 rfl rfl rfl ?_
          refine kg_bin (z := (9 * x2)) hk_227 rfl rfl rfl ?_
          refine kg_ald (y := (h 1094 (9 * x2).toNatClampNeg)) hk_227 rfl wc_1094 g7 rfl rfl ?_
          by_cases c8 : (h 1094 (9 * x2).toNatClampNeg) < 0
          · have hK := kv_T c8 hK
            refine kg_ifF hk_227 rfl (jc_F3 c8) rfl ?_
            refine kg_push (x := 1) hk_227 rfl (by decide) rfl ?_
            refine kg_goto hk_227 rfl ?_
            exact hK
          · have hK := kv_F c8 hK
            refine kg_ifT hk_227 rfl (jc_T3 c8) ?_
            refine kg_push (x := 0) hk_227 rfl (by decide) rfl ?_
            exact hK
        · have hK := kv_F c6 hK
          refine kg_ifT hk_227 rfl (jc_T1 c6) ?_
          refine kg_push (x := 0) hk_227 rfl (by decide) rfl ?_
          exact hK
      · have hK := kv_F c4 hK
        refine kg_icT hk_227 rfl (jc_T3 c4) ?_
        refine kg_push (x := 0) hk_227 rfl (by decide) rfl ?_
        exact hK
  · refine kg_icT hk_227 rfl (jc_T3 c3) ?_
    refine kg_iload hk_227 rfl rfl rfl ?_
    have hF := Option.some.inj hF
    exact kg_iret hk_227 rfl (Or.inl rfl) (hX0 _ hF.symm)
theorem l_227_9_ok {X : List Int32} {o : kO}    {n : Nat} {s : Int32 × Int32 × Hp} {e : Int32 × Hp} (hF : w_lp (fun (s : Int32 × Int32 × Hp) => l_227_9 s.1 s.2.1 s.2.2) n s = some e) (hX0 : (.inl (some (.int e.1)), e.2) = o) : ∀ (u3 : Value) (u4 : Value), k_Go X 7 227 (9, [.ref (1076 + 1), .int s.1, .int s.2.1, u3, u4], []) s.2.2 o := by
  exact w_lp_ok (P := (fun (s : Int32 × Int32 × Hp) => ∀ (u3 : Value) (u4 : Value), k_Go X 7 227 (9, [.ref (1076 + 1), .int s.1, .int s.2.1, u3, u4], []) s.2.2 o)) (Q := (fun (e : Int32 × Hp) => ((.inl (some (.int e.1)), e.2) = o))) (fun s r hF hK hX => l_227_9_st hF hK (fun x hx => (hX _ hx))) n s e hF hX0
def p_227 (h : Hp) : Option (Int32 × Hp) :=
  w_let (w_up h 1076 79 0) fun h1 =>
  (p_188 h1).bind fun v2 =>
  w_lp (fun (s : Int32 × Int32 × Hp) => l_227_9 s.1 s.2.1 s.2.2) w_N (0, 0, v2)
theorem p_227_ok {X : List Int32}  {h : Hp}   {r : Int32 × Hp} (hF : p_227 h = some r) : k_Ev X 7 227 [.ref (1076 + 1)] h (.inl (some (.int r.1)), r.2) := by
  refine k_of hk_227 ?_
  show k_Go X 7 227 (0, [.ref (1076 + 1), (.retAddr 0), (.retAddr 0), (.retAddr 0), (.retAddr 0)], []) h _
  unfold p_227 at hF
  refine kg_aload hk_227 rfl rfl rfl ?_
  refine kg_push (x := 0) hk_227 rfl (by decide) rfl ?_
  refine wf_let hF (fun h1 hh1 hF => ?_)
  refine kg_put hk_227 rfl wk_1076_79 rfl rfl hh1 rfl ?_
  refine kg_aload hk_227 rfl rfl rfl ?_
  refine wf_bind hF (fun v2 hv2 hF => ?_)
  refine kg_call (as := [.ref (1076 + 1)]) (rest := []) hk_227 rfl (Or.inr (Or.inr (Or.inr ⟨Or.inl rfl, _, _, rfl, wc_1076⟩))) rfl rfl rfl (Nat.not_lt.mpr (Nat.le_of_ble_eq_true rfl)) (p_188_ok hv2) (by decide) rfl ?_
  refine kg_push (x := 0) hk_227 rfl (by decide) rfl ?_
  refine kg_istore (L2 := [.ref (1076 + 1), .int 0, (.retAddr 0), (.retAddr 0), (.retAddr 0)]) hk_227 rfl (Nat.le_of_ble_eq_true rfl) rfl rfl ?_
  refine kg_push (x := 0) hk_227 rfl (by decide) rfl ?_
  refine kg_istore (L2 := [.ref (1076 + 1), .int 0, .int 0, (.retAddr 0), (.retAddr 0)]) hk_227 rfl (Nat.le_of_ble_eq_true rfl) rfl rfl ?_
  exact l_227_9_ok hF rfl _ _
-- NotebookWeirModel.kill()I
theorem hk_228 : jP[228]? = some (jc_228, 3, [], []) := by rfl
def q_228_59 (h : Hp) (x2 : Int32) (s0 : Int32) (s1 : Int32) : Option ((Int32 × Int32 × Hp) ⊕ Int32 × Hp) :=
  w_gd (w_ix x2 16) <|
  w_let (w_up h 1087 x2.toNatClampNeg 0) fun h15 =>
  w_gd (w_ix x2 16) <|
  w_let (w_up h15 1100 x2.toNatClampNeg 0) fun h17 =>
  some (.inl ((s1 + s0), (x2 + 1), h17))
theorem q_228_59_ok {X : List Int32} {o : kO}  {h : Hp} {s0 : Int32} {s1 : Int32} {x2 : Int32}  {r : (Int32 × Int32 × Hp) ⊕ Int32 × Hp} (hF : q_228_59 h x2 s0 s1 = some r) (hK : ∀ s' : Int32 × Int32 × Hp, r = .inl s' → k_Go X 7 228 (15, [.ref (1076 + 1), .int (s'.1), .int (s'.2.1)], []) s'.2.2 o) (hX0 : ∀ e : Int32 × Hp, r = .inr e → ∀ (u2 : Value), k_Go X 7 228 (73, [.ref (1076 + 1), .int e.1, u2], []) e.2 o) : ∀ (u1 : Value), k_Go X 7 228 (59, [.ref (1076 + 1), u1, .int x2], [.int s0, .int s1]) h o := by
  intro u1
  unfold q_228_59 at hF
  refine kg_bin (z := (s1 + s0)) hk_228 rfl rfl rfl ?_
  refine kg_istore (L2 := [.ref (1076 + 1), .int (s1 + s0), .int x2]) hk_228 rfl (Nat.le_of_ble_eq_true rfl) rfl rfl ?_
  refine kg_aload hk_228 rfl rfl rfl ?_
  refine kg_get (v := .ref (1087 + 1)) hk_228 rfl wk_1076_11 rfl rfl ?_
  refine kg_iload hk_228 rfl rfl rfl ?_
  refine kg_push (x := 0) hk_228 rfl (by decide) rfl ?_
  refine wf_gd hF (fun g14 hF => ?_)
  refine wf_let hF (fun h15 hh15 hF => ?_)
  refine kg_ast hk_228 rfl wc_1087 g14 (by rw [j_nar50]; exact hh15) rfl ?_
  refine kg_aload hk_228 rfl rfl rfl ?_
  refine kg_get (v := .ref (1100 + 1)) hk_228 rfl wk_1076_33 rfl rfl ?_
  refine kg_iload hk_228 rfl rfl rfl ?_
  refine kg_push (x := 0) hk_228 rfl (by decide) rfl ?_
  refine wf_gd hF (fun g16 hF => ?_)
  refine wf_let hF (fun h17 hh17 hF => ?_)
  refine kg_ast hk_228 rfl wc_1100 g16 (by rw [j_nar50]; exact hh17) rfl ?_
  refine kg_iinc (y := (x2 + 1)) (L2 := [.ref (1076 + 1), .int (s1 + s0), .int (x2 + 1)]) hk_228 rfl rfl rfl rfl rfl ?_
  refine kg_goto hk_228 rfl ?_
  have hF := Option.some.inj hF
  exact hK _ hF.symm
def q_228_48 (h : Hp) (x1 : Int32) (x2 : Int32) (s0 : Int32) (s1 : Int32) : Option ((Int32 × Int32 × Hp) ⊕ Int32 × Hp) :=
  w_let (w_up h 1076 47 (s1 ||| s0)) fun h11 =>
  w_gd (w_ix x2 16) <|
  q_228_59 h11 x2 (if (h11 1122 x2.toNatClampNeg) = 0 then 1 else 0) x1
theorem q_228_48_ok {X : List Int32} {o : kO}  {h : Hp} {s0 : Int32} {s1 : Int32} {x1 : Int32} {x2 : Int32}  {r : (Int32 × Int32 × Hp) ⊕ Int32 × Hp} (hF : q_228_48 h x1 x2 s0 s1 = some r) (hK : ∀ s' : Int32 × Int32 × Hp, r = .inl s' → k_Go X 7 228 (15, [.ref (1076 + 1), .int (s'.1), .int (s'.2.1)], []) s'.2.2 o) (hX0 : ∀ e : Int32 × Hp, r = .inr e → ∀ (u2 : Value), k_Go X 7 228 (73, [.ref (1076 + 1), .int e.1, u2], []) e.2 o) : k_Go X 7 228 (48, [.ref (1076 + 1), .int x1, .int x2], [.int s0, .int s1, .ref (1076 + 1)]) h o := by
  unfold q_228_48 at hF
  refine kg_bin (z := (s1 ||| s0)) hk_228 rfl rfl rfl ?_
  refine wf_let hF (fun h11 hh11 hF => ?_)
  refine kg_put hk_228 rfl wk_1076_47 rfl rfl hh11 rfl ?_
  refine kg_iload hk_228 rfl rfl rfl ?_
  refine kg_aload hk_228 rfl rfl rfl ?_
  refine kg_get (v := .ref (1122 + 1)) hk_228 rfl wk_1076_59 rfl rfl ?_
  refine kg_iload hk_228 rfl rfl rfl ?_
  refine wf_gd hF (fun g12 hF => ?_)
  refine kg_ald (y := (h11 1122 x2.toNatClampNeg)) hk_228 rfl wc_1122 g12 rfl rfl ?_
  refine kv_mid (p := 59) (L := [.ref (1076 + 1), .int x1, .int x2]) (S := [.int (if (h11 1122 x2.toNatClampNeg) = 0 then 1 else 0), .int x1]) ?_ (fun hK => ?_)
  · exact q_228_59_ok hF hK hX0 _
  · by_cases c13 : (h11 1122 x2.toNatClampNeg) = 0
    · have hK := kv_T c13 hK
      refine kg_ifF hk_228 rfl (jc_F1 c13) rfl ?_
      refine kg_push (x := 1) hk_228 rfl (by decide) rfl ?_
      refine kg_goto hk_228 rfl ?_
      exact hK
    · have hK := kv_F c13 hK
      refine kg_ifT hk_228 rfl (jc_T1 c13) ?_
      refine kg_push (x := 0) hk_228 rfl (by decide) rfl ?_
      exact hK
def q_228_32 (h : Hp) (x1 : Int32) (x2 : Int32) (s0 : Int32) (s1 : Int32) : Option ((Int32 × Int32 × Hp) ⊕ Int32 × Hp) :=
  w_let (w_up h 1076 46 (s1 ||| s0)) fun h8 =>
  w_gd (w_ix x2 16) <|
  q_228_48 h8 x1 x2 (if (h8 1122 x2.toNatClampNeg) = 2 then (1 <<< (x2 &&& 31)) else 0) (h8 1076 47)
theorem q_228_32_ok {X : List Int32} {o : kO}  {h : Hp} {s0 : Int32} {s1 : Int32} {x1 : Int32} {x2 : Int32}  {r : (Int32 × Int32 × Hp) ⊕ Int32 × Hp} (hF : q_228_32 h x1 x2 s0 s1 = some r) (hK : ∀ s' : Int32 × Int32 × Hp, r = .inl s' → k_Go X 7 228 (15, [.ref (1076 + 1), .int (s'.1), .int (s'.2.1)], []) s'.2.2 o) (hX0 : ∀ e : Int32 × Hp, r = .inr e → ∀ (u2 : Value), k_Go X 7 228 (73, [.ref (1076 + 1), .int e.1, u2], []) e.2 o) : k_Go X 7 228 (32, [.ref (1076 + 1), .int x1, .int x2], [.int s0, .int s1, .ref (1076 + 1)]) h o := by
  unfold q_228_32 at hF
  refine kg_bin (z := (s1 ||| s0)) hk_228 rfl rfl rfl ?_
  refine wf_let hF (fun h8 hh8 hF => ?_)
  refine kg_put hk_228 rfl wk_1076_46 rfl rfl hh8 rfl ?_
  refine kg_aload hk_228 rfl rfl rfl ?_
  refine kg_dup hk_228 rfl rfl rfl ?_
  refine kg_get (v := .int (h8 1076 47)) hk_228 rfl wk_1076_47 rfl rfl ?_
  refine kg_aload hk_228 rfl rfl rfl ?_
  refine kg_get (v := .ref (1122 + 1)) hk_228 rfl wk_1076_59 rfl rfl ?_
  refine kg_iload hk_228 rfl rfl rfl ?_
  refine wf_gd hF (fun g9 hF => ?_)
  refine kg_ald (y := (h8 1122 x2.toNatClampNeg)) hk_228 rfl wc_1122 g9 rfl rfl ?_
  refine kg_push (x := 2) hk_228 rfl (by decide) rfl ?_
  refine kv_mid (p := 48) (L := [.ref (1076 + 1), .int x1, .int x2]) (S := [.int (if (h8 1122 x2.toNatClampNeg) = 2 then (1 <<< (x2 &&& 31)) else 0), .int (h8 1076 47), .ref (1076 + 1)]) ?_ (fun hK => ?_)
  · exact q_228_48_ok hF hK hX0
  · by_cases c10 : (h8 1122 x2.toNatClampNeg) = 2
    · have hK := kv_T c10 hK
      refine kg_icF hk_228 rfl (jc_F1 c10) rfl ?_
      refine kg_push (x := 1) hk_228 rfl (by decide) rfl ?_
      refine kg_iload hk_228 rfl rfl rfl ?_
      refine kg_bin (z := (1 <<< (x2 &&& 31))) hk_228 rfl rfl rfl ?_
      refine kg_goto hk_228 rfl ?_
      exact hK
    · have hK := kv_F c10 hK
      refine kg_icT hk_228 rfl (jc_T1 c10) ?_
      refine kg_push (x := 0) hk_228 rfl (by decide) rfl ?_
      exact hK
def l_228_15 (x1 : Int32) (x2 : Int32) (h : Hp) : Option ((Int32 × Int32 × Hp) ⊕ Int32 × Hp) :=
  if x2 < (h 1076 2) then
    (w_gd (w_ix x2 16) <|
    q_228_32 h x1 x2 (if (h 1122 x2.toNatClampNeg) = 0 then (1 <<< (x2 &&& 31)) else 0) (h 1076 46))
  else
    (some (.inr (x1, h)))
theorem l_228_15_st {X : List Int32} {o : kO}  {h : Hp} {x1 : Int32} {x2 : Int32}  {r : (Int32 × Int32 × Hp) ⊕ Int32 × Hp} (hF : l_228_15 x1 x2 h = some r) (hK : ∀ s' : Int32 × Int32 × Hp, r = .inl s' → k_Go X 7 228 (15, [.ref (1076 + 1), .int (s'.1), .int (s'.2.1)], []) s'.2.2 o) (hX0 : ∀ e : Int32 × Hp, r = .inr e → ∀ (u2 : Value), k_Go X 7 228 (73, [.ref (1076 + 1), .int e.1, u2], []) e.2 o) : k_Go X 7 228 (15, [.ref (1076 + 1), .int x1, .int x2], []) h o := by
  refine kg_iload hk_228 rfl rfl rfl ?_
  refine kg_aload hk_228 rfl rfl rfl ?_
  refine kg_get (v := .int (h 1076 2)) hk_228 rfl wk_1076_2 rfl rfl ?_
  refine wf_if hF (fun c5 hF => ?_) (fun c5 hF => ?_)
  · refine kg_icF hk_228 rfl (jc_F3 c5) rfl ?_
    refine kg_aload hk_228 rfl rfl rfl ?_
    refine kg_dup hk_228 rfl rfl rfl ?_
    refine kg_get (v := .int (h 1076 46)) hk_228 rfl wk_1076_46 rfl rfl ?_
    refine kg_aload hk_228 rfl rfl rfl ?_
    refine kg_get (v := .ref (1122 + 1)) hk_228 rfl wk_1076_59 rfl rfl ?_
    refine kg_iload hk_228 rfl rfl rfl ?_
    refine wf_gd hF (fun g6 hF => ?_)
    refine kg_ald (y := (h 1122 x2.toNatClampNeg)) hk_228 rfl wc_1122 g6 rfl rfl ?_
    refine kv_mid (p := 32) (L := [.ref (1076 + 1), .int x1, .int x2]) (S := [.int (if (h 1122 x2.toNatClampNeg) = 0 then (1 <<< (x2 &&& 31)) else 0), .int (h 1076 46), .ref (1076 + 1)]) ?_ (fun hK => ?_)
    · exact q_228_32_ok hF hK hX0
    · by_cases c7 : (h 1122 x2.toNatClampNeg) = 0
      · have hK := kv_T c7 hK
        refine kg_ifF hk_228 rfl (jc_F1 c7) rfl ?_
        refine kg_push (x := 1) hk_228 rfl (by decide) rfl ?_
        refine kg_iload hk_228 rfl rfl rfl ?_
        refine kg_bin (z := (1 <<< (x2 &&& 31))) hk_228 rfl rfl rfl ?_
        refine kg_goto hk_228 rfl ?_
        exact hK
      · have hK := kv_F c7 hK
        refine kg_ifT hk_228 rfl (jc_T1 c7) ?_
        refine kg_push (x := 0) hk_228 rfl (by decide) rfl ?_
        exact hK
  · refine kg_icT hk_228 rfl (jc_T3 c5) ?_
    have hF := Option.some.inj hF
    exact hX0 _ hF.symm _
theorem l_228_15_ok {X : List Int32} {o : kO}    {n : Nat} {s : Int32 × Int32 × Hp} {e : Int32 × Hp} (hF : w_lp (fun (s : Int32 × Int32 × Hp) => l_228_15 s.1 s.2.1 s.2.2) n s = some e) (hX0 : ∀ (u2 : Value), k_Go X 7 228 (73, [.ref (1076 + 1), .int e.1, u2], []) e.2 o) : k_Go X 7 228 (15, [.ref (1076 + 1), .int s.1, .int s.2.1], []) s.2.2 o := by
  exact w_lp_ok (P := (fun (s : Int32 × Int32 × Hp) => k_Go X 7 228 (15, [.ref (1076 + 1), .int s.1, .int s.2.1], []) s.2.2 o)) (Q := (fun (e : Int32 × Hp) => (∀ (u2 : Value), k_Go X 7 228 (73, [.ref (1076 + 1), .int e.1, u2], []) e.2 o))) (fun s r hF hK hX => l_228_15_st hF hK (fun x hx => (hX _ hx))) n s e hF hX0
def p_228 (h : Hp) : Option (Int32 × Hp) :=
  w_let (w_up h 1076 79 0) fun h1 =>
  (p_188 h1).bind fun v2 =>
  w_let (w_up v2 1076 46 0) fun h3 =>
  w_let (w_up h3 1076 47 0) fun h4 =>
  (w_lp (fun (s : Int32 × Int32 × Hp) => l_228_15 s.1 s.2.1 s.2.2) w_N (0, 0, h4)).bind fun e18 =>
  w_let (w_up e18.2 1076 45 1) fun h19 =>
  some (e18.1, h19)
theorem p_228_ok {X : List Int32}  {h : Hp}   {r : Int32 × Hp} (hF : p_228 h = some r) : k_Ev X 7 228 [.ref (1076 + 1)] h (.inl (some (.int r.1)), r.2) := by
  refine k_of hk_228 ?_
  show k_Go X 7 228 (0, [.ref (1076 + 1), (.retAddr 0), (.retAddr 0)], []) h _
  unfold p_228 at hF
  refine kg_aload hk_228 rfl rfl rfl ?_
  refine kg_push (x := 0) hk_228 rfl (by decide) rfl ?_
  refine wf_let hF (fun h1 hh1 hF => ?_)
  refine kg_put hk_228 rfl wk_1076_79 rfl rfl hh1 rfl ?_
  refine kg_aload hk_228 rfl rfl rfl ?_
  refine wf_bind hF (fun v2 hv2 hF => ?_)
  refine kg_call (as := [.ref (1076 + 1)]) (rest := []) hk_228 rfl (Or.inr (Or.inr (Or.inr ⟨Or.inl rfl, _, _, rfl, wc_1076⟩))) rfl rfl rfl (Nat.not_lt.mpr (Nat.le_of_ble_eq_true rfl)) (p_188_ok hv2) (by decide) rfl ?_
  refine kg_aload hk_228 rfl rfl rfl ?_
  refine kg_push (x := 0) hk_228 rfl (by decide) rfl ?_
  refine wf_let hF (fun h3 hh3 hF => ?_)
  refine kg_put hk_228 rfl wk_1076_46 rfl rfl hh3 rfl ?_
  refine kg_aload hk_228 rfl rfl rfl ?_
  refine kg_push (x := 0) hk_228 rfl (by decide) rfl ?_
  refine wf_let hF (fun h4 hh4 hF => ?_)
  refine kg_put hk_228 rfl wk_1076_47 rfl rfl hh4 rfl ?_
  refine kg_push (x := 0) hk_228 rfl (by decide) rfl ?_
  refine kg_istore (L2 := [.ref (1076 + 1), .int 0, (.retAddr 0)]) hk_228 rfl (Nat.le_of_ble_eq_true rfl) rfl rfl ?_
  refine kg_push (x := 0) hk_228 rfl (by decide) rfl ?_
  refine kg_istore (L2 := [.ref (1076 + 1), .int 0, .int 0]) hk_228 rfl (Nat.le_of_ble_eq_true rfl) rfl rfl ?_
  refine wf_bind hF (fun e18 he18 hF => ?_)
  refine l_228_15_ok he18 ?_
  intro u2
  refine kg_aload hk_228 rfl rfl rfl ?_
  refine kg_push (x := 1) hk_228 rfl (by decide) rfl ?_
  refine wf_let hF (fun h19 hh19 hF => ?_)
  refine kg_put hk_228 rfl wk_1076_45 rfl (w_fitB rfl) hh19 rfl ?_
  refine kg_iload hk_228 rfl rfl rfl ?_
  have hF := Option.some.inj hF
  subst hF
  exact kg_iret hk_228 rfl (Or.inl rfl) rfl
-- NotebookWeirModel.isInCheckpoint(I)Z
theorem hk_229 : jP[229]? = some (jc_229, 2, [], []) := by rfl
def p_229 (h : Hp) (x1 : Int32) : Option (Int32 × Hp) :=
  w_gd (w_ix x1 16) <|
  if (h 1106 x1.toNatClampNeg) = 0 then
    (some (0, h))
  else
    (w_gd (w_ix x1 16) <|
    (p_214 h x1 1107 (40 * x1) (h 1108 x1.toNatClampNeg)).bind fun v4 =>
    if v4 = 0 then
      (some (0, h))
    else
      ((p_218 h x1 1109 (234 * x1)).bind fun v6 =>
      some ((if v6.1 = 0 then 0 else 1), v6.2)))
theorem p_229_ok {X : List Int32}  {h : Hp} {x1 : Int32}  {r : Int32 × Hp} (hF : p_229 h x1 = some r) : k_Ev X 6 229 [.ref (1076 + 1), .int x1] h (.inl (some (.int r.1)), r.2) := by
  refine k_of hk_229 ?_
  show k_Go X 6 229 (0, [.ref (1076 + 1), .int x1], []) h _
  unfold p_229 at hF
  refine kg_aload hk_229 rfl rfl rfl ?_
  refine kg_get (v := .ref (1106 + 1)) hk_229 rfl wk_1076_39 rfl rfl ?_
  refine kg_iload hk_229 rfl rfl rfl ?_
  refine wf_gd hF (fun g1 hF => ?_)
  refine kg_ald (y := (h 1106 x1.toNatClampNeg)) hk_229 rfl wc_1106 g1 rfl rfl ?_
  refine wf_if hF (fun c2 hF => ?_) (fun c2 hF => ?_)
  · refine kg_ifT hk_229 rfl (jc_T0 c2) ?_
    refine kg_push (x := 0) hk_229 rfl (by decide) rfl ?_
    have hF := Option.some.inj hF
    subst hF
    exact kg_iret hk_229 rfl (Or.inr rfl) rfl
  · refine kg_ifF hk_229 rfl (jc_F0 c2) rfl ?_
    refine kg_aload hk_229 rfl rfl rfl ?_
    refine kg_iload hk_229 rfl rfl rfl ?_
    refine kg_aload hk_229 rfl rfl rfl ?_
    refine kg_get (v := .ref (1107 + 1)) hk_229 rfl wk_1076_40 rfl rfl ?_
    refine kg_push (x := 40) hk_229 rfl (by decide) rfl ?_
    refine kg_iload hk_229 rfl rfl rfl ?_
    refine kg_bin (z := (40 * x1)) hk_229 rfl rfl rfl ?_
    refine kg_aload hk_229 rfl rfl rfl ?_
    refine kg_get (v := .ref (1108 + 1)) hk_229 rfl wk_1076_41 rfl rfl ?_
    refine kg_iload hk_229 rfl rfl rfl ?_
    refine wf_gd hF (fun g3 hF => ?_)
    refine kg_ald (y := (h 1108 x1.toNatClampNeg)) hk_229 rfl wc_1108 g3 rfl rfl ?_
    refine wf_bind hF (fun v4 hv4 hF => ?_)
    refine kg_call (as := [.ref (1076 + 1), .int x1, .ref (1107 + 1), .int (40 * x1), .int (h 1108 x1.toNatClampNeg)]) (rest := []) hk_229 rfl (Or.inr (Or.inr (Or.inr ⟨Or.inl rfl, _, _, rfl, wc_1076⟩))) rfl rfl rfl (Nat.not_lt.mpr (Nat.le_of_ble_eq_true rfl)) (p_214_ok wc_1107 hv4) (by decide) rfl ?_
    refine wf_if hF (fun c5 hF => ?_) (fun c5 hF => ?_)
    · refine kg_ifT hk_229 rfl (jc_T0 c5) ?_
      refine kg_push (x := 0) hk_229 rfl (by decide) rfl ?_
      have hF := Option.some.inj hF
      subst hF
      exact kg_iret hk_229 rfl (Or.inr rfl) rfl
    · refine kg_ifF hk_229 rfl (jc_F0 c5) rfl ?_
      refine kg_aload hk_229 rfl rfl rfl ?_
      refine kg_iload hk_229 rfl rfl rfl ?_
      refine kg_aload hk_229 rfl rfl rfl ?_
      refine kg_get (v := .ref (1109 + 1)) hk_229 rfl wk_1076_42 rfl rfl ?_
      refine kg_push (x := 234) hk_229 rfl (by decide) rfl ?_
      refine kg_iload hk_229 rfl rfl rfl ?_
      refine kg_bin (z := (234 * x1)) hk_229 rfl rfl rfl ?_
      refine wf_bind hF (fun v6 hv6 hF => ?_)
      refine kg_call (as := [.ref (1076 + 1), .int x1, .ref (1109 + 1), .int (234 * x1)]) (rest := []) hk_229 rfl (Or.inr (Or.inr (Or.inr ⟨Or.inl rfl, _, _, rfl, wc_1076⟩))) rfl rfl rfl (Nat.not_lt.mpr (Nat.le_of_ble_eq_true rfl)) (p_218_ok wc_1109 hv6) (by decide) rfl ?_
      refine kv_mid (p := 30) (L := [.ref (1076 + 1), .int x1]) (S := [.int (if v6.1 = 0 then 0 else 1)]) ?_ (fun hK => ?_)
      · have hF := Option.some.inj hF
        subst hF
        exact kg_iret hk_229 rfl (Or.inr (w_boi rfl rfl)) rfl
      · by_cases c7 : v6.1 = 0
        · have hK := kv_T c7 hK
          refine kg_ifT hk_229 rfl (jc_T0 c7) ?_
          refine kg_push (x := 0) hk_229 rfl (by decide) rfl ?_
          exact hK
        · have hK := kv_F c7 hK
          refine kg_ifF hk_229 rfl (jc_F0 c7) rfl ?_
          refine kg_push (x := 1) hk_229 rfl (by decide) rfl ?_
          refine kg_goto hk_229 rfl ?_
          exact hK
-- NotebookWeirModel.restores(I)I
theorem hk_230 : jP[230]? = some (jc_230, 3, [], []) := by rfl
def q_230_11 (h : Hp) (x1 : Int32) : Option (Int32 × Hp) :=
  (p_223 h x1 1).bind fun v2 =>
  some (1, v2)
theorem q_230_11_ok {X : List Int32}   {h : Hp} {x1 : Int32}  {r : Int32 × Hp} (hF : q_230_11 h x1 = some r)  : ∀ (u2 : Value), k_Go X 11 230 (11, [.ref (1076 + 1), .int x1, u2], []) h (.inl (some (.int r.1)), r.2) := by
  intro u2
  unfold q_230_11 at hF
  refine kg_aload hk_230 rfl rfl rfl ?_
  refine kg_iload hk_230 rfl rfl rfl ?_
  refine kg_push (x := 1) hk_230 rfl (by decide) rfl ?_
  refine wf_bind hF (fun v2 hv2 hF => ?_)
  refine kg_call (as := [.ref (1076 + 1), .int x1, .int 1]) (rest := []) hk_230 rfl (Or.inr (Or.inr (Or.inr ⟨Or.inl rfl, _, _, rfl, wc_1076⟩))) rfl rfl rfl (Nat.not_lt.mpr (Nat.le_of_ble_eq_true rfl)) (p_223_ok hv2) (by decide) rfl ?_
  refine kg_push (x := 1) hk_230 rfl (by decide) rfl ?_
  have hF := Option.some.inj hF
  subst hF
  exact kg_iret hk_230 rfl (Or.inl rfl) rfl
def l_230_19 (x1 : Int32) (x2 : Int32) (h : Hp) : Option ((Int32 × Hp) ⊕ Hp) :=
  if x2 < 234 then
    (w_gd (w_ix ((234 * x1) + x2) 3744) <|
    w_gd (w_ix ((234 * x1) + x2) 3744) <|
    w_let (w_up h 1093 (((234 * x1) + x2).toNatClampNeg) (h 1110 ((234 * x1) + x2).toNatClampNeg)) fun h8 =>
    some (.inl ((x2 + 1), h8)))
  else
    (some (.inr h))
theorem l_230_19_st {X : List Int32} {o : kO}  {h : Hp} {x1 : Int32} {x2 : Int32}  {r : (Int32 × Hp) ⊕ Hp} (hF : l_230_19 x1 x2 h = some r) (hK : ∀ s' : Int32 × Hp, r = .inl s' → k_Go X 11 230 (19, [.ref (1076 + 1), .int x1, .int (s'.1)], []) s'.2 o) (hX0 : ∀ e : Hp, r = .inr e → ∀ (u2 : Value), k_Go X 11 230 (40, [.ref (1076 + 1), .int x1, u2], []) e o) : k_Go X 11 230 (19, [.ref (1076 + 1), .int x1, .int x2], []) h o := by
  refine kg_iload hk_230 rfl rfl rfl ?_
  refine kg_push (x := 234) hk_230 rfl (by decide) rfl ?_
  refine wf_if hF (fun c5 hF => ?_) (fun c5 hF => ?_)
  · refine kg_icF hk_230 rfl (jc_F3 c5) rfl ?_
    refine kg_aload hk_230 rfl rfl rfl ?_
    refine kg_get (v := .ref (1093 + 1)) hk_230 rfl wk_1076_17 rfl rfl ?_
    refine kg_push (x := 234) hk_230 rfl (by decide) rfl ?_
    refine kg_iload hk_230 rfl rfl rfl ?_
    refine kg_bin (z := (234 * x1)) hk_230 rfl rfl rfl ?_
    refine kg_iload hk_230 rfl rfl rfl ?_
    refine kg_bin (z := ((234 * x1) + x2)) hk_230 rfl rfl rfl ?_
    refine kg_aload hk_230 rfl rfl rfl ?_
    refine kg_get (v := .ref (1110 + 1)) hk_230 rfl wk_1076_43 rfl rfl ?_
    refine kg_push (x := 234) hk_230 rfl (by decide) rfl ?_
    refine kg_iload hk_230 rfl rfl rfl ?_
    refine kg_bin (z := (234 * x1)) hk_230 rfl rfl rfl ?_
    refine kg_iload hk_230 rfl rfl rfl ?_
    refine kg_bin (z := ((234 * x1) + x2)) hk_230 rfl rfl rfl ?_
    refine wf_gd hF (fun g6 hF => ?_)
    refine kg_ald (y := (h 1110 ((234 * x1) + x2).toNatClampNeg)) hk_230 rfl wc_1110 g6 rfl rfl ?_
    refine wf_gd hF (fun g7 hF => ?_)
    refine wf_let hF (fun h8 hh8 hF => ?_)
    refine kg_ast hk_230 rfl wc_1093 g7 (by rw [j_nar50]; exact hh8) rfl ?_
    refine kg_iinc (y := (x2 + 1)) (L2 := [.ref (1076 + 1), .int x1, .int (x2 + 1)]) hk_230 rfl rfl rfl rfl rfl ?_
    refine kg_goto hk_230 rfl ?_
    have hF := Option.some.inj hF
    exact hK _ hF.symm
  · refine kg_icT hk_230 rfl (jc_T3 c5) ?_
    have hF := Option.some.inj hF
    exact hX0 _ hF.symm _
theorem l_230_19_ok {X : List Int32} {o : kO}  {x1 : Int32}  {n : Nat} {s : Int32 × Hp} {e : Hp} (hF : w_lp (fun (s : Int32 × Hp) => l_230_19 x1 s.1 s.2) n s = some e) (hX0 : ∀ (u2 : Value), k_Go X 11 230 (40, [.ref (1076 + 1), .int x1, u2], []) e o) : k_Go X 11 230 (19, [.ref (1076 + 1), .int x1, .int s.1], []) s.2 o := by
  exact w_lp_ok (P := (fun (s : Int32 × Hp) => k_Go X 11 230 (19, [.ref (1076 + 1), .int x1, .int s.1], []) s.2 o)) (Q := (fun (e : Hp) => (∀ (u2 : Value), k_Go X 11 230 (40, [.ref (1076 + 1), .int x1, u2], []) e o))) (fun s r hF hK hX => l_230_19_st hF hK (fun x hx => (hX _ hx))) n s e hF hX0
def p_230 (h : Hp) (x1 : Int32) : Option (Int32 × Hp) :=
  if (((h 1076 46) >>> (x1 &&& 31)) &&& 1) = 0 then
    (q_230_11 h x1)
  else
    ((p_229 h x1).bind fun v3 =>
    if v3.1 = 0 then
      (q_230_11 v3.2 x1)
    else
      ((w_lp (fun (s : Int32 × Hp) => l_230_19 x1 s.1 s.2) w_N (0, v3.2)).bind fun e9 =>
      (p_193 e9 1111 (9 * x1) 1094 (9 * x1)).bind fun v10 =>
      w_gd (w_ix x1 16) <|
      w_let (w_up v10 1092 x1.toNatClampNeg 0) fun h12 =>
      (p_217 h12 x1 1).bind fun v13 =>
      some (0, v13)))
theorem p_230_ok {X : List Int32}  {h : Hp} {x1 : Int32}  {r : Int32 × Hp} (hF : p_230 h x1 = some r) : k_Ev X 11 230 [.ref (1076 + 1), .int x1] h (.inl (some (.int r.1)), r.2) := by
  refine k_of hk_230 ?_
  show k_Go X 11 230 (0, [.ref (1076 + 1), .int x1, (.retAddr 0)], []) h _
  unfold p_230 at hF
  refine kg_aload hk_230 rfl rfl rfl ?_
  refine kg_get (v := .int (h 1076 46)) hk_230 rfl wk_1076_46 rfl rfl ?_
  refine kg_iload hk_230 rfl rfl rfl ?_
  refine kg_bin (z := ((h 1076 46) >>> (x1 &&& 31))) hk_230 rfl rfl rfl ?_
  refine kg_push (x := 1) hk_230 rfl (by decide) rfl ?_
  refine kg_bin (z := (((h 1076 46) >>> (x1 &&& 31)) &&& 1)) hk_230 rfl rfl rfl ?_
  refine wf_if hF (fun c1 hF => ?_) (fun c1 hF => ?_)
  · refine kg_ifT hk_230 rfl (jc_T0 c1) ?_
    exact q_230_11_ok hF _
  · refine kg_ifF hk_230 rfl (jc_F0 c1) rfl ?_
    refine kg_aload hk_230 rfl rfl rfl ?_
    refine kg_iload hk_230 rfl rfl rfl ?_
    refine wf_bind hF (fun v3 hv3 hF => ?_)
    refine kg_call (as := [.ref (1076 + 1), .int x1]) (rest := []) hk_230 rfl (Or.inr (Or.inr (Or.inr ⟨Or.inl rfl, _, _, rfl, wc_1076⟩))) rfl rfl rfl (Nat.not_lt.mpr (Nat.le_of_ble_eq_true rfl)) (p_229_ok hv3) (by decide) rfl ?_
    refine wf_if hF (fun c4 hF => ?_) (fun c4 hF => ?_)
    · refine kg_ifF hk_230 rfl (jc_F1 c4) rfl ?_
      exact q_230_11_ok hF _
    · refine kg_ifT hk_230 rfl (jc_T1 c4) ?_
      refine kg_push (x := 0) hk_230 rfl (by decide) rfl ?_
      refine kg_istore (L2 := [.ref (1076 + 1), .int x1, .int 0]) hk_230 rfl (Nat.le_of_ble_eq_true rfl) rfl rfl ?_
      refine wf_bind hF (fun e9 he9 hF => ?_)
      refine l_230_19_ok he9 ?_
      intro u2
      refine kg_aload hk_230 rfl rfl rfl ?_
      refine kg_aload hk_230 rfl rfl rfl ?_
      refine kg_get (v := .ref (1111 + 1)) hk_230 rfl wk_1076_44 rfl rfl ?_
      refine kg_push (x := 9) hk_230 rfl (by decide) rfl ?_
      refine kg_iload hk_230 rfl rfl rfl ?_
      refine kg_bin (z := (9 * x1)) hk_230 rfl rfl rfl ?_
      refine kg_aload hk_230 rfl rfl rfl ?_
      refine kg_get (v := .ref (1094 + 1)) hk_230 rfl wk_1076_18 rfl rfl ?_
      refine kg_push (x := 9) hk_230 rfl (by decide) rfl ?_
      refine kg_iload hk_230 rfl rfl rfl ?_
      refine kg_bin (z := (9 * x1)) hk_230 rfl rfl rfl ?_
      refine wf_bind hF (fun v10 hv10 hF => ?_)
      refine kg_call (as := [.ref (1076 + 1), .ref (1111 + 1), .int (9 * x1), .ref (1094 + 1), .int (9 * x1)]) (rest := []) hk_230 rfl (Or.inr (Or.inr (Or.inr ⟨Or.inl rfl, _, _, rfl, wc_1076⟩))) rfl rfl rfl (Nat.not_lt.mpr (Nat.le_of_ble_eq_true rfl)) (p_193_ok wc_1111 wc_1094 hv10) (by decide) rfl ?_
      refine kg_aload hk_230 rfl rfl rfl ?_
      refine kg_get (v := .ref (1092 + 1)) hk_230 rfl wk_1076_16 rfl rfl ?_
      refine kg_iload hk_230 rfl rfl rfl ?_
      refine kg_push (x := 0) hk_230 rfl (by decide) rfl ?_
      refine wf_gd hF (fun g11 hF => ?_)
      refine wf_let hF (fun h12 hh12 hF => ?_)
      refine kg_ast hk_230 rfl wc_1092 g11 (by rw [j_nar50]; exact hh12) rfl ?_
      refine kg_aload hk_230 rfl rfl rfl ?_
      refine kg_iload hk_230 rfl rfl rfl ?_
      refine kg_push (x := 1) hk_230 rfl (by decide) rfl ?_
      refine wf_bind hF (fun v13 hv13 hF => ?_)
      refine kg_call (as := [.ref (1076 + 1), .int x1, .int 1]) (rest := []) hk_230 rfl (Or.inr (Or.inr (Or.inr ⟨Or.inl rfl, _, _, rfl, wc_1076⟩))) rfl rfl rfl (Nat.not_lt.mpr (Nat.le_of_ble_eq_true rfl)) (p_217_ok hv13) (by decide) rfl ?_
      refine kg_push (x := 0) hk_230 rfl (by decide) rfl ?_
      have hF := Option.some.inj hF
      subst hF
      exact kg_iret hk_230 rfl (Or.inl rfl) rfl
-- NotebookWeirModel.restore()I
theorem hk_231 : jP[231]? = some (jc_231, 6, [], []) := by rfl
def l_231_30 (h : Hp) (x2 : Int32) (x4 : Int32) (x5 : Int32) : Option ((Int32 × Int32) ⊕ Int32) :=
  if x5 < 0 then
    (some (.inr x4))
  else
    (if ((x2 >>> (x5 &&& 31)) &&& 1) = 1 then
      (w_gd (w_ix x5 16) <|
      if (h 1122 x5.toNatClampNeg) < 3 then
        (w_gd (w_ix x5 16) <|
        (p_189 h (h 1120 x5.toNatClampNeg)).bind fun v10 =>
        some (.inl ((if v10 = 0 then x4 else x5), (x5 + (-1)))))
      else
        (some (.inl (x4, (x5 + (-1))))))
    else
      (some (.inl (x4, (x5 + (-1))))))
theorem l_231_30_st {X : List Int32} {o : kO}  {h : Hp} {x1 : Int32} {x2 : Int32} {x4 : Int32} {x5 : Int32}  {r : (Int32 × Int32) ⊕ Int32} (hF : l_231_30 h x2 x4 x5 = some r) (hK : ∀ s' : Int32 × Int32, r = .inl s' → ∀ (u3 : Value), k_Go X 12 231 (30, [.ref (1076 + 1), .int x1, .int x2, u3, .int (s'.1), .int (s'.2)], []) h o) (hX0 : ∀ e : Int32, r = .inr e → ∀ (u3 : Value) (u5 : Value), k_Go X 12 231 (58, [.ref (1076 + 1), .int x1, .int x2, u3, .int e, u5], []) h o) : ∀ (u3 : Value), k_Go X 12 231 (30, [.ref (1076 + 1), .int x1, .int x2, u3, .int x4, .int x5], []) h o := by
  intro u3
  refine kg_iload hk_231 rfl rfl rfl ?_
  refine wf_if hF (fun c5 hF => ?_) (fun c5 hF => ?_)
  · refine kg_ifT hk_231 rfl (jc_T2 c5) ?_
    have hF := Option.some.inj hF
    exact hX0 _ hF.symm _ _
  · refine kg_ifF hk_231 rfl (jc_F2 c5) rfl ?_
    refine kg_iload hk_231 rfl rfl rfl ?_
    refine kg_iload hk_231 rfl rfl rfl ?_
    refine kg_bin (z := (x2 >>> (x5 &&& 31))) hk_231 rfl rfl rfl ?_
    refine kg_push (x := 1) hk_231 rfl (by decide) rfl ?_
    refine kg_bin (z := ((x2 >>> (x5 &&& 31)) &&& 1)) hk_231 rfl rfl rfl ?_
    refine kg_push (x := 1) hk_231 rfl (by decide) rfl ?_
    refine wf_if hF (fun c6 hF => ?_) (fun c6 hF => ?_)
    · refine kg_icF hk_231 rfl (jc_F1 c6) rfl ?_
      refine kg_aload hk_231 rfl rfl rfl ?_
      refine kg_get (v := .ref (1122 + 1)) hk_231 rfl wk_1076_59 rfl rfl ?_
      refine kg_iload hk_231 rfl rfl rfl ?_
      refine wf_gd hF (fun g7 hF => ?_)
      refine kg_ald (y := (h 1122 x5.toNatClampNeg)) hk_231 rfl wc_1122 g7 rfl rfl ?_
      refine kg_push (x := 3) hk_231 rfl (by decide) rfl ?_
      refine wf_if hF (fun c8 hF => ?_) (fun c8 hF => ?_)
      · refine kg_icF hk_231 rfl (jc_F3 c8) rfl ?_
        refine kg_aload hk_231 rfl rfl rfl ?_
        refine kg_aload hk_231 rfl rfl rfl ?_
        refine kg_get (v := .ref (1120 + 1)) hk_231 rfl wk_1076_57 rfl rfl ?_
        refine kg_iload hk_231 rfl rfl rfl ?_
        refine wf_gd hF (fun g9 hF => ?_)
        refine kg_ald (y := (h 1120 x5.toNatClampNeg)) hk_231 rfl wc_1120 g9 rfl rfl ?_
        refine wf_bind hF (fun v10 hv10 hF => ?_)
        refine kg_call (as := [.ref (1076 + 1), .int (h 1120 x5.toNatClampNeg)]) (rest := []) hk_231 rfl (Or.inr (Or.inr (Or.inr ⟨Or.inl rfl, _, _, rfl, wc_1076⟩))) rfl rfl rfl (Nat.not_lt.mpr (Nat.le_of_ble_eq_true rfl)) (p_189_ok hv10) (by decide) rfl ?_
        refine kv_mid (p := 55) (L := [.ref (1076 + 1), .int x1, .int x2, u3, .int x4, .int x5]) (S := [.int (if v10 = 0 then x4 else x5)]) ?_ (fun hK => ?_)
        · refine kg_istore (L2 := [.ref (1076 + 1), .int x1, .int x2, u3, .int (if v10 = 0 then x4 else x5), .int x5]) hk_231 rfl (Nat.le_of_ble_eq_true rfl) rfl rfl ?_
          refine kg_iinc (y := (x5 + (-1))) (L2 := [.ref (1076 + 1), .int x1, .int x2, u3, .int (if v10 = 0 then x4 else x5), .int (x5 + (-1))]) hk_231 rfl rfl rfl rfl rfl ?_
          refine kg_goto hk_231 rfl ?_
          have hF := Option.some.inj hF
          exact hK _ hF.symm _
        · by_cases c11 : v10 = 0
          · have hK := kv_T c11 hK
            refine kg_ifT hk_231 rfl (jc_T0 c11) ?_
            refine kg_iload hk_231 rfl rfl rfl ?_
            exact hK
          · have hK := kv_F c11 hK
            refine kg_ifF hk_231 rfl (jc_F0 c11) rfl ?_
            refine kg_iload hk_231 rfl rfl rfl ?_
            refine kg_goto hk_231 rfl ?_
            exact hK
      · refine kg_icT hk_231 rfl (jc_T3 c8) ?_
        refine kg_iload hk_231 rfl rfl rfl ?_
        refine kg_istore (L2 := [.ref (1076 + 1), .int x1, .int x2, u3, .int x4, .int x5]) hk_231 rfl (Nat.le_of_ble_eq_true rfl) rfl rfl ?_
        refine kg_iinc (y := (x5 + (-1))) (L2 := [.ref (1076 + 1), .int x1, .int x2, u3, .int x4, .int (x5 + (-1))]) hk_231 rfl rfl rfl rfl rfl ?_
        refine kg_goto hk_231 rfl ?_
        have hF := Option.some.inj hF
        exact hK _ hF.symm _
    · refine kg_icT hk_231 rfl (jc_T1 c6) ?_
      refine kg_iload hk_231 rfl rfl rfl ?_
      refine kg_istore (L2 := [.ref (1076 + 1), .int x1, .int x2, u3, .int x4, .int x5]) hk_231 rfl (Nat.le_of_ble_eq_true rfl) rfl rfl ?_
      refine kg_iinc (y := (x5 + (-1))) (L2 := [.ref (1076 + 1), .int x1, .int x2, u3, .int x4, .int (x5 + (-1))]) hk_231 rfl rfl rfl rfl rfl ?_
      refine kg_goto hk_231 rfl ?_
      have hF := Option.some.inj hF
      exact hK _ hF.symm _
theorem l_231_30_ok {X : List Int32} {o : kO}  {h : Hp} {x1 : Int32} {x2 : Int32}  {n : Nat} {s : Int32 × Int32} {e : Int32} (hF : w_lp (fun (s : Int32 × Int32) => l_231_30 h x2 s.1 s.2) n s = some e) (hX0 : ∀ (u3 : Value) (u5 : Value), k_Go X 12 231 (58, [.ref (1076 + 1), .int x1, .int x2, u3, .int e, u5], []) h o) : ∀ (u3 : Value), k_Go X 12 231 (30, [.ref (1076 + 1), .int x1, .int x2, u3, .int s.1, .int s.2], []) h o := by
  exact w_lp_ok (P := (fun (s : Int32 × Int32) => ∀ (u3 : Value), k_Go X 12 231 (30, [.ref (1076 + 1), .int x1, .int x2, u3, .int s.1, .int s.2], []) h o)) (Q := (fun (e : Int32) => (∀ (u3 : Value) (u5 : Value), k_Go X 12 231 (58, [.ref (1076 + 1), .int x1, .int x2, u3, .int e, u5], []) h o))) (fun s r hF hK hX => l_231_30_st hF hK (fun x hx => (hX _ hx))) n s e hF hX0
def q_231_64 (h : Hp) (x1 : Int32) (x2 : Int32) (x4 : Int32) (s0 : Int32) : Option ((Int32 × Int32 × Int32 × Hp) ⊕ Int32 × Hp) :=
  if s0 = 0 then
    (some (.inl (x1, x2, s0, h)))
  else
    ((p_230 h x4).bind fun v15 =>
    some (.inl ((x1 + v15.1), (x2 &&& ((1 <<< (x4 &&& 31)) ^^^ (-1))), s0, v15.2)))
theorem q_231_64_ok {X : List Int32} {o : kO}  {h : Hp} {s0 : Int32} {x1 : Int32} {x2 : Int32} {x4 : Int32}  {r : (Int32 × Int32 × Int32 × Hp) ⊕ Int32 × Hp} (hF : q_231_64 h x1 x2 x4 s0 = some r) (hK : ∀ s' : Int32 × Int32 × Int32 × Hp, r = .inl s' → ∀ (u4 : Value) (u5 : Value), k_Go X 12 231 (19, [.ref (1076 + 1), .int (s'.1), .int (s'.2.1), .int (s'.2.2.1), u4, u5], []) s'.2.2.2 o) (hX0 : ∀ e : Int32 × Hp, r = .inr e → ∀ (u2 : Value) (u3 : Value) (u4 : Value) (u5 : Value), k_Go X 12 231 (82, [.ref (1076 + 1), .int e.1, u2, u3, u4, u5], []) e.2 o) : ∀ (u3 : Value) (u5 : Value), k_Go X 12 231 (64, [.ref (1076 + 1), .int x1, .int x2, u3, .int x4, u5], [.int s0]) h o := by
  intro u3 u5
  unfold q_231_64 at hF
  refine kg_istore (L2 := [.ref (1076 + 1), .int x1, .int x2, .int s0, .int x4, u5]) hk_231 rfl (Nat.le_of_ble_eq_true rfl) rfl rfl ?_
  refine kg_iload hk_231 rfl rfl rfl ?_
  refine wf_if hF (fun c14 hF => ?_) (fun c14 hF => ?_)
  · refine kg_ifT hk_231 rfl (jc_T0 c14) ?_
    refine kg_goto hk_231 rfl ?_
    have hF := Option.some.inj hF
    exact hK _ hF.symm _ _
  · refine kg_ifF hk_231 rfl (jc_F0 c14) rfl ?_
    refine kg_iload hk_231 rfl rfl rfl ?_
    refine kg_push (x := 1) hk_231 rfl (by decide) rfl ?_
    refine kg_iload hk_231 rfl rfl rfl ?_
    refine kg_bin (z := (1 <<< (x4 &&& 31))) hk_231 rfl rfl rfl ?_
    refine kg_push (x := (-1)) hk_231 rfl (by decide) rfl ?_
    refine kg_bin (z := ((1 <<< (x4 &&& 31)) ^^^ (-1))) hk_231 rfl rfl rfl ?_
    refine kg_bin (z := (x2 &&& ((1 <<< (x4 &&& 31)) ^^^ (-1)))) hk_231 rfl rfl rfl ?_
    refine kg_istore (L2 := [.ref (1076 + 1), .int x1, .int (x2 &&& ((1 <<< (x4 &&& 31)) ^^^ (-1))), .int s0, .int x4, u5]) hk_231 rfl (Nat.le_of_ble_eq_true rfl) rfl rfl ?_
    refine kg_iload hk_231 rfl rfl rfl ?_
    refine kg_aload hk_231 rfl rfl rfl ?_
    refine kg_iload hk_231 rfl rfl rfl ?_
    refine wf_bind hF (fun v15 hv15 hF => ?_)
    refine kg_call (as := [.ref (1076 + 1), .int x4]) (rest := [.int x1]) hk_231 rfl (Or.inr (Or.inr (Or.inr ⟨Or.inl rfl, _, _, rfl, wc_1076⟩))) rfl rfl rfl (Nat.not_lt.mpr (Nat.le_of_ble_eq_true rfl)) (p_230_ok hv15) (by decide) rfl ?_
    refine kg_bin (z := (x1 + v15.1)) hk_231 rfl rfl rfl ?_
    refine kg_istore (L2 := [.ref (1076 + 1), .int (x1 + v15.1), .int (x2 &&& ((1 <<< (x4 &&& 31)) ^^^ (-1))), .int s0, .int x4, u5]) hk_231 rfl (Nat.le_of_ble_eq_true rfl) rfl rfl ?_
    refine kg_goto hk_231 rfl ?_
    have hF := Option.some.inj hF
    exact hK _ hF.symm _ _
def l_231_19 (x1 : Int32) (x2 : Int32) (x3 : Int32) (h : Hp) : Option ((Int32 × Int32 × Int32 × Hp) ⊕ Int32 × Hp) :=
  if x3 = 0 then
    (some (.inr (x1, h)))
  else
    ((p_188 h).bind fun v4 =>
    (w_lp (fun (s : Int32 × Int32) => l_231_30 v4 x2 s.1 s.2) w_N ((-1), ((v4 1076 2) - 1))).bind fun e12 =>
    q_231_64 v4 x1 x2 e12 (if e12 = (-1) then 0 else 1))
theorem l_231_19_st {X : List Int32} {o : kO}  {h : Hp} {x1 : Int32} {x2 : Int32} {x3 : Int32}  {r : (Int32 × Int32 × Int32 × Hp) ⊕ Int32 × Hp} (hF : l_231_19 x1 x2 x3 h = some r) (hK : ∀ s' : Int32 × Int32 × Int32 × Hp, r = .inl s' → ∀ (u4 : Value) (u5 : Value), k_Go X 12 231 (19, [.ref (1076 + 1), .int (s'.1), .int (s'.2.1), .int (s'.2.2.1), u4, u5], []) s'.2.2.2 o) (hX0 : ∀ e : Int32 × Hp, r = .inr e → ∀ (u2 : Value) (u3 : Value) (u4 : Value) (u5 : Value), k_Go X 12 231 (82, [.ref (1076 + 1), .int e.1, u2, u3, u4, u5], []) e.2 o) : ∀ (u4 : Value) (u5 : Value), k_Go X 12 231 (19, [.ref (1076 + 1), .int x1, .int x2, .int x3, u4, u5], []) h o := by
  intro u4 u5
  refine kg_iload hk_231 rfl rfl rfl ?_
  refine wf_if hF (fun c3 hF => ?_) (fun c3 hF => ?_)
  · refine kg_ifT hk_231 rfl (jc_T0 c3) ?_
    have hF := Option.some.inj hF
    exact hX0 _ hF.symm _ _ _ _
  · refine kg_ifF hk_231 rfl (jc_F0 c3) rfl ?_
    refine kg_aload hk_231 rfl rfl rfl ?_
    refine wf_bind hF (fun v4 hv4 hF => ?_)
    refine kg_call (as := [.ref (1076 + 1)]) (rest := []) hk_231 rfl (Or.inr (Or.inr (Or.inr ⟨Or.inl rfl, _, _, rfl, wc_1076⟩))) rfl rfl rfl (Nat.not_lt.mpr (Nat.le_of_ble_eq_true rfl)) (p_188_ok hv4) (by decide) rfl ?_
    refine kg_push (x := (-1)) hk_231 rfl (by decide) rfl ?_
    refine kg_istore (L2 := [.ref (1076 + 1), .int x1, .int x2, .int x3, .int (-1), u5]) hk_231 rfl (Nat.le_of_ble_eq_true rfl) rfl rfl ?_
    refine kg_aload hk_231 rfl rfl rfl ?_
    refine kg_get (v := .int (v4 1076 2)) hk_231 rfl wk_1076_2 rfl rfl ?_
    refine kg_push (x := 1) hk_231 rfl (by decide) rfl ?_
    refine kg_bin (z := ((v4 1076 2) - 1)) hk_231 rfl rfl rfl ?_
    refine kg_istore (L2 := [.ref (1076 + 1), .int x1, .int x2, .int x3, .int (-1), .int ((v4 1076 2) - 1)]) hk_231 rfl (Nat.le_of_ble_eq_true rfl) rfl rfl ?_
    refine wf_bind hF (fun e12 he12 hF => ?_)
    refine l_231_30_ok he12 ?_ _
    intro u3 u5
    refine kg_iload hk_231 rfl rfl rfl ?_
    refine kg_push (x := (-1)) hk_231 rfl (by decide) rfl ?_
    refine kv_mid (p := 64) (L := [.ref (1076 + 1), .int x1, .int x2, u3, .int e12, u5]) (S := [.int (if e12 = (-1) then 0 else 1)]) ?_ (fun hK => ?_)
    · exact q_231_64_ok hF hK hX0 _ _
    · by_cases c13 : e12 = (-1)
      · have hK := kv_T c13 hK
        refine kg_icT hk_231 rfl (jc_T0 c13) ?_
        refine kg_push (x := 0) hk_231 rfl (by decide) rfl ?_
        exact hK
      · have hK := kv_F c13 hK
        refine kg_icF hk_231 rfl (jc_F0 c13) rfl ?_
        refine kg_push (x := 1) hk_231 rfl (by decide) rfl ?_
        refine kg_goto hk_231 rfl ?_
        exact hK
theorem l_231_19_ok {X : List Int32} {o : kO}    {n : Nat} {s : Int32 × Int32 × Int32 × Hp} {e : Int32 × Hp} (hF : w_lp (fun (s : Int32 × Int32 × Int32 × Hp) => l_231_19 s.1 s.2.1 s.2.2.1 s.2.2.2) n s = some e) (hX0 : ∀ (u2 : Value) (u3 : Value) (u4 : Value) (u5 : Value), k_Go X 12 231 (82, [.ref (1076 + 1), .int e.1, u2, u3, u4, u5], []) e.2 o) : ∀ (u4 : Value) (u5 : Value), k_Go X 12 231 (19, [.ref (1076 + 1), .int s.1, .int s.2.1, .int s.2.2.1, u4, u5], []) s.2.2.2 o := by
  exact w_lp_ok (P := (fun (s : Int32 × Int32 × Int32 × Hp) => ∀ (u4 : Value) (u5 : Value), k_Go X 12 231 (19, [.ref (1076 + 1), .int s.1, .int s.2.1, .int s.2.2.1, u4, u5], []) s.2.2.2 o)) (Q := (fun (e : Int32 × Hp) => (∀ (u2 : Value) (u3 : Value) (u4 : Value) (u5 : Value), k_Go X 12 231 (82, [.ref (1076 + 1), .int e.1, u2, u3, u4, u5], []) e.2 o))) (fun s r hF hK hX => l_231_19_st hF hK (fun x hx => (hX _ hx))) n s e hF hX0
def p_231 (h : Hp) : Option (Int32 × Hp) :=
  (p_146 h (h 1076 45) 1 1).bind fun v1 =>
  if v1.1 = 0 then
    (some (0, v1.2))
  else
    ((w_lp (fun (s : Int32 × Int32 × Int32 × Hp) => l_231_19 s.1 s.2.1 s.2.2.1 s.2.2.2) w_N (0, ((v1.2 1076 46) ||| (v1.2 1076 47)), 1, v1.2)).bind fun e16 =>
    w_let (w_up e16.2 1076 45 0) fun h17 =>
    some (e16.1, h17))
theorem p_231_ok {X : List Int32}  {h : Hp}   {r : Int32 × Hp} (hF : p_231 h = some r) : k_Ev X 12 231 [.ref (1076 + 1)] h (.inl (some (.int r.1)), r.2) := by
  refine k_of hk_231 ?_
  show k_Go X 12 231 (0, [.ref (1076 + 1), (.retAddr 0), (.retAddr 0), (.retAddr 0), (.retAddr 0), (.retAddr 0)], []) h _
  unfold p_231 at hF
  refine kg_aload hk_231 rfl rfl rfl ?_
  refine kg_aload hk_231 rfl rfl rfl ?_
  refine kg_get (v := .int (h 1076 45)) hk_231 rfl wk_1076_45 rfl rfl ?_
  refine kg_push (x := 1) hk_231 rfl (by decide) rfl ?_
  refine kg_push (x := 1) hk_231 rfl (by decide) rfl ?_
  refine wf_bind hF (fun v1 hv1 hF => ?_)
  refine kg_call (as := [.ref (1076 + 1), .int (h 1076 45), .int 1, .int 1]) (rest := []) hk_231 rfl (Or.inr (Or.inr (Or.inr ⟨Or.inl rfl, _, _, rfl, wc_1076⟩))) rfl rfl rfl (Nat.not_lt.mpr (Nat.le_of_ble_eq_true rfl)) (p_146_ok hv1) (by decide) rfl ?_
  refine wf_if hF (fun c2 hF => ?_) (fun c2 hF => ?_)
  · refine kg_ifF hk_231 rfl (jc_F1 c2) rfl ?_
    refine kg_push (x := 0) hk_231 rfl (by decide) rfl ?_
    have hF := Option.some.inj hF
    subst hF
    exact kg_iret hk_231 rfl (Or.inl rfl) rfl
  · refine kg_ifT hk_231 rfl (jc_T1 c2) ?_
    refine kg_push (x := 0) hk_231 rfl (by decide) rfl ?_
    refine kg_istore (L2 := [.ref (1076 + 1), .int 0, (.retAddr 0), (.retAddr 0), (.retAddr 0), (.retAddr 0)]) hk_231 rfl (Nat.le_of_ble_eq_true rfl) rfl rfl ?_
    refine kg_aload hk_231 rfl rfl rfl ?_
    refine kg_get (v := .int (v1.2 1076 46)) hk_231 rfl wk_1076_46 rfl rfl ?_
    refine kg_aload hk_231 rfl rfl rfl ?_
    refine kg_get (v := .int (v1.2 1076 47)) hk_231 rfl wk_1076_47 rfl rfl ?_
    refine kg_bin (z := ((v1.2 1076 46) ||| (v1.2 1076 47))) hk_231 rfl rfl rfl ?_
    refine kg_istore (L2 := [.ref (1076 + 1), .int 0, .int ((v1.2 1076 46) ||| (v1.2 1076 47)), (.retAddr 0), (.retAddr 0), (.retAddr 0)]) hk_231 rfl (Nat.le_of_ble_eq_true rfl) rfl rfl ?_
    refine kg_push (x := 1) hk_231 rfl (by decide) rfl ?_
    refine kg_istore (L2 := [.ref (1076 + 1), .int 0, .int ((v1.2 1076 46) ||| (v1.2 1076 47)), .int 1, (.retAddr 0), (.retAddr 0)]) hk_231 rfl (Nat.le_of_ble_eq_true rfl) rfl rfl ?_
    refine wf_bind hF (fun e16 he16 hF => ?_)
    refine l_231_19_ok he16 ?_ _ _
    intro u2 u3 u4 u5
    refine kg_aload hk_231 rfl rfl rfl ?_
    refine kg_push (x := 0) hk_231 rfl (by decide) rfl ?_
    refine wf_let hF (fun h17 hh17 hF => ?_)
    refine kg_put hk_231 rfl wk_1076_45 rfl (w_fitB rfl) hh17 rfl ?_
    refine kg_iload hk_231 rfl rfl rfl ?_
    have hF := Option.some.inj hF
    subst hF
    exact kg_iret hk_231 rfl (Or.inl rfl) rfl
-- NotebookWeirModel.state(I)I
theorem hk_232 : jP[232]? = some (jc_232, 2, [], []) := by rfl
def p_232 (h : Hp) (x1 : Int32) : Option (Int32 × Hp) :=
  (p_146 h (v_167 h x1) 1 1).bind fun v1 =>
  if v1.1 = 0 then
    (some (0, v1.2))
  else
    ((p_188 v1.2).bind fun v3 =>
    w_gd (w_ix x1 16) <|
    some ((v3 1122 x1.toNatClampNeg), v3))
theorem p_232_ok {X : List Int32}  {h : Hp} {x1 : Int32}  {r : Int32 × Hp} (hF : p_232 h x1 = some r) : k_Ev X 7 232 [.ref (1076 + 1), .int x1] h (.inl (some (.int r.1)), r.2) := by
  refine k_of hk_232 ?_
  show k_Go X 7 232 (0, [.ref (1076 + 1), .int x1], []) h _
  unfold p_232 at hF
  refine kg_aload hk_232 rfl rfl rfl ?_
  refine kg_aload hk_232 rfl rfl rfl ?_
  refine kg_iload hk_232 rfl rfl rfl ?_
  refine kg_call (as := [.ref (1076 + 1), .int x1]) (rest := [.ref (1076 + 1)]) hk_232 rfl (Or.inr (Or.inr (Or.inr ⟨Or.inl rfl, _, _, rfl, wc_1076⟩))) rfl rfl rfl (Nat.not_lt.mpr (Nat.le_of_ble_eq_true rfl)) (v_167_ok) (by decide) rfl ?_
  refine kg_push (x := 1) hk_232 rfl (by decide) rfl ?_
  refine kg_push (x := 1) hk_232 rfl (by decide) rfl ?_
  refine wf_bind hF (fun v1 hv1 hF => ?_)
  refine kg_call (as := [.ref (1076 + 1), .int (v_167 h x1), .int 1, .int 1]) (rest := []) hk_232 rfl (Or.inr (Or.inr (Or.inr ⟨Or.inl rfl, _, _, rfl, wc_1076⟩))) rfl rfl rfl (Nat.not_lt.mpr (Nat.le_of_ble_eq_true rfl)) (p_146_ok hv1) (by decide) rfl ?_
  refine wf_if hF (fun c2 hF => ?_) (fun c2 hF => ?_)
  · refine kg_ifF hk_232 rfl (jc_F1 c2) rfl ?_
    refine kg_push (x := 0) hk_232 rfl (by decide) rfl ?_
    have hF := Option.some.inj hF
    subst hF
    exact kg_iret hk_232 rfl (Or.inl rfl) rfl
  · refine kg_ifT hk_232 rfl (jc_T1 c2) ?_
    refine kg_aload hk_232 rfl rfl rfl ?_
    refine wf_bind hF (fun v3 hv3 hF => ?_)
    refine kg_call (as := [.ref (1076 + 1)]) (rest := []) hk_232 rfl (Or.inr (Or.inr (Or.inr ⟨Or.inl rfl, _, _, rfl, wc_1076⟩))) rfl rfl rfl (Nat.not_lt.mpr (Nat.le_of_ble_eq_true rfl)) (p_188_ok hv3) (by decide) rfl ?_
    refine kg_aload hk_232 rfl rfl rfl ?_
    refine kg_get (v := .ref (1122 + 1)) hk_232 rfl wk_1076_59 rfl rfl ?_
    refine kg_iload hk_232 rfl rfl rfl ?_
    refine wf_gd hF (fun g4 hF => ?_)
    refine kg_ald (y := (v3 1122 x1.toNatClampNeg)) hk_232 rfl wc_1122 g4 rfl rfl ?_
    have hF := Option.some.inj hF
    subst hF
    exact kg_iret hk_232 rfl (Or.inl rfl) rfl
-- NotebookWeirModel.needs(I)I
theorem hk_233 : jP[233]? = some (jc_233, 2, [], []) := by rfl
def p_233 (h : Hp) (x1 : Int32) : Option (Int32 × Hp) :=
  (p_146 h (v_167 h x1) 1 1).bind fun v1 =>
  if v1.1 = 0 then
    (some (0, v1.2))
  else
    ((p_183 v1.2 x1).bind fun v3 =>
    some (v3, v1.2))
theorem p_233_ok {X : List Int32}  {h : Hp} {x1 : Int32}  {r : Int32 × Hp} (hF : p_233 h x1 = some r) : k_Ev X 5 233 [.ref (1076 + 1), .int x1] h (.inl (some (.int r.1)), r.2) := by
  refine k_of hk_233 ?_
  show k_Go X 5 233 (0, [.ref (1076 + 1), .int x1], []) h _
  unfold p_233 at hF
  refine kg_aload hk_233 rfl rfl rfl ?_
  refine kg_aload hk_233 rfl rfl rfl ?_
  refine kg_iload hk_233 rfl rfl rfl ?_
  refine kg_call (as := [.ref (1076 + 1), .int x1]) (rest := [.ref (1076 + 1)]) hk_233 rfl (Or.inr (Or.inr (Or.inr ⟨Or.inl rfl, _, _, rfl, wc_1076⟩))) rfl rfl rfl (Nat.not_lt.mpr (Nat.le_of_ble_eq_true rfl)) (v_167_ok) (by decide) rfl ?_
  refine kg_push (x := 1) hk_233 rfl (by decide) rfl ?_
  refine kg_push (x := 1) hk_233 rfl (by decide) rfl ?_
  refine wf_bind hF (fun v1 hv1 hF => ?_)
  refine kg_call (as := [.ref (1076 + 1), .int (v_167 h x1), .int 1, .int 1]) (rest := []) hk_233 rfl (Or.inr (Or.inr (Or.inr ⟨Or.inl rfl, _, _, rfl, wc_1076⟩))) rfl rfl rfl (Nat.not_lt.mpr (Nat.le_of_ble_eq_true rfl)) (p_146_ok hv1) (by decide) rfl ?_
  refine wf_if hF (fun c2 hF => ?_) (fun c2 hF => ?_)
  · refine kg_ifT hk_233 rfl (jc_T0 c2) ?_
    refine kg_push (x := 0) hk_233 rfl (by decide) rfl ?_
    have hF := Option.some.inj hF
    subst hF
    exact kg_iret hk_233 rfl (Or.inl rfl) rfl
  · refine kg_ifF hk_233 rfl (jc_F0 c2) rfl ?_
    refine kg_aload hk_233 rfl rfl rfl ?_
    refine kg_iload hk_233 rfl rfl rfl ?_
    refine wf_bind hF (fun v3 hv3 hF => ?_)
    refine kg_call (as := [.ref (1076 + 1), .int x1]) (rest := []) hk_233 rfl (Or.inr (Or.inr (Or.inr ⟨Or.inl rfl, _, _, rfl, wc_1076⟩))) rfl rfl rfl (Nat.not_lt.mpr (Nat.le_of_ble_eq_true rfl)) (p_183_ok hv3) (by decide) rfl ?_
    refine kg_goto hk_233 rfl ?_
    have hF := Option.some.inj hF
    subst hF
    exact kg_iret hk_233 rfl (Or.inl rfl) rfl
-- NotebookWeirModel.ring(I)I
theorem hk_234 : jP[234]? = some (jc_234, 2, [], []) := by rfl
def p_234 (h : Hp) (x1 : Int32) : Option (Int32 × Hp) :=
  (p_146 h (v_167 h x1) 1 1).bind fun v1 =>
  if v1.1 = 0 then
    (some (0, v1.2))
  else
    ((p_185 v1.2).bind fun v3 =>
    (p_186 v3 x1).bind fun v4 =>
    some (v4, v3))
theorem p_234_ok {X : List Int32}  {h : Hp} {x1 : Int32}  {r : Int32 × Hp} (hF : p_234 h x1 = some r) : k_Ev X 6 234 [.ref (1076 + 1), .int x1] h (.inl (some (.int r.1)), r.2) := by
  refine k_of hk_234 ?_
  show k_Go X 6 234 (0, [.ref (1076 + 1), .int x1], []) h _
  unfold p_234 at hF
  refine kg_aload hk_234 rfl rfl rfl ?_
  refine kg_aload hk_234 rfl rfl rfl ?_
  refine kg_iload hk_234 rfl rfl rfl ?_
  refine kg_call (as := [.ref (1076 + 1), .int x1]) (rest := [.ref (1076 + 1)]) hk_234 rfl (Or.inr (Or.inr (Or.inr ⟨Or.inl rfl, _, _, rfl, wc_1076⟩))) rfl rfl rfl (Nat.not_lt.mpr (Nat.le_of_ble_eq_true rfl)) (v_167_ok) (by decide) rfl ?_
  refine kg_push (x := 1) hk_234 rfl (by decide) rfl ?_
  refine kg_push (x := 1) hk_234 rfl (by decide) rfl ?_
  refine wf_bind hF (fun v1 hv1 hF => ?_)
  refine kg_call (as := [.ref (1076 + 1), .int (v_167 h x1), .int 1, .int 1]) (rest := []) hk_234 rfl (Or.inr (Or.inr (Or.inr ⟨Or.inl rfl, _, _, rfl, wc_1076⟩))) rfl rfl rfl (Nat.not_lt.mpr (Nat.le_of_ble_eq_true rfl)) (p_146_ok hv1) (by decide) rfl ?_
  refine wf_if hF (fun c2 hF => ?_) (fun c2 hF => ?_)
  · refine kg_ifF hk_234 rfl (jc_F1 c2) rfl ?_
    refine kg_push (x := 0) hk_234 rfl (by decide) rfl ?_
    have hF := Option.some.inj hF
    subst hF
    exact kg_iret hk_234 rfl (Or.inl rfl) rfl
  · refine kg_ifT hk_234 rfl (jc_T1 c2) ?_
    refine kg_aload hk_234 rfl rfl rfl ?_
    refine wf_bind hF (fun v3 hv3 hF => ?_)
    refine kg_call (as := [.ref (1076 + 1)]) (rest := []) hk_234 rfl (Or.inr (Or.inr (Or.inr ⟨Or.inl rfl, _, _, rfl, wc_1076⟩))) rfl rfl rfl (Nat.not_lt.mpr (Nat.le_of_ble_eq_true rfl)) (p_185_ok hv3) (by decide) rfl ?_
    refine kg_aload hk_234 rfl rfl rfl ?_
    refine kg_iload hk_234 rfl rfl rfl ?_
    refine wf_bind hF (fun v4 hv4 hF => ?_)
    refine kg_call (as := [.ref (1076 + 1), .int x1]) (rest := []) hk_234 rfl (Or.inr (Or.inr (Or.inr ⟨Or.inl rfl, _, _, rfl, wc_1076⟩))) rfl rfl rfl (Nat.not_lt.mpr (Nat.le_of_ble_eq_true rfl)) (p_186_ok hv4) (by decide) rfl ?_
    have hF := Option.some.inj hF
    subst hF
    exact kg_iret hk_234 rfl (Or.inl rfl) rfl
-- NotebookWeirModel.asks(I)V
theorem hk_235 : jP[235]? = some (jc_235, 2, [], []) := by rfl
def p_235 (h : Hp) (x1 : Int32) : Option (Hp) :=
  (p_188 h).bind fun v1 =>
  if (v1 1076 22) = 1 then
    (w_gd (w_ix x1 16) <|
    if (v1 1122 x1.toNatClampNeg) = 1 then
      ((p_225 v1 x1).bind fun v5 =>
      (p_188 v5.2).bind fun v6 =>
      some v6)
    else
      (some v1))
  else
    (some v1)
theorem p_235_ok {X : List Int32}  {h : Hp} {x1 : Int32}  {r : Hp} (hF : p_235 h x1 = some r) : k_Ev X 14 235 [.ref (1076 + 1), .int x1] h (.inl none, r) := by
  refine k_of hk_235 ?_
  show k_Go X 14 235 (0, [.ref (1076 + 1), .int x1], []) h _
  unfold p_235 at hF
  refine kg_aload hk_235 rfl rfl rfl ?_
  refine wf_bind hF (fun v1 hv1 hF => ?_)
  refine kg_call (as := [.ref (1076 + 1)]) (rest := []) hk_235 rfl (Or.inr (Or.inr (Or.inr ⟨Or.inl rfl, _, _, rfl, wc_1076⟩))) rfl rfl rfl (Nat.not_lt.mpr (Nat.le_of_ble_eq_true rfl)) (p_188_ok hv1) (by decide) rfl ?_
  refine kg_aload hk_235 rfl rfl rfl ?_
  refine kg_get (v := .int (v1 1076 22)) hk_235 rfl wk_1076_22 rfl rfl ?_
  refine kg_push (x := 1) hk_235 rfl (by decide) rfl ?_
  refine wf_if hF (fun c2 hF => ?_) (fun c2 hF => ?_)
  · refine kg_icF hk_235 rfl (jc_F1 c2) rfl ?_
    refine kg_aload hk_235 rfl rfl rfl ?_
    refine kg_get (v := .ref (1122 + 1)) hk_235 rfl wk_1076_59 rfl rfl ?_
    refine kg_iload hk_235 rfl rfl rfl ?_
    refine wf_gd hF (fun g3 hF => ?_)
    refine kg_ald (y := (v1 1122 x1.toNatClampNeg)) hk_235 rfl wc_1122 g3 rfl rfl ?_
    refine kg_push (x := 1) hk_235 rfl (by decide) rfl ?_
    refine wf_if hF (fun c4 hF => ?_) (fun c4 hF => ?_)
    · refine kg_icF hk_235 rfl (jc_F1 c4) rfl ?_
      refine kg_aload hk_235 rfl rfl rfl ?_
      refine kg_iload hk_235 rfl rfl rfl ?_
      refine wf_bind hF (fun v5 hv5 hF => ?_)
      refine kg_call (as := [.ref (1076 + 1), .int x1]) (rest := []) hk_235 rfl (Or.inr (Or.inr (Or.inr ⟨Or.inl rfl, _, _, rfl, wc_1076⟩))) rfl rfl rfl (Nat.not_lt.mpr (Nat.le_of_ble_eq_true rfl)) (p_225_ok hv5) (by decide) rfl ?_
      refine kg_pop hk_235 rfl rfl rfl ?_
      refine kg_aload hk_235 rfl rfl rfl ?_
      refine wf_bind hF (fun v6 hv6 hF => ?_)
      refine kg_call (as := [.ref (1076 + 1)]) (rest := []) hk_235 rfl (Or.inr (Or.inr (Or.inr ⟨Or.inl rfl, _, _, rfl, wc_1076⟩))) rfl rfl rfl (Nat.not_lt.mpr (Nat.le_of_ble_eq_true rfl)) (p_188_ok hv6) (by decide) rfl ?_
      have hF := Option.some.inj hF
      subst hF
      exact kg_ret hk_235 rfl rfl
    · refine kg_icT hk_235 rfl (jc_T1 c4) ?_
      have hF := Option.some.inj hF
      subst hF
      exact kg_ret hk_235 rfl rfl
  · refine kg_icT hk_235 rfl (jc_T1 c2) ?_
    have hF := Option.some.inj hF
    subst hF
    exact kg_ret hk_235 rfl rfl
-- NotebookWeirModel.hasItem([III)Z
theorem hk_236 : jP[236]? = some (jc_236, 3, [], []) := by rfl
def v_236 (h : Hp) (q0 : Nat) (x1 : Int32) (x2 : Int32) : Int32 := (if x2 = (-1) then (if (h q0 x1.toNatClampNeg) = (-2) then 0 else 1) else (if x2 < 0 then 0 else (if x2 < (h q0 x1.toNatClampNeg) then 1 else 0)))
def g_236 (q0 : Nat) (x1 : Int32) (x2 : Int32) : Bool := (if x2 = (-1) then w_ix x1 (w_len q0) else (if x2 < 0 then true else w_ix x1 (w_len q0)))
theorem v_236_bo (h : Hp) (q0 : Nat) (x1 : Int32) (x2 : Int32) : w_bo (v_236 h q0 x1 x2) = true := by
  unfold v_236
  exact (w_boi (w_boi rfl rfl) (w_boi rfl (w_boi rfl rfl)))
theorem v_236_ok {X : List Int32} {h : Hp} {q0 : Nat} {x1 : Int32} {x2 : Int32} (t0 : w_tab[q0]? = some (50, w_len q0, [])) (hg : g_236 q0 x1 x2 = true) : k_Ev X 0 236 [.ref (q0 + 1), .int x1, .int x2] h (.inl (some (.int (v_236 h q0 x1 x2))), h) := by
  refine k_of hk_236 ?_
  show k_Go X 0 236 (0, [.ref (q0 + 1), .int x1, .int x2], []) h _
  generalize hv : v_236 h q0 x1 x2 = z
  unfold v_236 at hv
  unfold g_236 at hg
  have g7 := hg
  refine kg_iload hk_236 rfl rfl rfl ?_
  refine kg_push (x := (-1)) hk_236 rfl (by decide) rfl ?_
  refine kv_mid (p := 22) (L := [.ref (q0 + 1), .int x1, .int x2]) (S := [.int (if x2 = (-1) then (if (h q0 x1.toNatClampNeg) = (-2) then 0 else 1) else (if x2 < 0 then 0 else (if x2 < (h q0 x1.toNatClampNeg) then 1 else 0)))]) ?_ (fun hK => ?_)
  · exact kg_iret hk_236 rfl (Or.inr (w_boi (w_boi rfl rfl) (w_boi rfl (w_boi rfl rfl)))) (by rw [hv])
  · have hg := g7
    by_cases c1 : x2 = (-1)
    · have hg := wv_T c1 hg
      have hK := kv_T c1 hK
      have g2 := hg
      refine kg_icF hk_236 rfl (jc_F1 c1) rfl ?_
      refine kg_aload hk_236 rfl rfl rfl ?_
      refine kg_iload hk_236 rfl rfl rfl ?_
      refine kg_ald (y := (h q0 x1.toNatClampNeg)) hk_236 rfl t0 g2 rfl rfl ?_
      refine kg_push (x := (-2)) hk_236 rfl (by decide) rfl ?_
      by_cases c3 : (h q0 x1.toNatClampNeg) = (-2)
      · have hK := kv_T c3 hK
        refine kg_icT hk_236 rfl (jc_T0 c3) ?_
        refine kg_push (x := 0) hk_236 rfl (by decide) rfl ?_
        refine kg_goto hk_236 rfl ?_
        exact hK
      · have hK := kv_F c3 hK
        refine kg_icF hk_236 rfl (jc_F0 c3) rfl ?_
        refine kg_push (x := 1) hk_236 rfl (by decide) rfl ?_
        refine kg_goto hk_236 rfl ?_
        exact hK
    · have hg := wv_F c1 hg
      have hK := kv_F c1 hK
      refine kg_icT hk_236 rfl (jc_T1 c1) ?_
      refine kg_iload hk_236 rfl rfl rfl ?_
      by_cases c4 : x2 < 0
      · have hK := kv_T c4 hK
        refine kg_ifT hk_236 rfl (jc_T2 c4) ?_
        refine kg_push (x := 0) hk_236 rfl (by decide) rfl ?_
        exact hK
      · have hg := wv_F c4 hg
        have hK := kv_F c4 hK
        have g5 := hg
        refine kg_ifF hk_236 rfl (jc_F2 c4) rfl ?_
        refine kg_iload hk_236 rfl rfl rfl ?_
        refine kg_aload hk_236 rfl rfl rfl ?_
        refine kg_iload hk_236 rfl rfl rfl ?_
        refine kg_ald (y := (h q0 x1.toNatClampNeg)) hk_236 rfl t0 g5 rfl rfl ?_
        by_cases c6 : x2 < (h q0 x1.toNatClampNeg)
        · have hK := kv_T c6 hK
          refine kg_icF hk_236 rfl (jc_F3 c6) rfl ?_
          refine kg_push (x := 1) hk_236 rfl (by decide) rfl ?_
          refine kg_goto hk_236 rfl ?_
          exact hK
        · have hK := kv_F c6 hK
          refine kg_icT hk_236 rfl (jc_T3 c6) ?_
          refine kg_push (x := 0) hk_236 rfl (by decide) rfl ?_
          exact hK
-- NotebookWeirModel.itemOf([III)I
theorem hk_237 : jP[237]? = some (jc_237, 3, [], []) := by rfl
def v_237 (h : Hp) (q0 : Nat) (x1 : Int32) (x2 : Int32) : Int32 := (if x2 < 0 then (if (h q0 x1.toNatClampNeg) = (-1) then (h q0 (x1 + 1).toNatClampNeg) else (h q0 x1.toNatClampNeg)) else (h q0 ((x1 + 1) + x2).toNatClampNeg))
def g_237 (h : Hp) (q0 : Nat) (x1 : Int32) (x2 : Int32) : Bool := (if x2 < 0 then (w_ix x1 (w_len q0)) && ((if (h q0 x1.toNatClampNeg) = (-1) then w_ix (x1 + 1) (w_len q0) else w_ix x1 (w_len q0))) else w_ix ((x1 + 1) + x2) (w_len q0))
theorem v_237_ok {X : List Int32} {h : Hp} {q0 : Nat} {x1 : Int32} {x2 : Int32} (t0 : w_tab[q0]? = some (50, w_len q0, [])) (hg : g_237 h q0 x1 x2 = true) : k_Ev X 0 237 [.ref (q0 + 1), .int x1, .int x2] h (.inl (some (.int (v_237 h q0 x1 x2))), h) := by
  refine k_of hk_237 ?_
  show k_Go X 0 237 (0, [.ref (q0 + 1), .int x1, .int x2], []) h _
  generalize hv : v_237 h q0 x1 x2 = z
  unfold v_237 at hv
  unfold g_237 at hg
  have g7 := hg
  refine kg_iload hk_237 rfl rfl rfl ?_
  refine kv_mid (p := 24) (L := [.ref (q0 + 1), .int x1, .int x2]) (S := [.int (if x2 < 0 then (if (h q0 x1.toNatClampNeg) = (-1) then (h q0 (x1 + 1).toNatClampNeg) else (h q0 x1.toNatClampNeg)) else (h q0 ((x1 + 1) + x2).toNatClampNeg))]) ?_ (fun hK => ?_)
  · exact kg_iret hk_237 rfl (Or.inl rfl) (by rw [hv])
  · have hg := g7
    by_cases c1 : x2 < 0
    · have hg := wv_T c1 hg
      have hK := kv_T c1 hK
      have g2 := wb_1 hg
      have hg := wb_2 hg
      refine kg_ifT hk_237 rfl (jc_T2 c1) ?_
      refine kg_aload hk_237 rfl rfl rfl ?_
      refine kg_iload hk_237 rfl rfl rfl ?_
      refine kg_ald (y := (h q0 x1.toNatClampNeg)) hk_237 rfl t0 g2 rfl rfl ?_
      refine kg_push (x := (-1)) hk_237 rfl (by decide) rfl ?_
      by_cases c3 : (h q0 x1.toNatClampNeg) = (-1)
      · have hg := wv_T c3 hg
        have hK := kv_T c3 hK
        have g4 := hg
        refine kg_icF hk_237 rfl (jc_F1 c3) rfl ?_
        refine kg_aload hk_237 rfl rfl rfl ?_
        refine kg_iload hk_237 rfl rfl rfl ?_
        refine kg_push (x := 1) hk_237 rfl (by decide) rfl ?_
        refine kg_bin (z := (x1 + 1)) hk_237 rfl rfl rfl ?_
        refine kg_ald (y := (h q0 (x1 + 1).toNatClampNeg)) hk_237 rfl t0 g4 rfl rfl ?_
        refine kg_goto hk_237 rfl ?_
        exact hK
      · have hg := wv_F c3 hg
        have hK := kv_F c3 hK
        have g5 := hg
        refine kg_icT hk_237 rfl (jc_T1 c3) ?_
        refine kg_aload hk_237 rfl rfl rfl ?_
        refine kg_iload hk_237 rfl rfl rfl ?_
        refine kg_ald (y := (h q0 x1.toNatClampNeg)) hk_237 rfl t0 g5 rfl rfl ?_
        exact hK
    · have hg := wv_F c1 hg
      have hK := kv_F c1 hK
      have g6 := hg
      refine kg_ifF hk_237 rfl (jc_F2 c1) rfl ?_
      refine kg_aload hk_237 rfl rfl rfl ?_
      refine kg_iload hk_237 rfl rfl rfl ?_
      refine kg_push (x := 1) hk_237 rfl (by decide) rfl ?_
      refine kg_bin (z := (x1 + 1)) hk_237 rfl rfl rfl ?_
      refine kg_iload hk_237 rfl rfl rfl ?_
      refine kg_bin (z := ((x1 + 1) + x2)) hk_237 rfl rfl rfl ?_
      refine kg_ald (y := (h q0 ((x1 + 1) + x2).toNatClampNeg)) hk_237 rfl t0 g6 rfl rfl ?_
      refine kg_goto hk_237 rfl ?_
      exact hK
-- NotebookWeirModel.result(II)I
theorem hk_238 : jP[238]? = some (jc_238, 5, [], []) := by rfl
def q_238_27 (h : Hp) (x1 : Int32) (x2 : Int32) (x3 : Int32) (s0 : Int32) : Option (Int32 × Hp) :=
  (p_146 h x3 s0 1).bind fun v8 =>
  w_gd ((if v8.1 = 0 then true else g_237 v8.2 1094 (9 * x1) x2)) <|
  some ((if v8.1 = 0 then 0 else (v_237 v8.2 1094 (9 * x1) x2)), v8.2)
theorem q_238_27_ok {X : List Int32}   {h : Hp} {s0 : Int32} {x1 : Int32} {x2 : Int32} {x3 : Int32}  {r : Int32 × Hp} (hF : q_238_27 h x1 x2 x3 s0 = some r)  : ∀ (u4 : Value), k_Go X 15 238 (27, [.ref (1076 + 1), .int x1, .int x2, .int x3, u4], [.int s0]) h (.inl (some (.int r.1)), r.2) := by
  intro u4
  unfold q_238_27 at hF
  refine kg_istore (L2 := [.ref (1076 + 1), .int x1, .int x2, .int x3, .int s0]) hk_238 rfl (Nat.le_of_ble_eq_true rfl) rfl rfl ?_
  refine kg_aload hk_238 rfl rfl rfl ?_
  refine kg_iload hk_238 rfl rfl rfl ?_
  refine kg_iload hk_238 rfl rfl rfl ?_
  refine kg_push (x := 1) hk_238 rfl (by decide) rfl ?_
  refine wf_bind hF (fun v8 hv8 hF => ?_)
  refine kg_call (as := [.ref (1076 + 1), .int x3, .int s0, .int 1]) (rest := []) hk_238 rfl (Or.inr (Or.inr (Or.inr ⟨Or.inl rfl, _, _, rfl, wc_1076⟩))) rfl rfl rfl (Nat.not_lt.mpr (Nat.le_of_ble_eq_true rfl)) (p_146_ok hv8) (by decide) rfl ?_
  refine wf_gd hF (fun g11 hF => ?_)
  refine kv_mid (p := 43) (L := [.ref (1076 + 1), .int x1, .int x2, .int x3, .int s0]) (S := [.int (if v8.1 = 0 then 0 else (v_237 v8.2 1094 (9 * x1) x2))]) ?_ (fun hK => ?_)
  · have hF := Option.some.inj hF
    subst hF
    exact kg_iret hk_238 rfl (Or.inl rfl) rfl
  · have hg := g11
    by_cases c9 : v8.1 = 0
    · have hK := kv_T c9 hK
      refine kg_ifT hk_238 rfl (jc_T0 c9) ?_
      refine kg_push (x := 0) hk_238 rfl (by decide) rfl ?_
      exact hK
    · have hg := wv_F c9 hg
      have hK := kv_F c9 hK
      have g10 := hg
      refine kg_ifF hk_238 rfl (jc_F0 c9) rfl ?_
      refine kg_aload hk_238 rfl rfl rfl ?_
      refine kg_get (v := .ref (1094 + 1)) hk_238 rfl wk_1076_18 rfl rfl ?_
      refine kg_push (x := 9) hk_238 rfl (by decide) rfl ?_
      refine kg_iload hk_238 rfl rfl rfl ?_
      refine kg_bin (z := (9 * x1)) hk_238 rfl rfl rfl ?_
      refine kg_iload hk_238 rfl rfl rfl ?_
      refine kg_call (as := [.ref (1094 + 1), .int (9 * x1), .int x2]) (rest := []) hk_238 rfl (Or.inl rfl) rfl rfl rfl (Nat.not_lt.mpr (Nat.le_of_ble_eq_true rfl)) (v_237_ok wc_1094 g10) (by decide) rfl ?_
      refine kg_goto hk_238 rfl ?_
      exact hK
def q_238_9 (h : Hp) (x1 : Int32) (x2 : Int32) (x3 : Int32) : Option (Int32 × Hp) :=
  w_gd ((if x3 = 0 then true else (w_ix x1 16) && ((if (h 1122 x1.toNatClampNeg) = 0 then g_236 1094 (9 * x1) x2 else true)))) <|
  q_238_27 h x1 x2 x3 (if x3 = 0 then 0 else (if (h 1122 x1.toNatClampNeg) = 0 then (if (v_236 h 1094 (9 * x1) x2) = 0 then 0 else 1) else 0))
theorem q_238_9_ok {X : List Int32}   {h : Hp} {x1 : Int32} {x2 : Int32} {x3 : Int32}  {r : Int32 × Hp} (hF : q_238_9 h x1 x2 x3 = some r)  : ∀ (u4 : Value), k_Go X 15 238 (9, [.ref (1076 + 1), .int x1, .int x2, .int x3, u4], []) h (.inl (some (.int r.1)), r.2) := by
  intro u4
  unfold q_238_9 at hF
  refine kg_iload hk_238 rfl rfl rfl ?_
  refine wf_gd hF (fun g7 hF => ?_)
  refine kv_mid (p := 27) (L := [.ref (1076 + 1), .int x1, .int x2, .int x3, u4]) (S := [.int (if x3 = 0 then 0 else (if (h 1122 x1.toNatClampNeg) = 0 then (if (v_236 h 1094 (9 * x1) x2) = 0 then 0 else 1) else 0))]) ?_ (fun hK => ?_)
  · exact q_238_27_ok hF _
  · have hg := g7
    by_cases c2 : x3 = 0
    · have hK := kv_T c2 hK
      refine kg_ifT hk_238 rfl (jc_T0 c2) ?_
      refine kg_push (x := 0) hk_238 rfl (by decide) rfl ?_
      exact hK
    · have hg := wv_F c2 hg
      have hK := kv_F c2 hK
      have g3 := wb_1 hg
      have hg := wb_2 hg
      refine kg_ifF hk_238 rfl (jc_F0 c2) rfl ?_
      refine kg_aload hk_238 rfl rfl rfl ?_
      refine kg_get (v := .ref (1122 + 1)) hk_238 rfl wk_1076_59 rfl rfl ?_
      refine kg_iload hk_238 rfl rfl rfl ?_
      refine kg_ald (y := (h 1122 x1.toNatClampNeg)) hk_238 rfl wc_1122 g3 rfl rfl ?_
      by_cases c4 : (h 1122 x1.toNatClampNeg) = 0
      · have hg := wv_T c4 hg
        have hK := kv_T c4 hK
        have g5 := hg
        refine kg_ifF hk_238 rfl (jc_F1 c4) rfl ?_
        refine kg_aload hk_238 rfl rfl rfl ?_
        refine kg_get (v := .ref (1094 + 1)) hk_238 rfl wk_1076_18 rfl rfl ?_
        refine kg_push (x := 9) hk_238 rfl (by decide) rfl ?_
        refine kg_iload hk_238 rfl rfl rfl ?_
        refine kg_bin (z := (9 * x1)) hk_238 rfl rfl rfl ?_
        refine kg_iload hk_238 rfl rfl rfl ?_
        refine kg_call (as := [.ref (1094 + 1), .int (9 * x1), .int x2]) (rest := []) hk_238 rfl (Or.inl rfl) rfl rfl rfl (Nat.not_lt.mpr (Nat.le_of_ble_eq_true rfl)) (v_236_ok wc_1094 g5) (by decide) rfl ?_
        by_cases c6 : (v_236 h 1094 (9 * x1) x2) = 0
        · have hK := kv_T c6 hK
          refine kg_ifT hk_238 rfl (jc_T0 c6) ?_
          refine kg_push (x := 0) hk_238 rfl (by decide) rfl ?_
          exact hK
        · have hK := kv_F c6 hK
          refine kg_ifF hk_238 rfl (jc_F0 c6) rfl ?_
          refine kg_push (x := 1) hk_238 rfl (by decide) rfl ?_
          refine kg_goto hk_238 rfl ?_
          exact hK
      · have hK := kv_F c4 hK
        refine kg_ifT hk_238 rfl (jc_T1 c4) ?_
        refine kg_push (x := 0) hk_238 rfl (by decide) rfl ?_
        exact hK
def p_238 (h : Hp) (x1 : Int32) (x2 : Int32) : Option (Int32 × Hp) :=
  if (v_167 h x1) = 0 then
    (q_238_9 h x1 x2 (v_167 h x1))
  else
    ((p_235 h x1).bind fun v12 =>
    q_238_9 v12 x1 x2 (v_167 h x1))
theorem p_238_ok {X : List Int32}  {h : Hp} {x1 : Int32} {x2 : Int32}  {r : Int32 × Hp} (hF : p_238 h x1 x2 = some r) : k_Ev X 15 238 [.ref (1076 + 1), .int x1, .int x2] h (.inl (some (.int r.1)), r.2) := by
  refine k_of hk_238 ?_
  show k_Go X 15 238 (0, [.ref (1076 + 1), .int x1, .int x2, (.retAddr 0), (.retAddr 0)], []) h _
  unfold p_238 at hF
  refine kg_aload hk_238 rfl rfl rfl ?_
  refine kg_iload hk_238 rfl rfl rfl ?_
  refine kg_call (as := [.ref (1076 + 1), .int x1]) (rest := []) hk_238 rfl (Or.inr (Or.inr (Or.inr ⟨Or.inl rfl, _, _, rfl, wc_1076⟩))) rfl rfl rfl (Nat.not_lt.mpr (Nat.le_of_ble_eq_true rfl)) (v_167_ok) (by decide) rfl ?_
  refine kg_istore (L2 := [.ref (1076 + 1), .int x1, .int x2, .int (v_167 h x1), (.retAddr 0)]) hk_238 rfl (Nat.le_of_ble_eq_true rfl) rfl rfl ?_
  refine kg_iload hk_238 rfl rfl rfl ?_
  refine wf_if hF (fun c1 hF => ?_) (fun c1 hF => ?_)
  · refine kg_ifT hk_238 rfl (jc_T0 c1) ?_
    exact q_238_9_ok hF _
  · refine kg_ifF hk_238 rfl (jc_F0 c1) rfl ?_
    refine kg_aload hk_238 rfl rfl rfl ?_
    refine kg_iload hk_238 rfl rfl rfl ?_
    refine wf_bind hF (fun v12 hv12 hF => ?_)
    refine kg_call (as := [.ref (1076 + 1), .int x1]) (rest := []) hk_238 rfl (Or.inr (Or.inr (Or.inr ⟨Or.inl rfl, _, _, rfl, wc_1076⟩))) rfl rfl rfl (Nat.not_lt.mpr (Nat.le_of_ble_eq_true rfl)) (p_235_ok hv12) (by decide) rfl ?_
    exact q_238_9_ok hF _
-- NotebookWeirModel.orders()V
theorem hk_239 : jP[239]? = some (jc_239, 7, [], []) := by rfl
def l_239_9 (h : Hp) (x1 : Int32) (x2 : Int32) : Option ((Int32 × Int32) ⊕ Int32) :=
  if x2 < (h 1076 2) then
    (w_gd (w_ix x2 16) <|
    some (.inl ((x1 ||| (if (h 1122 x2.toNatClampNeg) < 4 then 0 else (1 <<< (x2 &&& 31)))), (x2 + 1))))
  else
    (some (.inr x1))
theorem l_239_9_st {X : List Int32} {o : kO}  {h : Hp} {x1 : Int32} {x2 : Int32}  {r : (Int32 × Int32) ⊕ Int32} (hF : l_239_9 h x1 x2 = some r) (hK : ∀ s' : Int32 × Int32, r = .inl s' → ∀ (u3 : Value) (u4 : Value) (u5 : Value) (u6 : Value), k_Go X 7 239 (9, [.ref (1076 + 1), .int (s'.1), .int (s'.2), u3, u4, u5, u6], []) h o) (hX0 : ∀ e : Int32, r = .inr e → ∀ (u2 : Value) (u3 : Value) (u4 : Value) (u5 : Value) (u6 : Value), k_Go X 7 239 (29, [.ref (1076 + 1), .int e, u2, u3, u4, u5, u6], []) h o) : ∀ (u3 : Value) (u4 : Value) (u5 : Value) (u6 : Value), k_Go X 7 239 (9, [.ref (1076 + 1), .int x1, .int x2, u3, u4, u5, u6], []) h o := by
  intro u3 u4 u5 u6
  refine kg_iload hk_239 rfl rfl rfl ?_
  refine kg_aload hk_239 rfl rfl rfl ?_
  refine kg_get (v := .int (h 1076 2)) hk_239 rfl wk_1076_2 rfl rfl ?_
  refine wf_if hF (fun c3 hF => ?_) (fun c3 hF => ?_)
  · refine kg_icF hk_239 rfl (jc_F3 c3) rfl ?_
    refine kg_iload hk_239 rfl rfl rfl ?_
    refine kg_aload hk_239 rfl rfl rfl ?_
    refine kg_get (v := .ref (1122 + 1)) hk_239 rfl wk_1076_59 rfl rfl ?_
    refine kg_iload hk_239 rfl rfl rfl ?_
    refine wf_gd hF (fun g4 hF => ?_)
    refine kg_ald (y := (h 1122 x2.toNatClampNeg)) hk_239 rfl wc_1122 g4 rfl rfl ?_
    refine kg_push (x := 4) hk_239 rfl (by decide) rfl ?_
    refine kv_mid (p := 25) (L := [.ref (1076 + 1), .int x1, .int x2, u3, u4, u5, u6]) (S := [.int (if (h 1122 x2.toNatClampNeg) < 4 then 0 else (1 <<< (x2 &&& 31))), .int x1]) ?_ (fun hK => ?_)
    · refine kg_bin (z := (x1 ||| (if (h 1122 x2.toNatClampNeg) < 4 then 0 else (1 <<< (x2 &&& 31))))) hk_239 rfl rfl rfl ?_
      refine kg_istore (L2 := [.ref (1076 + 1), .int (x1 ||| (if (h 1122 x2.toNatClampNeg) < 4 then 0 else (1 <<< (x2 &&& 31)))), .int x2, u3, u4, u5, u6]) hk_239 rfl (Nat.le_of_ble_eq_true rfl) rfl rfl ?_
      refine kg_iinc (y := (x2 + 1)) (L2 := [.ref (1076 + 1), .int (x1 ||| (if (h 1122 x2.toNatClampNeg) < 4 then 0 else (1 <<< (x2 &&& 31)))), .int (x2 + 1), u3, u4, u5, u6]) hk_239 rfl rfl rfl rfl rfl ?_
      refine kg_goto hk_239 rfl ?_
      have hF := Option.some.inj hF
      exact hK _ hF.symm _ _ _ _
    · by_cases c5 : (h 1122 x2.toNatClampNeg) < 4
      · have hK := kv_T c5 hK
        refine kg_icT hk_239 rfl (jc_T2 c5) ?_
        refine kg_push (x := 0) hk_239 rfl (by decide) rfl ?_
        exact hK
      · have hK := kv_F c5 hK
        refine kg_icF hk_239 rfl (jc_F2 c5) rfl ?_
        refine kg_push (x := 1) hk_239 rfl (by decide) rfl ?_
        refine kg_iload hk_239 rfl rfl rfl ?_
        refine kg_bin (z := (1 <<< (x2 &&& 31))) hk_239 rfl rfl rfl ?_
        refine kg_goto hk_239 rfl ?_
        exact hK
  · refine kg_icT hk_239 rfl (jc_T3 c3) ?_
    have hF := Option.some.inj hF
    exact hX0 _ hF.symm _ _ _ _ _
theorem l_239_9_ok {X : List Int32} {o : kO}  {h : Hp}  {n : Nat} {s : Int32 × Int32} {e : Int32} (hF : w_lp (fun (s : Int32 × Int32) => l_239_9 h s.1 s.2) n s = some e) (hX0 : ∀ (u2 : Value) (u3 : Value) (u4 : Value) (u5 : Value) (u6 : Value), k_Go X 7 239 (29, [.ref (1076 + 1), .int e, u2, u3, u4, u5, u6], []) h o) : ∀ (u3 : Value) (u4 : Value) (u5 : Value) (u6 : Value), k_Go X 7 239 (9, [.ref (1076 + 1), .int s.1, .int s.2, u3, u4, u5, u6], []) h o := by
  exact w_lp_ok (P := (fun (s : Int32 × Int32) => ∀ (u3 : Value) (u4 : Value) (u5 : Value) (u6 : Value), k_Go X 7 239 (9, [.ref (1076 + 1), .int s.1, .int s.2, u3, u4, u5, u6], []) h o)) (Q := (fun (e : Int32) => (∀ (u2 : Value) (u3 : Value) (u4 : Value) (u5 : Value) (u6 : Value), k_Go X 7 239 (29, [.ref (1076 + 1), .int e, u2, u3, u4, u5, u6], []) h o))) (fun s r hF hK hX => l_239_9_st hF hK (fun x hx => (hX _ hx))) n s e hF hX0
def q_239_77 (h : Hp) (x1 : Int32) (x2 : Int32) (x4 : Int32) (x5 : Int32) (s0 : Int32) : Option ((Int32 × Int32) ⊕ Int32) :=
  some (.inl ((if s0 = 0 then x4 else x5), (x5 + (-1))))
theorem q_239_77_ok {X : List Int32} {o : kO}  {h : Hp} {s0 : Int32} {x1 : Int32} {x2 : Int32} {x4 : Int32} {x5 : Int32}  {r : (Int32 × Int32) ⊕ Int32} (hF : q_239_77 h x1 x2 x4 x5 s0 = some r) (hK : ∀ s' : Int32 × Int32, r = .inl s' → ∀ (u3 : Value) (u6 : Value), k_Go X 7 239 (42, [.ref (1076 + 1), .int x1, .int x2, u3, .int (s'.1), .int (s'.2), u6], []) h o) (hX0 : ∀ e : Int32, r = .inr e → ∀ (u3 : Value) (u5 : Value) (u6 : Value), k_Go X 7 239 (86, [.ref (1076 + 1), .int x1, .int x2, u3, .int e, u5, u6], []) h o) : ∀ (u3 : Value) (u6 : Value), k_Go X 7 239 (77, [.ref (1076 + 1), .int x1, .int x2, u3, .int x4, .int x5, u6], [.int s0]) h o := by
  intro u3 u6
  unfold q_239_77 at hF
  refine kg_istore (L2 := [.ref (1076 + 1), .int x1, .int x2, u3, .int x4, .int x5, .int s0]) hk_239 rfl (Nat.le_of_ble_eq_true rfl) rfl rfl ?_
  refine kg_iload hk_239 rfl rfl rfl ?_
  refine kv_mid (p := 83) (L := [.ref (1076 + 1), .int x1, .int x2, u3, .int x4, .int x5, .int s0]) (S := [.int (if s0 = 0 then x4 else x5)]) ?_ (fun hK => ?_)
  · refine kg_istore (L2 := [.ref (1076 + 1), .int x1, .int x2, u3, .int (if s0 = 0 then x4 else x5), .int x5, .int s0]) hk_239 rfl (Nat.le_of_ble_eq_true rfl) rfl rfl ?_
    refine kg_iinc (y := (x5 + (-1))) (L2 := [.ref (1076 + 1), .int x1, .int x2, u3, .int (if s0 = 0 then x4 else x5), .int (x5 + (-1)), .int s0]) hk_239 rfl rfl rfl rfl rfl ?_
    refine kg_goto hk_239 rfl ?_
    have hF := Option.some.inj hF
    exact hK _ hF.symm _ _
  · by_cases c16 : s0 = 0
    · have hK := kv_T c16 hK
      refine kg_ifT hk_239 rfl (jc_T0 c16) ?_
      refine kg_iload hk_239 rfl rfl rfl ?_
      exact hK
    · have hK := kv_F c16 hK
      refine kg_ifF hk_239 rfl (jc_F0 c16) rfl ?_
      refine kg_iload hk_239 rfl rfl rfl ?_
      refine kg_goto hk_239 rfl ?_
      exact hK
def l_239_42 (h : Hp) (x1 : Int32) (x2 : Int32) (x4 : Int32) (x5 : Int32) : Option ((Int32 × Int32) ⊕ Int32) :=
  if x5 < 0 then
    (some (.inr x4))
  else
    (w_gd ((if ((x2 >>> (x5 &&& 31)) &&& 1) = 0 then (if ((x1 >>> (x5 &&& 31)) &&& 1) = 0 then (w_ix x5 16) && ((if ((h 1121 x5.toNatClampNeg) &&& x1) = 0 then w_ix x5 16 else true)) else true) else true)) <|
    q_239_77 h x1 x2 x4 x5 (if ((x2 >>> (x5 &&& 31)) &&& 1) = 0 then (if ((x1 >>> (x5 &&& 31)) &&& 1) = 0 then (if ((h 1121 x5.toNatClampNeg) &&& x1) = 0 then (if (((h 1120 x5.toNatClampNeg) &&& 65535) &&& (x2 ^^^ (-1))) = 0 then 1 else 0) else 0) else 0) else 0))
theorem l_239_42_st {X : List Int32} {o : kO}  {h : Hp} {x1 : Int32} {x2 : Int32} {x4 : Int32} {x5 : Int32}  {r : (Int32 × Int32) ⊕ Int32} (hF : l_239_42 h x1 x2 x4 x5 = some r) (hK : ∀ s' : Int32 × Int32, r = .inl s' → ∀ (u3 : Value) (u6 : Value), k_Go X 7 239 (42, [.ref (1076 + 1), .int x1, .int x2, u3, .int (s'.1), .int (s'.2), u6], []) h o) (hX0 : ∀ e : Int32, r = .inr e → ∀ (u3 : Value) (u5 : Value) (u6 : Value), k_Go X 7 239 (86, [.ref (1076 + 1), .int x1, .int x2, u3, .int e, u5, u6], []) h o) : ∀ (u3 : Value) (u6 : Value), k_Go X 7 239 (42, [.ref (1076 + 1), .int x1, .int x2, u3, .int x4, .int x5, u6], []) h o := by
  intro u3 u6
  refine kg_iload hk_239 rfl rfl rfl ?_
  refine wf_if hF (fun c8 hF => ?_) (fun c8 hF => ?_)
  · refine kg_ifT hk_239 rfl (jc_T2 c8) ?_
    have hF := Option.some.inj hF
    exact hX0 _ hF.symm _ _ _
  · refine kg_ifF hk_239 rfl (jc_F2 c8) rfl ?_
    refine kg_iload hk_239 rfl rfl rfl ?_
    refine kg_iload hk_239 rfl rfl rfl ?_
    refine kg_bin (z := (x2 >>> (x5 &&& 31))) hk_239 rfl rfl rfl ?_
    refine kg_push (x := 1) hk_239 rfl (by decide) rfl ?_
    refine kg_bin (z := ((x2 >>> (x5 &&& 31)) &&& 1)) hk_239 rfl rfl rfl ?_
    refine wf_gd hF (fun g15 hF => ?_)
    refine kv_mid (p := 77) (L := [.ref (1076 + 1), .int x1, .int x2, u3, .int x4, .int x5, u6]) (S := [.int (if ((x2 >>> (x5 &&& 31)) &&& 1) = 0 then (if ((x1 >>> (x5 &&& 31)) &&& 1) = 0 then (if ((h 1121 x5.toNatClampNeg) &&& x1) = 0 then (if (((h 1120 x5.toNatClampNeg) &&& 65535) &&& (x2 ^^^ (-1))) = 0 then 1 else 0) else 0) else 0) else 0)]) ?_ (fun hK => ?_)
    · exact q_239_77_ok hF hK hX0 _ _
    · have hg := g15
      by_cases c9 : ((x2 >>> (x5 &&& 31)) &&& 1) = 0
      · have hg := wv_T c9 hg
        have hK := kv_T c9 hK
        refine kg_ifF hk_239 rfl (jc_F1 c9) rfl ?_
        refine kg_iload hk_239 rfl rfl rfl ?_
        refine kg_iload hk_239 rfl rfl rfl ?_
        refine kg_bin (z := (x1 >>> (x5 &&& 31))) hk_239 rfl rfl rfl ?_
        refine kg_push (x := 1) hk_239 rfl (by decide) rfl ?_
        refine kg_bin (z := ((x1 >>> (x5 &&& 31)) &&& 1)) hk_239 rfl rfl rfl ?_
        by_cases c10 : ((x1 >>> (x5 &&& 31)) &&& 1) = 0
        · have hg := wv_T c10 hg
          have hK := kv_T c10 hK
          have g11 := wb_1 hg
          have hg := wb_2 hg
          refine kg_ifF hk_239 rfl (jc_F1 c10) rfl ?_
          refine kg_aload hk_239 rfl rfl rfl ?_
          refine kg_get (v := .ref (1121 + 1)) hk_239 rfl wk_1076_58 rfl rfl ?_
          refine kg_iload hk_239 rfl rfl rfl ?_
          refine kg_ald (y := (h 1121 x5.toNatClampNeg)) hk_239 rfl wc_1121 g11 rfl rfl ?_
          refine kg_iload hk_239 rfl rfl rfl ?_
          refine kg_bin (z := ((h 1121 x5.toNatClampNeg) &&& x1)) hk_239 rfl rfl rfl ?_
          by_cases c12 : ((h 1121 x5.toNatClampNeg) &&& x1) = 0
          · have hg := wv_T c12 hg
            have hK := kv_T c12 hK
            have g13 := hg
            refine kg_ifF hk_239 rfl (jc_F1 c12) rfl ?_
            refine kg_aload hk_239 rfl rfl rfl ?_
            refine kg_get (v := .ref (1120 + 1)) hk_239 rfl wk_1076_57 rfl rfl ?_
            refine kg_iload hk_239 rfl rfl rfl ?_
            refine kg_ald (y := (h 1120 x5.toNatClampNeg)) hk_239 rfl wc_1120 g13 rfl rfl ?_
            refine kg_push (x := 65535) hk_239 rfl (by decide) rfl ?_
            refine kg_bin (z := ((h 1120 x5.toNatClampNeg) &&& 65535)) hk_239 rfl rfl rfl ?_
            refine kg_iload hk_239 rfl rfl rfl ?_
            refine kg_push (x := (-1)) hk_239 rfl (by decide) rfl ?_
            refine kg_bin (z := (x2 ^^^ (-1))) hk_239 rfl rfl rfl ?_
            refine kg_bin (z := (((h 1120 x5.toNatClampNeg) &&& 65535) &&& (x2 ^^^ (-1)))) hk_239 rfl rfl rfl ?_
            by_cases c14 : (((h 1120 x5.toNatClampNeg) &&& 65535) &&& (x2 ^^^ (-1))) = 0
            · have hK := kv_T c14 hK
              refine kg_ifF hk_239 rfl (jc_F1 c14) rfl ?_
              refine kg_push (x := 1) hk_239 rfl (by decide) rfl ?_
              refine kg_goto hk_239 rfl ?_
              exact hK
            · have hK := kv_F c14 hK
              refine kg_ifT hk_239 rfl (jc_T1 c14) ?_
              refine kg_push (x := 0) hk_239 rfl (by decide) rfl ?_
              exact hK
          · have hK := kv_F c12 hK
            refine kg_ifT hk_239 rfl (jc_T1 c12) ?_
            refine kg_push (x := 0) hk_239 rfl (by decide) rfl ?_
            exact hK
        · have hK := kv_F c10 hK
          refine kg_ifT hk_239 rfl (jc_T1 c10) ?_
          refine kg_push (x := 0) hk_239 rfl (by decide) rfl ?_
          exact hK
      · have hK := kv_F c9 hK
        refine kg_ifT hk_239 rfl (jc_T1 c9) ?_
        refine kg_push (x := 0) hk_239 rfl (by decide) rfl ?_
        exact hK
theorem l_239_42_ok {X : List Int32} {o : kO}  {h : Hp} {x1 : Int32} {x2 : Int32}  {n : Nat} {s : Int32 × Int32} {e : Int32} (hF : w_lp (fun (s : Int32 × Int32) => l_239_42 h x1 x2 s.1 s.2) n s = some e) (hX0 : ∀ (u3 : Value) (u5 : Value) (u6 : Value), k_Go X 7 239 (86, [.ref (1076 + 1), .int x1, .int x2, u3, .int e, u5, u6], []) h o) : ∀ (u3 : Value) (u6 : Value), k_Go X 7 239 (42, [.ref (1076 + 1), .int x1, .int x2, u3, .int s.1, .int s.2, u6], []) h o := by
  exact w_lp_ok (P := (fun (s : Int32 × Int32) => ∀ (u3 : Value) (u6 : Value), k_Go X 7 239 (42, [.ref (1076 + 1), .int x1, .int x2, u3, .int s.1, .int s.2, u6], []) h o)) (Q := (fun (e : Int32) => (∀ (u3 : Value) (u5 : Value) (u6 : Value), k_Go X 7 239 (86, [.ref (1076 + 1), .int x1, .int x2, u3, .int e, u5, u6], []) h o))) (fun s r hF hK hX => l_239_42_st hF hK (fun x hx => (hX _ hx))) n s e hF hX0
def q_239_92 (h : Hp) (x1 : Int32) (x2 : Int32) (x4 : Int32) (s0 : Int32) : Option ((Int32 × Int32 × Hp) ⊕ Hp) :=
  if s0 = 0 then
    (some (.inl (x2, s0, h)))
  else
    (w_gd (w_ix (h 1076 64) 16) <|
    w_let (w_up h 1126 ((h 1076 64).toNatClampNeg) x4) fun h21 =>
    w_let (w_up h21 1076 64 ((h21 1076 64) + 1)) fun h22 =>
    some (.inl ((x2 ||| (1 <<< (x4 &&& 31))), s0, h22)))
theorem q_239_92_ok {X : List Int32} {o : kO}  {h : Hp} {s0 : Int32} {x1 : Int32} {x2 : Int32} {x4 : Int32}  {r : (Int32 × Int32 × Hp) ⊕ Hp} (hF : q_239_92 h x1 x2 x4 s0 = some r) (hK : ∀ s' : Int32 × Int32 × Hp, r = .inl s' → ∀ (u4 : Value) (u5 : Value) (u6 : Value), k_Go X 7 239 (33, [.ref (1076 + 1), .int x1, .int (s'.1), .int (s'.2.1), u4, u5, u6], []) s'.2.2 o) (hX0 : ∀ e : Hp, r = .inr e → (.inl none, e) = o) : ∀ (u3 : Value) (u5 : Value) (u6 : Value), k_Go X 7 239 (92, [.ref (1076 + 1), .int x1, .int x2, u3, .int x4, u5, u6], [.int s0]) h o := by
  intro u3 u5 u6
  unfold q_239_92 at hF
  refine kg_istore (L2 := [.ref (1076 + 1), .int x1, .int x2, .int s0, .int x4, u5, u6]) hk_239 rfl (Nat.le_of_ble_eq_true rfl) rfl rfl ?_
  refine kg_iload hk_239 rfl rfl rfl ?_
  refine wf_if hF (fun c19 hF => ?_) (fun c19 hF => ?_)
  · refine kg_ifT hk_239 rfl (jc_T0 c19) ?_
    refine kg_goto hk_239 rfl ?_
    have hF := Option.some.inj hF
    exact hK _ hF.symm _ _ _
  · refine kg_ifF hk_239 rfl (jc_F0 c19) rfl ?_
    refine kg_aload hk_239 rfl rfl rfl ?_
    refine kg_get (v := .ref (1126 + 1)) hk_239 rfl wk_1076_63 rfl rfl ?_
    refine kg_aload hk_239 rfl rfl rfl ?_
    refine kg_get (v := .int (h 1076 64)) hk_239 rfl wk_1076_64 rfl rfl ?_
    refine kg_iload hk_239 rfl rfl rfl ?_
    refine wf_gd hF (fun g20 hF => ?_)
    refine wf_let hF (fun h21 hh21 hF => ?_)
    refine kg_ast hk_239 rfl wc_1126 g20 (by rw [j_nar50]; exact hh21) rfl ?_
    refine kg_aload hk_239 rfl rfl rfl ?_
    refine kg_dup hk_239 rfl rfl rfl ?_
    refine kg_get (v := .int (h21 1076 64)) hk_239 rfl wk_1076_64 rfl rfl ?_
    refine kg_push (x := 1) hk_239 rfl (by decide) rfl ?_
    refine kg_bin (z := ((h21 1076 64) + 1)) hk_239 rfl rfl rfl ?_
    refine wf_let hF (fun h22 hh22 hF => ?_)
    refine kg_put hk_239 rfl wk_1076_64 rfl rfl hh22 rfl ?_
    refine kg_iload hk_239 rfl rfl rfl ?_
    refine kg_push (x := 1) hk_239 rfl (by decide) rfl ?_
    refine kg_iload hk_239 rfl rfl rfl ?_
    refine kg_bin (z := (1 <<< (x4 &&& 31))) hk_239 rfl rfl rfl ?_
    refine kg_bin (z := (x2 ||| (1 <<< (x4 &&& 31)))) hk_239 rfl rfl rfl ?_
    refine kg_istore (L2 := [.ref (1076 + 1), .int x1, .int (x2 ||| (1 <<< (x4 &&& 31))), .int s0, .int x4, u5, u6]) hk_239 rfl (Nat.le_of_ble_eq_true rfl) rfl rfl ?_
    refine kg_goto hk_239 rfl ?_
    have hF := Option.some.inj hF
    exact hK _ hF.symm _ _ _
def l_239_33 (x1 : Int32) (x2 : Int32) (x3 : Int32) (h : Hp) : Option ((Int32 × Int32 × Hp) ⊕ Hp) :=
  if x3 = 0 then
    (some (.inr h))
  else
    ((w_lp (fun (s : Int32 × Int32) => l_239_42 h x1 x2 s.1 s.2) w_N ((-1), ((h 1076 2) - 1))).bind fun e17 =>
    q_239_92 h x1 x2 e17 (if e17 = (-1) then 0 else 1))
theorem l_239_33_st {X : List Int32} {o : kO}  {h : Hp} {x1 : Int32} {x2 : Int32} {x3 : Int32}  {r : (Int32 × Int32 × Hp) ⊕ Hp} (hF : l_239_33 x1 x2 x3 h = some r) (hK : ∀ s' : Int32 × Int32 × Hp, r = .inl s' → ∀ (u4 : Value) (u5 : Value) (u6 : Value), k_Go X 7 239 (33, [.ref (1076 + 1), .int x1, .int (s'.1), .int (s'.2.1), u4, u5, u6], []) s'.2.2 o) (hX0 : ∀ e : Hp, r = .inr e → (.inl none, e) = o) : ∀ (u4 : Value) (u5 : Value) (u6 : Value), k_Go X 7 239 (33, [.ref (1076 + 1), .int x1, .int x2, .int x3, u4, u5, u6], []) h o := by
  intro u4 u5 u6
  refine kg_iload hk_239 rfl rfl rfl ?_
  refine wf_if hF (fun c7 hF => ?_) (fun c7 hF => ?_)
  · refine kg_ifT hk_239 rfl (jc_T0 c7) ?_
    have hF := Option.some.inj hF
    exact kg_ret hk_239 rfl (hX0 _ hF.symm)
  · refine kg_ifF hk_239 rfl (jc_F0 c7) rfl ?_
    refine kg_push (x := (-1)) hk_239 rfl (by decide) rfl ?_
    refine kg_istore (L2 := [.ref (1076 + 1), .int x1, .int x2, .int x3, .int (-1), u5, u6]) hk_239 rfl (Nat.le_of_ble_eq_true rfl) rfl rfl ?_
    refine kg_aload hk_239 rfl rfl rfl ?_
    refine kg_get (v := .int (h 1076 2)) hk_239 rfl wk_1076_2 rfl rfl ?_
    refine kg_push (x := 1) hk_239 rfl (by decide) rfl ?_
    refine kg_bin (z := ((h 1076 2) - 1)) hk_239 rfl rfl rfl ?_
    refine kg_istore (L2 := [.ref (1076 + 1), .int x1, .int x2, .int x3, .int (-1), .int ((h 1076 2) - 1), u6]) hk_239 rfl (Nat.le_of_ble_eq_true rfl) rfl rfl ?_
    refine wf_bind hF (fun e17 he17 hF => ?_)
    refine l_239_42_ok he17 ?_ _ _
    intro u3 u5 u6
    refine kg_iload hk_239 rfl rfl rfl ?_
    refine kg_push (x := (-1)) hk_239 rfl (by decide) rfl ?_
    refine kv_mid (p := 92) (L := [.ref (1076 + 1), .int x1, .int x2, u3, .int e17, u5, u6]) (S := [.int (if e17 = (-1) then 0 else 1)]) ?_ (fun hK => ?_)
    · exact q_239_92_ok hF hK hX0 _ _ _
    · by_cases c18 : e17 = (-1)
      · have hK := kv_T c18 hK
        refine kg_icT hk_239 rfl (jc_T0 c18) ?_
        refine kg_push (x := 0) hk_239 rfl (by decide) rfl ?_
        exact hK
      · have hK := kv_F c18 hK
        refine kg_icF hk_239 rfl (jc_F0 c18) rfl ?_
        refine kg_push (x := 1) hk_239 rfl (by decide) rfl ?_
        refine kg_goto hk_239 rfl ?_
        exact hK
theorem l_239_33_ok {X : List Int32} {o : kO}  {x1 : Int32}  {n : Nat} {s : Int32 × Int32 × Hp} {e : Hp} (hF : w_lp (fun (s : Int32 × Int32 × Hp) => l_239_33 x1 s.1 s.2.1 s.2.2) n s = some e) (hX0 : (.inl none, e) = o) : ∀ (u4 : Value) (u5 : Value) (u6 : Value), k_Go X 7 239 (33, [.ref (1076 + 1), .int x1, .int s.1, .int s.2.1, u4, u5, u6], []) s.2.2 o := by
  exact w_lp_ok (P := (fun (s : Int32 × Int32 × Hp) => ∀ (u4 : Value) (u5 : Value) (u6 : Value), k_Go X 7 239 (33, [.ref (1076 + 1), .int x1, .int s.1, .int s.2.1, u4, u5, u6], []) s.2.2 o)) (Q := (fun (e : Hp) => ((.inl none, e) = o))) (fun s r hF hK hX => l_239_33_st hF hK (fun x hx => (hX _ hx))) n s e hF hX0
def p_239 (h : Hp) : Option (Hp) :=
  (p_188 h).bind fun v1 =>
  w_let (w_up v1 1076 64 0) fun h2 =>
  (w_lp (fun (s : Int32 × Int32) => l_239_9 h2 s.1 s.2) w_N (0, 0)).bind fun e6 =>
  w_lp (fun (s : Int32 × Int32 × Hp) => l_239_33 e6 s.1 s.2.1 s.2.2) w_N (0, 1, h2)
theorem p_239_ok {X : List Int32}  {h : Hp}   {r : Hp} (hF : p_239 h = some r) : k_Ev X 7 239 [.ref (1076 + 1)] h (.inl none, r) := by
  refine k_of hk_239 ?_
  show k_Go X 7 239 (0, [.ref (1076 + 1), (.retAddr 0), (.retAddr 0), (.retAddr 0), (.retAddr 0), (.retAddr 0), (.retAddr 0)], []) h _
  unfold p_239 at hF
  refine kg_aload hk_239 rfl rfl rfl ?_
  refine wf_bind hF (fun v1 hv1 hF => ?_)
  refine kg_call (as := [.ref (1076 + 1)]) (rest := []) hk_239 rfl (Or.inr (Or.inr (Or.inr ⟨Or.inl rfl, _, _, rfl, wc_1076⟩))) rfl rfl rfl (Nat.not_lt.mpr (Nat.le_of_ble_eq_true rfl)) (p_188_ok hv1) (by decide) rfl ?_
  refine kg_aload hk_239 rfl rfl rfl ?_
  refine kg_push (x := 0) hk_239 rfl (by decide) rfl ?_
  refine wf_let hF (fun h2 hh2 hF => ?_)
  refine kg_put hk_239 rfl wk_1076_64 rfl rfl hh2 rfl ?_
  refine kg_push (x := 0) hk_239 rfl (by decide) rfl ?_
  refine kg_istore (L2 := [.ref (1076 + 1), .int 0, (.retAddr 0), (.retAddr 0), (.retAddr 0), (.retAddr 0), (.retAddr 0)]) hk_239 rfl (Nat.le_of_ble_eq_true rfl) rfl rfl ?_
  refine kg_push (x := 0) hk_239 rfl (by decide) rfl ?_
  refine kg_istore (L2 := [.ref (1076 + 1), .int 0, .int 0, (.retAddr 0), (.retAddr 0), (.retAddr 0), (.retAddr 0)]) hk_239 rfl (Nat.le_of_ble_eq_true rfl) rfl rfl ?_
  refine wf_bind hF (fun e6 he6 hF => ?_)
  refine l_239_9_ok he6 ?_ _ _ _ _
  intro u2 u3 u4 u5 u6
  refine kg_push (x := 0) hk_239 rfl (by decide) rfl ?_
  refine kg_istore (L2 := [.ref (1076 + 1), .int e6, .int 0, u3, u4, u5, u6]) hk_239 rfl (Nat.le_of_ble_eq_true rfl) rfl rfl ?_
  refine kg_push (x := 1) hk_239 rfl (by decide) rfl ?_
  refine kg_istore (L2 := [.ref (1076 + 1), .int e6, .int 0, .int 1, u4, u5, u6]) hk_239 rfl (Nat.le_of_ble_eq_true rfl) rfl rfl ?_
  exact l_239_33_ok hF rfl _ _ _
