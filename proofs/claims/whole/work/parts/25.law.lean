/-! ===== the law: wrappers, rounds (printed by wip/whole/gen25law.py) ===== -/
section J25a
variable {X : List Int32} {d k i j a b c pc : Nat} {m m2 : jM} {o : jO} {mt : jMt} {L S : List Value}
theorem gs_sw {x : Int32} (hk : jP[k]? = some mt) (hc : mt.1[i]? = some (37, pc, a, b, c)) (hx : (if x < 0 then b else mt.2.2.2.getD x.toNatClampNeg b) = j) (h : j_Go X d k (j, L, S) m o) : j_Go X d k (i, L, .int x :: S) m o := by
  subst hx
  refine g_step hk ?_ h
  simp only [j_step, hc, j_do]
  by_cases hx : x < 0
  · simp only [if_pos hx]; rfl
  · simp only [if_neg hx]; rfl
theorem gs_alen (hk : jP[k]? = some mt) (hc : mt.1[i]? = some (26, pc, a, b, c)) (hj : i + 1 = j) (h : j_Go X d k (j, L, .int (Int32.ofNat X.length) :: S) m o) : j_Go X d k (i, L, .ref 0 :: S) m o := by
  subst hj; exact g_step hk (by simp only [j_step, hc]; rfl) h
theorem gs_sald {z : Nat} {x : Int32} (hk : jP[k]? = some mt) (hc : mt.1[i]? = some (48, pc, a, b, c)) (hz : z < X.length) (hl : X.length ≤ 2048) (hx : X.getD z 0 = x) (hj : i + 1 = j) (h : j_Go X d k (j, L, .int x :: S) m o) : j_Go X d k (i, L, .int (Int32.ofNat z) :: .ref 0 :: S) m o := by
  subst hj; subst hx
  have e1 : (Int32.ofNat z).toInt = z := Int32.toInt_ofNat_of_lt (by omega)
  have e2 : (Int32.ofNat z).toNatClampNeg = z := by
    show (Int32.ofNat z).toInt.toNat = z
    rw [e1]; rfl
  have e3 : ¬ ((Int32.ofNat z) < 0 ∨ X.length ≤ (Int32.ofNat z).toNatClampNeg) := by
    rw [e2, Int32.lt_iff_toInt_lt, e1]
    show ¬ ((z : Int) < 0 ∨ _)
    omega
  rw [← e2] at h
  exact g_step hk (by simp only [j_step, hc, j_do, if_neg e3]; rfl) h
theorem gs_lpush {x : Int64} (hk : jP[k]? = some mt) (hc : mt.1[i]? = some (38, pc, a, b, c)) (hx : Int64.ofNat a = x) (hj : i + 1 = j) (h : j_Go X d k (j, L, .long x :: S) m o) : j_Go X d k (i, L, S) m o := by
  subst hj; subst hx; exact g_step hk (by simp only [j_step, hc]; rfl) h
theorem gs_i2l {x : Int32} (hk : jP[k]? = some mt) (hc : mt.1[i]? = some (39, pc, a, b, c)) (hj : i + 1 = j) (h : j_Go X d k (j, L, .long x.toInt64 :: S) m o) : j_Go X d k (i, L, .int x :: S) m o := by
  subst hj; exact g_step hk (by simp only [j_step, hc]; rfl) h
theorem gs_lcmp {x : Int64} (hk : jP[k]? = some mt) (hc : mt.1[i]? = some (42, pc, a, b, c)) (hj : i + 1 = j) (h : j_Go X d k (j, L, .int 0 :: S) m o) : j_Go X d k (i, L, .long x :: .long x :: S) m o := by
  subst hj
  have e : lg_cmp x x = 0 := by unfold lg_cmp; simp
  rw [← e] at h
  exact g_step hk (by simp only [j_step, hc]; rfl) h
theorem gs_lald {ca cb : Nat} {ce : Bool} {h : Hp} {y : Int64} (hk : jP[k]? = some mt) (hc : mt.1[i]? = some (40, pc, a, b, c)) (hy : (h 1133 0).toInt64 = y) (hj : i + 1 = j) (g : j_Go X d k (j, L, .long y :: S) (w_mem ca cb ce h) o) : j_Go X d k (i, L, .int 0 :: .ref (1133 + 1) :: S) (w_mem ca cb ce h) o := by
  subst hj; subst hy
  have hv := w_at (a := ca) (b := cb) (e := ce) (h := h) (q := 1133) (t := 53) (n := 1) (ks := [2]) (by decide +kernel)
  refine g_step hk ?_ g
  simp only [j_step, hc, j_do, hv, if_true]
  rfl
theorem gs_last {ca cb : Nat} {ce : Bool} {h : Hp} {x : Int32} {z : Int64} (hk : jP[k]? = some mt) (hc : mt.1[i]? = some (41, pc, a, b, c)) (hz : x.toInt64 = z) (hj : i + 1 = j) (g : j_Go X d k (j, L, S) (w_mem ca cb ce (w_up h 1133 0 x)) o) : j_Go X d k (i, L, .long z :: .int 0 :: .ref (1133 + 1) :: S) (w_mem ca cb ce h) o := by
  subst hj; subst hz
  have hv := w_at (a := ca) (b := cb) (e := ce) (h := h) (q := 1133) (t := 53) (n := 1) (ks := [2]) (by decide +kernel)
  refine g_step hk ?_ g
  have hp := w_put (ca := ca) (cb := cb) (ce := ce) (h := h) (q := 1133) (t := 53) (b := 0) (kd := 2) (x := x) (by decide +kernel)
  simp only [j_put, hv] at hp
  simp only [j_step, hc, j_do, hv, if_true]
  rw [← hp]
  rfl
theorem gs_callX {as rest : List Value} {x h2 z : Nat} {m2 : jM} {op : Nat} (hk : jP[k]? = some mt) (hc : mt.1[i]? = some (op, pc, a, b, c)) (hop : op = 29 ∨ op = 30 ∨ op = 49 ∨ ((op = 27 ∨ op = 28 ∨ op = 31 ∨ op = 32) ∧ j_recv m c as = true)) (hb : as.length = b) (hS : S = as.reverse ++ rest) (hcat : as.all (fun v => decide (v.category = 1)) = true) (hsum : ¬ 8 < (rest.map fun v => v.category).sum) (he : j_Ev X d a as m (.inr x, m2)) (hh : j_hand mt.2.2.1 i x = some (h2, z)) (h : j_Go X (d + 1) k (h2, L.set z (.retAddr 0), []) m2 o) : j_Go X (d + 1) k (i, L, S) m o := by
  subst hS; subst hb
  have h1 : (as.reverse ++ rest).take as.length = as.reverse := by rw [← List.length_reverse (as := as), List.take_left]
  have h2 : (as.reverse ++ rest).drop as.length = rest := by rw [← List.length_reverse (as := as), List.drop_left]
  have h3 : as.reverse.all (fun v => decide (v.category = 1)) = true := by rw [List.all_reverse]; exact hcat
  have hcall : j_call a as.length i L (as.reverse ++ rest) m = some (.inr (.inl (a, as, rest, m))) := by
    unfold j_call
    rw [h1, h2, List.reverse_reverse, if_neg]
    rintro (q | q | q)
    · simp at q; omega
    · exact hsum q
    · rw [h3] at q; cases q
  refine g_catch hk (k' := a) (as := as) (rest := rest) (m' := m) ?_ he hh h
  rcases hop with rfl | rfl | rfl | ⟨rfl | rfl | rfl | rfl, hr⟩
  · simp only [j_step, hc, j_do]; exact hcall
  · simp only [j_step, hc, j_do]; exact hcall
  · simp only [j_step, hc, j_do]; exact hcall
  · simp only [j_step, hc, j_do]; rw [h1, List.reverse_reverse, if_pos hr]; exact hcall
  · simp only [j_step, hc, j_do]; rw [h1, List.reverse_reverse, if_pos hr]; exact hcall
  · simp only [j_step, hc, j_do]; rw [h1, List.reverse_reverse, if_pos hr]; exact hcall
  · simp only [j_step, hc, j_do]; rw [h1, List.reverse_reverse, if_pos hr]; exact hcall
end J25a
theorem la_rcv {ca cb : Nat} {ce : Bool} {h : Hp} {as : List Value} {q t : Nat} (hq : w_ob q t) : j_recv (w_mem ca cb ce h) t (.ref (q + 1) :: as) = true := by
  obtain ⟨n, ks, he⟩ := hq
  simp [j_recv, w_at he]
theorem la_1076 : w_ob 1076 12 := ⟨81, [1081, 1082, 0, 1083, 1084, 1085, 1086, 1087, 1088, 1089, 1090, 1091, 1092, 1093, 1094, 1095, 1096, 1097, 1098, 0, 0, 0, 0, 1099, 1100, 1101, 1102, 1103, 0, 0, 0, 0, 0, 1104, 1105, 1106, 1107, 1108, 1109, 1110, 1111, 1112, 1113, 1114, 1115, 0, 0, 0, 0, 1116, 1117, 1118, 1119, 1120, 1121, 1122, 1123, 1124, 1125, 1126, 1127, 1128, 1129, 1130, 0, 1131, 0, 0, 1132, 1133, 0, 1134, 0, 1135, 0, 0, 0, 0, 1136, 0, 0], by decide +kernel⟩
theorem la_add {i z : Nat} : j_bin 0 (Int32.ofNat i) (Int32.ofNat z) = some (Int32.ofNat (i + z)) := by
  show some _ = some _
  rw [Int32.ofNat_add]
theorem la_toInt {a : Nat} (h : a < 2147483648) : (Int32.ofNat a).toInt = a := Int32.toInt_ofNat_of_lt h
theorem la_sub4 {n : Nat} (h : n ≤ 2048) : (Int32.ofNat n - 4).toInt = (n : Int) - 4 := by
  rw [Int32.toInt_sub, la_toInt (by omega)]
  show Int.bmod ((n : Int) - 4) (2 ^ 32) = _
  rw [Int.bmod_def]
  omega
theorem la_goF {i n : Nat} (h : i + 4 ≤ n) (hn : n ≤ 2048) : j_cond 4 (Int32.ofNat i) (Int32.ofNat n - 4) = false := by
  have : Int32.ofNat i ≤ Int32.ofNat n - 4 := by
    rw [Int32.le_iff_toInt_le, la_sub4 hn, la_toInt (by omega)]; omega
  simp only [j_cond, this, decide_true, Bool.not_true]
theorem la_goT {i n : Nat} (h : n < i + 4) (hi : i ≤ n) (hn : n ≤ 2048) : j_cond 4 (Int32.ofNat i) (Int32.ofNat n - 4) = true := by
  have : ¬ Int32.ofNat i ≤ Int32.ofNat n - 4 := by
    rw [Int32.le_iff_toInt_le, la_sub4 hn, la_toInt (by omega)]; omega
  simp only [j_cond, this, decide_false, Bool.not_false]
theorem la_sw {w c : Int32} (h : w &&& 31 = c) : j_bin 3 w 31 = some c := by
  show some _ = some _
  rw [h]
def la_i2c (x : Int32) : Int32 := (x.toUInt32 % 65536).toInt32
def la_at (X : List Int32) (n i : Nat) (h : Hp) : Prop := ∀ (ca cb : Nat) (ce : Bool) (u5 u6 : Value), ∃ m, j_Go X 400 266 (13, [.ref 0, .ref (0 + 1), .ref (1076 + 1), .ref (1133 + 1), .int (Int32.ofNat i), u5, u6], []) (w_mem ca cb ce h) (.inl (some (.int 1)), m) ∧ m.1 ≤ ca + n ∧ m.2.1 ≤ cb + 6 * n
theorem hk_266 : jP[266]? = some (jc_266, 7, [], [25, 72, 117, 162, 217, 252, 309, 357, 402, 409, 444, 479, 486, 493, 518, 553, 588, 623, 668, 713, 760, 795, 830, 837]) := by rfl
theorem hk_247 : jP[247]? = some (jc_247, 5, [(0, 8, 10, 0, 4), (0, 8, 13, 1, 4)], []) := by rfl
theorem lw_247_n {X : List Int32} {h h1 : Hp} {x1 x2 v : Int32} (hC : p_97 h x1 x2 = some ((.inl v, h1))) (ca cb : Nat) (ce : Bool) : ∃ e1, j_Ev X 300 247 [.ref (0 + 1), .int x1, .int x2, .ref (1133 + 1)] (w_mem ca cb ce h) (.inl (some (.int 0)), w_mem ca cb e1 (w_up h1 1133 0 v)) := by
  obtain ⟨e1, g1⟩ := p_97_ok (X := X) hC ca cb ce
  refine ⟨e1, e_of hk_247 ?_⟩
  show j_Go X (299 + 1) 247 (0, [.ref (0 + 1), .int x1, .int x2, .ref (1133 + 1), .retAddr 0], []) _ _
  refine gs_aload hk_247 rfl rfl rfl ?_
  refine gs_push (x := 0) hk_247 rfl (by decide) rfl ?_
  refine gs_aload hk_247 rfl rfl rfl ?_
  refine gs_iload hk_247 rfl rfl rfl ?_
  refine gs_iload hk_247 rfl rfl rfl ?_
  refine gs_call (as := [.ref (0 + 1), .int x1, .int x2]) (rest := [.int 0, .ref (1133 + 1)]) hk_247 rfl (Or.inr (Or.inr (Or.inr ⟨Or.inl rfl, la_rcv wc_0⟩))) rfl rfl rfl (Nat.not_lt.mpr (Nat.le_of_ble_eq_true rfl)) (e_up g1 (by decide : 1 ≤ 299)) rfl ?_
  refine gs_i2l hk_247 rfl rfl ?_
  refine gs_last (x := v) hk_247 rfl rfl rfl ?_
  refine gs_goto hk_247 rfl ?_
  refine gs_push (x := 0) hk_247 rfl (by decide) rfl ?_
  exact gs_iret hk_247 rfl (Or.inl rfl) rfl
theorem lw_247_x0 {X : List Int32} {h h1 : Hp} {x1 x2 : Int32} (hC : p_97 h x1 x2 = some ((.inr 0, h1))) (ca cb : Nat) (ce : Bool) : ∃ e1, j_Ev X 300 247 [.ref (0 + 1), .int x1, .int x2, .ref (1133 + 1)] (w_mem ca cb ce h) (.inl (some (.int 1)), w_mem (ca + 1) (cb + 6) e1 h1) := by
  obtain ⟨e1, g1⟩ := p_97_ok (X := X) hC ca cb ce
  refine ⟨e1, e_of hk_247 ?_⟩
  show j_Go X (299 + 1) 247 (0, [.ref (0 + 1), .int x1, .int x2, .ref (1133 + 1), .retAddr 0], []) _ _
  refine gs_aload hk_247 rfl rfl rfl ?_
  refine gs_push (x := 0) hk_247 rfl (by decide) rfl ?_
  refine gs_aload hk_247 rfl rfl rfl ?_
  refine gs_iload hk_247 rfl rfl rfl ?_
  refine gs_iload hk_247 rfl rfl rfl ?_
  refine gs_callX (as := [.ref (0 + 1), .int x1, .int x2]) (rest := [.int 0, .ref (1133 + 1)]) hk_247 rfl (Or.inr (Or.inr (Or.inr ⟨Or.inl rfl, la_rcv wc_0⟩))) rfl rfl rfl (Nat.not_lt.mpr (Nat.le_of_ble_eq_true rfl)) (e_up g1 (by decide : 1 ≤ 299)) rfl ?_
  refine gs_push (x := 1) hk_247 rfl (by decide) rfl ?_
  exact gs_iret hk_247 rfl (Or.inl rfl) rfl
theorem lw_247_x1 {X : List Int32} {h h1 : Hp} {x1 x2 : Int32} (hC : p_97 h x1 x2 = some ((.inr 1, h1))) (ca cb : Nat) (ce : Bool) : ∃ e1, j_Ev X 300 247 [.ref (0 + 1), .int x1, .int x2, .ref (1133 + 1)] (w_mem ca cb ce h) (.inl (some (.int 2)), w_mem (ca + 1) (cb + 6) e1 h1) := by
  obtain ⟨e1, g1⟩ := p_97_ok (X := X) hC ca cb ce
  refine ⟨e1, e_of hk_247 ?_⟩
  show j_Go X (299 + 1) 247 (0, [.ref (0 + 1), .int x1, .int x2, .ref (1133 + 1), .retAddr 0], []) _ _
  refine gs_aload hk_247 rfl rfl rfl ?_
  refine gs_push (x := 0) hk_247 rfl (by decide) rfl ?_
  refine gs_aload hk_247 rfl rfl rfl ?_
  refine gs_iload hk_247 rfl rfl rfl ?_
  refine gs_iload hk_247 rfl rfl rfl ?_
  refine gs_callX (as := [.ref (0 + 1), .int x1, .int x2]) (rest := [.int 0, .ref (1133 + 1)]) hk_247 rfl (Or.inr (Or.inr (Or.inr ⟨Or.inl rfl, la_rcv wc_0⟩))) rfl rfl rfl (Nat.not_lt.mpr (Nat.le_of_ble_eq_true rfl)) (e_up g1 (by decide : 1 ≤ 299)) rfl ?_
  refine gs_push (x := 2) hk_247 rfl (by decide) rfl ?_
  exact gs_iret hk_247 rfl (Or.inl rfl) rfl
theorem hk_248 : jP[248]? = some (jc_248, 5, [(0, 8, 10, 0, 4)], []) := by rfl
theorem lw_248_n {X : List Int32} {h h1 : Hp} {x1 x2 v : Int32} (hC : p_98 h x1 x2 = some ((.inl v, h1))) (ca cb : Nat) (ce : Bool) : ∃ e1, j_Ev X 300 248 [.ref (0 + 1), .int x1, .int x2, .ref (1133 + 1)] (w_mem ca cb ce h) (.inl (some (.int 0)), w_mem ca cb e1 (w_up h1 1133 0 v)) := by
  obtain ⟨e1, g1⟩ := p_98_ok (X := X) hC ca cb ce
  refine ⟨e1, e_of hk_248 ?_⟩
  show j_Go X (299 + 1) 248 (0, [.ref (0 + 1), .int x1, .int x2, .ref (1133 + 1), .retAddr 0], []) _ _
  refine gs_aload hk_248 rfl rfl rfl ?_
  refine gs_push (x := 0) hk_248 rfl (by decide) rfl ?_
  refine gs_aload hk_248 rfl rfl rfl ?_
  refine gs_iload hk_248 rfl rfl rfl ?_
  refine gs_iload hk_248 rfl rfl rfl ?_
  refine gs_call (as := [.ref (0 + 1), .int x1, .int x2]) (rest := [.int 0, .ref (1133 + 1)]) hk_248 rfl (Or.inr (Or.inr (Or.inr ⟨Or.inl rfl, la_rcv wc_0⟩))) rfl rfl rfl (Nat.not_lt.mpr (Nat.le_of_ble_eq_true rfl)) (e_up g1 (by decide : 257 ≤ 299)) rfl ?_
  refine gs_i2l hk_248 rfl rfl ?_
  refine gs_last (x := v) hk_248 rfl rfl rfl ?_
  refine gs_goto hk_248 rfl ?_
  refine gs_push (x := 0) hk_248 rfl (by decide) rfl ?_
  exact gs_iret hk_248 rfl (Or.inl rfl) rfl
theorem lw_248_x0 {X : List Int32} {h h1 : Hp} {x1 x2 : Int32} (hC : p_98 h x1 x2 = some ((.inr 0, h1))) (ca cb : Nat) (ce : Bool) : ∃ e1, j_Ev X 300 248 [.ref (0 + 1), .int x1, .int x2, .ref (1133 + 1)] (w_mem ca cb ce h) (.inl (some (.int 1)), w_mem (ca + 1) (cb + 6) e1 h1) := by
  obtain ⟨e1, g1⟩ := p_98_ok (X := X) hC ca cb ce
  refine ⟨e1, e_of hk_248 ?_⟩
  show j_Go X (299 + 1) 248 (0, [.ref (0 + 1), .int x1, .int x2, .ref (1133 + 1), .retAddr 0], []) _ _
  refine gs_aload hk_248 rfl rfl rfl ?_
  refine gs_push (x := 0) hk_248 rfl (by decide) rfl ?_
  refine gs_aload hk_248 rfl rfl rfl ?_
  refine gs_iload hk_248 rfl rfl rfl ?_
  refine gs_iload hk_248 rfl rfl rfl ?_
  refine gs_callX (as := [.ref (0 + 1), .int x1, .int x2]) (rest := [.int 0, .ref (1133 + 1)]) hk_248 rfl (Or.inr (Or.inr (Or.inr ⟨Or.inl rfl, la_rcv wc_0⟩))) rfl rfl rfl (Nat.not_lt.mpr (Nat.le_of_ble_eq_true rfl)) (e_up g1 (by decide : 257 ≤ 299)) rfl ?_
  refine gs_push (x := 1) hk_248 rfl (by decide) rfl ?_
  exact gs_iret hk_248 rfl (Or.inl rfl) rfl
theorem hk_249 : jP[249]? = some (jc_249, 5, [(0, 8, 10, 0, 4), (0, 8, 13, 1, 4)], []) := by rfl
theorem lw_249_n {X : List Int32} {h h1 : Hp} {x1 x2 v : Int32} (hC : p_99 h x1 x2 = some ((.inl v, h1))) (ca cb : Nat) (ce : Bool) : ∃ e1, j_Ev X 300 249 [.ref (0 + 1), .int x1, .int x2, .ref (1133 + 1)] (w_mem ca cb ce h) (.inl (some (.int 0)), w_mem ca cb e1 (w_up h1 1133 0 v)) := by
  obtain ⟨e1, g1⟩ := p_99_ok (X := X) hC ca cb ce
  refine ⟨e1, e_of hk_249 ?_⟩
  show j_Go X (299 + 1) 249 (0, [.ref (0 + 1), .int x1, .int x2, .ref (1133 + 1), .retAddr 0], []) _ _
  refine gs_aload hk_249 rfl rfl rfl ?_
  refine gs_push (x := 0) hk_249 rfl (by decide) rfl ?_
  refine gs_aload hk_249 rfl rfl rfl ?_
  refine gs_iload hk_249 rfl rfl rfl ?_
  refine gs_iload hk_249 rfl rfl rfl ?_
  refine gs_call (as := [.ref (0 + 1), .int x1, .int x2]) (rest := [.int 0, .ref (1133 + 1)]) hk_249 rfl (Or.inr (Or.inr (Or.inr ⟨Or.inl rfl, la_rcv wc_0⟩))) rfl rfl rfl (Nat.not_lt.mpr (Nat.le_of_ble_eq_true rfl)) (e_up g1 (by decide : 257 ≤ 299)) rfl ?_
  refine gs_i2l hk_249 rfl rfl ?_
  refine gs_last (x := v) hk_249 rfl rfl rfl ?_
  refine gs_goto hk_249 rfl ?_
  refine gs_push (x := 0) hk_249 rfl (by decide) rfl ?_
  exact gs_iret hk_249 rfl (Or.inl rfl) rfl
theorem lw_249_x0 {X : List Int32} {h h1 : Hp} {x1 x2 : Int32} (hC : p_99 h x1 x2 = some ((.inr 0, h1))) (ca cb : Nat) (ce : Bool) : ∃ e1, j_Ev X 300 249 [.ref (0 + 1), .int x1, .int x2, .ref (1133 + 1)] (w_mem ca cb ce h) (.inl (some (.int 1)), w_mem (ca + 1) (cb + 6) e1 h1) := by
  obtain ⟨e1, g1⟩ := p_99_ok (X := X) hC ca cb ce
  refine ⟨e1, e_of hk_249 ?_⟩
  show j_Go X (299 + 1) 249 (0, [.ref (0 + 1), .int x1, .int x2, .ref (1133 + 1), .retAddr 0], []) _ _
  refine gs_aload hk_249 rfl rfl rfl ?_
  refine gs_push (x := 0) hk_249 rfl (by decide) rfl ?_
  refine gs_aload hk_249 rfl rfl rfl ?_
  refine gs_iload hk_249 rfl rfl rfl ?_
  refine gs_iload hk_249 rfl rfl rfl ?_
  refine gs_callX (as := [.ref (0 + 1), .int x1, .int x2]) (rest := [.int 0, .ref (1133 + 1)]) hk_249 rfl (Or.inr (Or.inr (Or.inr ⟨Or.inl rfl, la_rcv wc_0⟩))) rfl rfl rfl (Nat.not_lt.mpr (Nat.le_of_ble_eq_true rfl)) (e_up g1 (by decide : 257 ≤ 299)) rfl ?_
  refine gs_push (x := 1) hk_249 rfl (by decide) rfl ?_
  exact gs_iret hk_249 rfl (Or.inl rfl) rfl
theorem lw_249_x1 {X : List Int32} {h h1 : Hp} {x1 x2 : Int32} (hC : p_99 h x1 x2 = some ((.inr 1, h1))) (ca cb : Nat) (ce : Bool) : ∃ e1, j_Ev X 300 249 [.ref (0 + 1), .int x1, .int x2, .ref (1133 + 1)] (w_mem ca cb ce h) (.inl (some (.int 2)), w_mem (ca + 1) (cb + 6) e1 h1) := by
  obtain ⟨e1, g1⟩ := p_99_ok (X := X) hC ca cb ce
  refine ⟨e1, e_of hk_249 ?_⟩
  show j_Go X (299 + 1) 249 (0, [.ref (0 + 1), .int x1, .int x2, .ref (1133 + 1), .retAddr 0], []) _ _
  refine gs_aload hk_249 rfl rfl rfl ?_
  refine gs_push (x := 0) hk_249 rfl (by decide) rfl ?_
  refine gs_aload hk_249 rfl rfl rfl ?_
  refine gs_iload hk_249 rfl rfl rfl ?_
  refine gs_iload hk_249 rfl rfl rfl ?_
  refine gs_callX (as := [.ref (0 + 1), .int x1, .int x2]) (rest := [.int 0, .ref (1133 + 1)]) hk_249 rfl (Or.inr (Or.inr (Or.inr ⟨Or.inl rfl, la_rcv wc_0⟩))) rfl rfl rfl (Nat.not_lt.mpr (Nat.le_of_ble_eq_true rfl)) (e_up g1 (by decide : 257 ≤ 299)) rfl ?_
  refine gs_push (x := 2) hk_249 rfl (by decide) rfl ?_
  exact gs_iret hk_249 rfl (Or.inl rfl) rfl
theorem hk_250 : jP[250]? = some (jc_250, 6, [(0, 9, 11, 2, 5), (0, 9, 14, 0, 5), (0, 9, 17, 1, 5)], []) := by rfl
theorem lw_250_n {X : List Int32} {h h1 : Hp} {x1 x2 x3 v : Int32} (hC : p_100 h x1 x2 x3 = some ((.inl v, h1))) (ca cb : Nat) (ce : Bool) : ∃ e1, j_Ev X 300 250 [.ref (0 + 1), .int x1, .int x2, .int x3, .ref (1133 + 1)] (w_mem ca cb ce h) (.inl (some (.int 0)), w_mem ca cb e1 (w_up h1 1133 0 v)) := by
  obtain ⟨e1, g1⟩ := p_100_ok (X := X) hC ca cb ce
  refine ⟨e1, e_of hk_250 ?_⟩
  show j_Go X (299 + 1) 250 (0, [.ref (0 + 1), .int x1, .int x2, .int x3, .ref (1133 + 1), .retAddr 0], []) _ _
  refine gs_aload hk_250 rfl rfl rfl ?_
  refine gs_push (x := 0) hk_250 rfl (by decide) rfl ?_
  refine gs_aload hk_250 rfl rfl rfl ?_
  refine gs_iload hk_250 rfl rfl rfl ?_
  refine gs_iload hk_250 rfl rfl rfl ?_
  refine gs_iload hk_250 rfl rfl rfl ?_
  refine gs_call (as := [.ref (0 + 1), .int x1, .int x2, .int x3]) (rest := [.int 0, .ref (1133 + 1)]) hk_250 rfl (Or.inr (Or.inr (Or.inr ⟨Or.inl rfl, la_rcv wc_0⟩))) rfl rfl rfl (Nat.not_lt.mpr (Nat.le_of_ble_eq_true rfl)) (e_up g1 (by decide : 257 ≤ 299)) rfl ?_
  refine gs_i2l hk_250 rfl rfl ?_
  refine gs_last (x := v) hk_250 rfl rfl rfl ?_
  refine gs_goto hk_250 rfl ?_
  refine gs_push (x := 0) hk_250 rfl (by decide) rfl ?_
  exact gs_iret hk_250 rfl (Or.inl rfl) rfl
theorem lw_250_x2 {X : List Int32} {h h1 : Hp} {x1 x2 x3 : Int32} (hC : p_100 h x1 x2 x3 = some ((.inr 2, h1))) (ca cb : Nat) (ce : Bool) : ∃ e1, j_Ev X 300 250 [.ref (0 + 1), .int x1, .int x2, .int x3, .ref (1133 + 1)] (w_mem ca cb ce h) (.inl (some (.int 1)), w_mem (ca + 1) (cb + 6) e1 h1) := by
  obtain ⟨e1, g1⟩ := p_100_ok (X := X) hC ca cb ce
  refine ⟨e1, e_of hk_250 ?_⟩
  show j_Go X (299 + 1) 250 (0, [.ref (0 + 1), .int x1, .int x2, .int x3, .ref (1133 + 1), .retAddr 0], []) _ _
  refine gs_aload hk_250 rfl rfl rfl ?_
  refine gs_push (x := 0) hk_250 rfl (by decide) rfl ?_
  refine gs_aload hk_250 rfl rfl rfl ?_
  refine gs_iload hk_250 rfl rfl rfl ?_
  refine gs_iload hk_250 rfl rfl rfl ?_
  refine gs_iload hk_250 rfl rfl rfl ?_
  refine gs_callX (as := [.ref (0 + 1), .int x1, .int x2, .int x3]) (rest := [.int 0, .ref (1133 + 1)]) hk_250 rfl (Or.inr (Or.inr (Or.inr ⟨Or.inl rfl, la_rcv wc_0⟩))) rfl rfl rfl (Nat.not_lt.mpr (Nat.le_of_ble_eq_true rfl)) (e_up g1 (by decide : 257 ≤ 299)) rfl ?_
  refine gs_push (x := 1) hk_250 rfl (by decide) rfl ?_
  exact gs_iret hk_250 rfl (Or.inl rfl) rfl
theorem lw_250_x0 {X : List Int32} {h h1 : Hp} {x1 x2 x3 : Int32} (hC : p_100 h x1 x2 x3 = some ((.inr 0, h1))) (ca cb : Nat) (ce : Bool) : ∃ e1, j_Ev X 300 250 [.ref (0 + 1), .int x1, .int x2, .int x3, .ref (1133 + 1)] (w_mem ca cb ce h) (.inl (some (.int 2)), w_mem (ca + 1) (cb + 6) e1 h1) := by
  obtain ⟨e1, g1⟩ := p_100_ok (X := X) hC ca cb ce
  refine ⟨e1, e_of hk_250 ?_⟩
  show j_Go X (299 + 1) 250 (0, [.ref (0 + 1), .int x1, .int x2, .int x3, .ref (1133 + 1), .retAddr 0], []) _ _
  refine gs_aload hk_250 rfl rfl rfl ?_
  refine gs_push (x := 0) hk_250 rfl (by decide) rfl ?_
  refine gs_aload hk_250 rfl rfl rfl ?_
  refine gs_iload hk_250 rfl rfl rfl ?_
  refine gs_iload hk_250 rfl rfl rfl ?_
  refine gs_iload hk_250 rfl rfl rfl ?_
  refine gs_callX (as := [.ref (0 + 1), .int x1, .int x2, .int x3]) (rest := [.int 0, .ref (1133 + 1)]) hk_250 rfl (Or.inr (Or.inr (Or.inr ⟨Or.inl rfl, la_rcv wc_0⟩))) rfl rfl rfl (Nat.not_lt.mpr (Nat.le_of_ble_eq_true rfl)) (e_up g1 (by decide : 257 ≤ 299)) rfl ?_
  refine gs_push (x := 2) hk_250 rfl (by decide) rfl ?_
  exact gs_iret hk_250 rfl (Or.inl rfl) rfl
theorem lw_250_x1 {X : List Int32} {h h1 : Hp} {x1 x2 x3 : Int32} (hC : p_100 h x1 x2 x3 = some ((.inr 1, h1))) (ca cb : Nat) (ce : Bool) : ∃ e1, j_Ev X 300 250 [.ref (0 + 1), .int x1, .int x2, .int x3, .ref (1133 + 1)] (w_mem ca cb ce h) (.inl (some (.int 3)), w_mem (ca + 1) (cb + 6) e1 h1) := by
  obtain ⟨e1, g1⟩ := p_100_ok (X := X) hC ca cb ce
  refine ⟨e1, e_of hk_250 ?_⟩
  show j_Go X (299 + 1) 250 (0, [.ref (0 + 1), .int x1, .int x2, .int x3, .ref (1133 + 1), .retAddr 0], []) _ _
  refine gs_aload hk_250 rfl rfl rfl ?_
  refine gs_push (x := 0) hk_250 rfl (by decide) rfl ?_
  refine gs_aload hk_250 rfl rfl rfl ?_
  refine gs_iload hk_250 rfl rfl rfl ?_
  refine gs_iload hk_250 rfl rfl rfl ?_
  refine gs_iload hk_250 rfl rfl rfl ?_
  refine gs_callX (as := [.ref (0 + 1), .int x1, .int x2, .int x3]) (rest := [.int 0, .ref (1133 + 1)]) hk_250 rfl (Or.inr (Or.inr (Or.inr ⟨Or.inl rfl, la_rcv wc_0⟩))) rfl rfl rfl (Nat.not_lt.mpr (Nat.le_of_ble_eq_true rfl)) (e_up g1 (by decide : 257 ≤ 299)) rfl ?_
  refine gs_push (x := 3) hk_250 rfl (by decide) rfl ?_
  exact gs_iret hk_250 rfl (Or.inl rfl) rfl
theorem hk_251 : jP[251]? = some (jc_251, 4, [(0, 7, 9, 0, 3)], []) := by rfl
theorem lw_251_n {X : List Int32} {h h1 : Hp} {x1 v : Int32} (hC : p_101 h x1 = some ((.inl v, h1))) (ca cb : Nat) (ce : Bool) : ∃ e1, j_Ev X 300 251 [.ref (0 + 1), .int x1, .ref (1133 + 1)] (w_mem ca cb ce h) (.inl (some (.int 0)), w_mem ca cb e1 (w_up h1 1133 0 v)) := by
  obtain ⟨e1, g1⟩ := p_101_ok (X := X) hC ca cb ce
  refine ⟨e1, e_of hk_251 ?_⟩
  show j_Go X (299 + 1) 251 (0, [.ref (0 + 1), .int x1, .ref (1133 + 1), .retAddr 0], []) _ _
  refine gs_aload hk_251 rfl rfl rfl ?_
  refine gs_push (x := 0) hk_251 rfl (by decide) rfl ?_
  refine gs_aload hk_251 rfl rfl rfl ?_
  refine gs_iload hk_251 rfl rfl rfl ?_
  refine gs_call (as := [.ref (0 + 1), .int x1]) (rest := [.int 0, .ref (1133 + 1)]) hk_251 rfl (Or.inr (Or.inr (Or.inr ⟨Or.inl rfl, la_rcv wc_0⟩))) rfl rfl rfl (Nat.not_lt.mpr (Nat.le_of_ble_eq_true rfl)) (e_up g1 (by decide : 7 ≤ 299)) rfl ?_
  refine gs_i2l hk_251 rfl rfl ?_
  refine gs_last (x := v) hk_251 rfl rfl rfl ?_
  refine gs_goto hk_251 rfl ?_
  refine gs_push (x := 0) hk_251 rfl (by decide) rfl ?_
  exact gs_iret hk_251 rfl (Or.inl rfl) rfl
theorem lw_251_x0 {X : List Int32} {h h1 : Hp} {x1 : Int32} (hC : p_101 h x1 = some ((.inr 0, h1))) (ca cb : Nat) (ce : Bool) : ∃ e1, j_Ev X 300 251 [.ref (0 + 1), .int x1, .ref (1133 + 1)] (w_mem ca cb ce h) (.inl (some (.int 1)), w_mem (ca + 1) (cb + 6) e1 h1) := by
  obtain ⟨e1, g1⟩ := p_101_ok (X := X) hC ca cb ce
  refine ⟨e1, e_of hk_251 ?_⟩
  show j_Go X (299 + 1) 251 (0, [.ref (0 + 1), .int x1, .ref (1133 + 1), .retAddr 0], []) _ _
  refine gs_aload hk_251 rfl rfl rfl ?_
  refine gs_push (x := 0) hk_251 rfl (by decide) rfl ?_
  refine gs_aload hk_251 rfl rfl rfl ?_
  refine gs_iload hk_251 rfl rfl rfl ?_
  refine gs_callX (as := [.ref (0 + 1), .int x1]) (rest := [.int 0, .ref (1133 + 1)]) hk_251 rfl (Or.inr (Or.inr (Or.inr ⟨Or.inl rfl, la_rcv wc_0⟩))) rfl rfl rfl (Nat.not_lt.mpr (Nat.le_of_ble_eq_true rfl)) (e_up g1 (by decide : 7 ≤ 299)) rfl ?_
  refine gs_push (x := 1) hk_251 rfl (by decide) rfl ?_
  exact gs_iret hk_251 rfl (Or.inl rfl) rfl
theorem hk_252 : jP[252]? = some (jc_252, 6, [(0, 9, 11, 0, 5), (0, 9, 14, 1, 5)], []) := by rfl
theorem lw_252_n {X : List Int32} {h h1 : Hp} {x1 x2 x3 v : Int32} (hC : p_102 h x1 x2 x3 = some ((.inl v, h1))) (ca cb : Nat) (ce : Bool) : ∃ e1, j_Ev X 300 252 [.ref (0 + 1), .int x1, .int x2, .int x3, .ref (1133 + 1)] (w_mem ca cb ce h) (.inl (some (.int 0)), w_mem ca cb e1 (w_up h1 1133 0 v)) := by
  obtain ⟨e1, g1⟩ := p_102_ok (X := X) hC ca cb ce
  refine ⟨e1, e_of hk_252 ?_⟩
  show j_Go X (299 + 1) 252 (0, [.ref (0 + 1), .int x1, .int x2, .int x3, .ref (1133 + 1), .retAddr 0], []) _ _
  refine gs_aload hk_252 rfl rfl rfl ?_
  refine gs_push (x := 0) hk_252 rfl (by decide) rfl ?_
  refine gs_aload hk_252 rfl rfl rfl ?_
  refine gs_iload hk_252 rfl rfl rfl ?_
  refine gs_iload hk_252 rfl rfl rfl ?_
  refine gs_iload hk_252 rfl rfl rfl ?_
  refine gs_call (as := [.ref (0 + 1), .int x1, .int x2, .int x3]) (rest := [.int 0, .ref (1133 + 1)]) hk_252 rfl (Or.inr (Or.inr (Or.inr ⟨Or.inl rfl, la_rcv wc_0⟩))) rfl rfl rfl (Nat.not_lt.mpr (Nat.le_of_ble_eq_true rfl)) (e_up g1 (by decide : 7 ≤ 299)) rfl ?_
  refine gs_i2l hk_252 rfl rfl ?_
  refine gs_last (x := v) hk_252 rfl rfl rfl ?_
  refine gs_goto hk_252 rfl ?_
  refine gs_push (x := 0) hk_252 rfl (by decide) rfl ?_
  exact gs_iret hk_252 rfl (Or.inl rfl) rfl
theorem lw_252_x0 {X : List Int32} {h h1 : Hp} {x1 x2 x3 : Int32} (hC : p_102 h x1 x2 x3 = some ((.inr 0, h1))) (ca cb : Nat) (ce : Bool) : ∃ e1, j_Ev X 300 252 [.ref (0 + 1), .int x1, .int x2, .int x3, .ref (1133 + 1)] (w_mem ca cb ce h) (.inl (some (.int 1)), w_mem (ca + 1) (cb + 6) e1 h1) := by
  obtain ⟨e1, g1⟩ := p_102_ok (X := X) hC ca cb ce
  refine ⟨e1, e_of hk_252 ?_⟩
  show j_Go X (299 + 1) 252 (0, [.ref (0 + 1), .int x1, .int x2, .int x3, .ref (1133 + 1), .retAddr 0], []) _ _
  refine gs_aload hk_252 rfl rfl rfl ?_
  refine gs_push (x := 0) hk_252 rfl (by decide) rfl ?_
  refine gs_aload hk_252 rfl rfl rfl ?_
  refine gs_iload hk_252 rfl rfl rfl ?_
  refine gs_iload hk_252 rfl rfl rfl ?_
  refine gs_iload hk_252 rfl rfl rfl ?_
  refine gs_callX (as := [.ref (0 + 1), .int x1, .int x2, .int x3]) (rest := [.int 0, .ref (1133 + 1)]) hk_252 rfl (Or.inr (Or.inr (Or.inr ⟨Or.inl rfl, la_rcv wc_0⟩))) rfl rfl rfl (Nat.not_lt.mpr (Nat.le_of_ble_eq_true rfl)) (e_up g1 (by decide : 7 ≤ 299)) rfl ?_
  refine gs_push (x := 1) hk_252 rfl (by decide) rfl ?_
  exact gs_iret hk_252 rfl (Or.inl rfl) rfl
theorem lw_252_x1 {X : List Int32} {h h1 : Hp} {x1 x2 x3 : Int32} (hC : p_102 h x1 x2 x3 = some ((.inr 1, h1))) (ca cb : Nat) (ce : Bool) : ∃ e1, j_Ev X 300 252 [.ref (0 + 1), .int x1, .int x2, .int x3, .ref (1133 + 1)] (w_mem ca cb ce h) (.inl (some (.int 2)), w_mem (ca + 1) (cb + 6) e1 h1) := by
  obtain ⟨e1, g1⟩ := p_102_ok (X := X) hC ca cb ce
  refine ⟨e1, e_of hk_252 ?_⟩
  show j_Go X (299 + 1) 252 (0, [.ref (0 + 1), .int x1, .int x2, .int x3, .ref (1133 + 1), .retAddr 0], []) _ _
  refine gs_aload hk_252 rfl rfl rfl ?_
  refine gs_push (x := 0) hk_252 rfl (by decide) rfl ?_
  refine gs_aload hk_252 rfl rfl rfl ?_
  refine gs_iload hk_252 rfl rfl rfl ?_
  refine gs_iload hk_252 rfl rfl rfl ?_
  refine gs_iload hk_252 rfl rfl rfl ?_
  refine gs_callX (as := [.ref (0 + 1), .int x1, .int x2, .int x3]) (rest := [.int 0, .ref (1133 + 1)]) hk_252 rfl (Or.inr (Or.inr (Or.inr ⟨Or.inl rfl, la_rcv wc_0⟩))) rfl rfl rfl (Nat.not_lt.mpr (Nat.le_of_ble_eq_true rfl)) (e_up g1 (by decide : 7 ≤ 299)) rfl ?_
  refine gs_push (x := 2) hk_252 rfl (by decide) rfl ?_
  exact gs_iret hk_252 rfl (Or.inl rfl) rfl
theorem hk_253 : jP[253]? = some (jc_253, 5, [(0, 11, 13, 2, 4), (0, 11, 16, 0, 4)], []) := by rfl
theorem lw_253_n0 {X : List Int32} {h h1 : Hp} {x1 x2 : Int32} (hC : p_103 h x1 x2 = some ((.inl 0, h1))) (ca cb : Nat) (ce : Bool) : ∃ e1, j_Ev X 300 253 [.ref (0 + 1), .int x1, .int x2, .ref (1133 + 1)] (w_mem ca cb ce h) (.inl (some (.int 0)), w_mem ca cb e1 (w_up h1 1133 0 0)) := by
  obtain ⟨e1, g1⟩ := p_103_ok (X := X) hC ca cb ce
  refine ⟨e1, e_of hk_253 ?_⟩
  show j_Go X (299 + 1) 253 (0, [.ref (0 + 1), .int x1, .int x2, .ref (1133 + 1), .retAddr 0], []) _ _
  refine gs_aload hk_253 rfl rfl rfl ?_
  refine gs_push (x := 0) hk_253 rfl (by decide) rfl ?_
  refine gs_aload hk_253 rfl rfl rfl ?_
  refine gs_iload hk_253 rfl rfl rfl ?_
  refine gs_iload hk_253 rfl rfl rfl ?_
  refine gs_call (as := [.ref (0 + 1), .int x1, .int x2]) (rest := [.int 0, .ref (1133 + 1)]) hk_253 rfl (Or.inr (Or.inr (Or.inr ⟨Or.inl rfl, la_rcv wc_0⟩))) rfl rfl rfl (Nat.not_lt.mpr (Nat.le_of_ble_eq_true rfl)) (e_up g1 (by decide : 2 ≤ 299)) rfl ?_
  refine gs_ifT hk_253 rfl rfl ?_
  refine gs_lpush (x := 0) hk_253 rfl (by decide) rfl ?_
  refine gs_last (x := 0) hk_253 rfl rfl rfl ?_
  refine gs_goto hk_253 rfl ?_
  refine gs_push (x := 0) hk_253 rfl (by decide) rfl ?_
  exact gs_iret hk_253 rfl (Or.inl rfl) rfl
theorem lw_253_n1 {X : List Int32} {h h1 : Hp} {x1 x2 : Int32} (hC : p_103 h x1 x2 = some ((.inl 1, h1))) (ca cb : Nat) (ce : Bool) : ∃ e1, j_Ev X 300 253 [.ref (0 + 1), .int x1, .int x2, .ref (1133 + 1)] (w_mem ca cb ce h) (.inl (some (.int 0)), w_mem ca cb e1 (w_up h1 1133 0 1)) := by
  obtain ⟨e1, g1⟩ := p_103_ok (X := X) hC ca cb ce
  refine ⟨e1, e_of hk_253 ?_⟩
  show j_Go X (299 + 1) 253 (0, [.ref (0 + 1), .int x1, .int x2, .ref (1133 + 1), .retAddr 0], []) _ _
  refine gs_aload hk_253 rfl rfl rfl ?_
  refine gs_push (x := 0) hk_253 rfl (by decide) rfl ?_
  refine gs_aload hk_253 rfl rfl rfl ?_
  refine gs_iload hk_253 rfl rfl rfl ?_
  refine gs_iload hk_253 rfl rfl rfl ?_
  refine gs_call (as := [.ref (0 + 1), .int x1, .int x2]) (rest := [.int 0, .ref (1133 + 1)]) hk_253 rfl (Or.inr (Or.inr (Or.inr ⟨Or.inl rfl, la_rcv wc_0⟩))) rfl rfl rfl (Nat.not_lt.mpr (Nat.le_of_ble_eq_true rfl)) (e_up g1 (by decide : 2 ≤ 299)) rfl ?_
  refine gs_ifF hk_253 rfl rfl rfl ?_
  refine gs_lpush (x := 1) hk_253 rfl (by decide) rfl ?_
  refine gs_goto hk_253 rfl ?_
  refine gs_last (x := 1) hk_253 rfl rfl rfl ?_
  refine gs_goto hk_253 rfl ?_
  refine gs_push (x := 0) hk_253 rfl (by decide) rfl ?_
  exact gs_iret hk_253 rfl (Or.inl rfl) rfl
theorem lw_253_x2 {X : List Int32} {h h1 : Hp} {x1 x2 : Int32} (hC : p_103 h x1 x2 = some ((.inr 2, h1))) (ca cb : Nat) (ce : Bool) : ∃ e1, j_Ev X 300 253 [.ref (0 + 1), .int x1, .int x2, .ref (1133 + 1)] (w_mem ca cb ce h) (.inl (some (.int 1)), w_mem (ca + 1) (cb + 6) e1 h1) := by
  obtain ⟨e1, g1⟩ := p_103_ok (X := X) hC ca cb ce
  refine ⟨e1, e_of hk_253 ?_⟩
  show j_Go X (299 + 1) 253 (0, [.ref (0 + 1), .int x1, .int x2, .ref (1133 + 1), .retAddr 0], []) _ _
  refine gs_aload hk_253 rfl rfl rfl ?_
  refine gs_push (x := 0) hk_253 rfl (by decide) rfl ?_
  refine gs_aload hk_253 rfl rfl rfl ?_
  refine gs_iload hk_253 rfl rfl rfl ?_
  refine gs_iload hk_253 rfl rfl rfl ?_
  refine gs_callX (as := [.ref (0 + 1), .int x1, .int x2]) (rest := [.int 0, .ref (1133 + 1)]) hk_253 rfl (Or.inr (Or.inr (Or.inr ⟨Or.inl rfl, la_rcv wc_0⟩))) rfl rfl rfl (Nat.not_lt.mpr (Nat.le_of_ble_eq_true rfl)) (e_up g1 (by decide : 2 ≤ 299)) rfl ?_
  refine gs_push (x := 1) hk_253 rfl (by decide) rfl ?_
  exact gs_iret hk_253 rfl (Or.inl rfl) rfl
theorem lw_253_x0 {X : List Int32} {h h1 : Hp} {x1 x2 : Int32} (hC : p_103 h x1 x2 = some ((.inr 0, h1))) (ca cb : Nat) (ce : Bool) : ∃ e1, j_Ev X 300 253 [.ref (0 + 1), .int x1, .int x2, .ref (1133 + 1)] (w_mem ca cb ce h) (.inl (some (.int 2)), w_mem (ca + 1) (cb + 6) e1 h1) := by
  obtain ⟨e1, g1⟩ := p_103_ok (X := X) hC ca cb ce
  refine ⟨e1, e_of hk_253 ?_⟩
  show j_Go X (299 + 1) 253 (0, [.ref (0 + 1), .int x1, .int x2, .ref (1133 + 1), .retAddr 0], []) _ _
  refine gs_aload hk_253 rfl rfl rfl ?_
  refine gs_push (x := 0) hk_253 rfl (by decide) rfl ?_
  refine gs_aload hk_253 rfl rfl rfl ?_
  refine gs_iload hk_253 rfl rfl rfl ?_
  refine gs_iload hk_253 rfl rfl rfl ?_
  refine gs_callX (as := [.ref (0 + 1), .int x1, .int x2]) (rest := [.int 0, .ref (1133 + 1)]) hk_253 rfl (Or.inr (Or.inr (Or.inr ⟨Or.inl rfl, la_rcv wc_0⟩))) rfl rfl rfl (Nat.not_lt.mpr (Nat.le_of_ble_eq_true rfl)) (e_up g1 (by decide : 2 ≤ 299)) rfl ?_
  refine gs_push (x := 2) hk_253 rfl (by decide) rfl ?_
  exact gs_iret hk_253 rfl (Or.inl rfl) rfl
theorem hk_254 : jP[254]? = some (jc_254, 5, [(0, 8, 10, 2, 4), (0, 8, 13, 0, 4)], []) := by rfl
theorem lw_254_n {X : List Int32} {h h1 : Hp} {x1 x2 v : Int32} (hC : p_104 h x1 x2 = some ((.inl v, h1))) (ca cb : Nat) (ce : Bool) : ∃ e1, j_Ev X 300 254 [.ref (0 + 1), .int x1, .int x2, .ref (1133 + 1)] (w_mem ca cb ce h) (.inl (some (.int 0)), w_mem ca cb e1 (w_up h1 1133 0 v)) := by
  obtain ⟨e1, g1⟩ := p_104_ok (X := X) hC ca cb ce
  refine ⟨e1, e_of hk_254 ?_⟩
  show j_Go X (299 + 1) 254 (0, [.ref (0 + 1), .int x1, .int x2, .ref (1133 + 1), .retAddr 0], []) _ _
  refine gs_aload hk_254 rfl rfl rfl ?_
  refine gs_push (x := 0) hk_254 rfl (by decide) rfl ?_
  refine gs_aload hk_254 rfl rfl rfl ?_
  refine gs_iload hk_254 rfl rfl rfl ?_
  refine gs_iload hk_254 rfl rfl rfl ?_
  refine gs_call (as := [.ref (0 + 1), .int x1, .int x2]) (rest := [.int 0, .ref (1133 + 1)]) hk_254 rfl (Or.inr (Or.inr (Or.inr ⟨Or.inl rfl, la_rcv wc_0⟩))) rfl rfl rfl (Nat.not_lt.mpr (Nat.le_of_ble_eq_true rfl)) (e_up g1 (by decide : 2 ≤ 299)) rfl ?_
  refine gs_i2l hk_254 rfl rfl ?_
  refine gs_last (x := v) hk_254 rfl rfl rfl ?_
  refine gs_goto hk_254 rfl ?_
  refine gs_push (x := 0) hk_254 rfl (by decide) rfl ?_
  exact gs_iret hk_254 rfl (Or.inl rfl) rfl
theorem lw_254_x2 {X : List Int32} {h h1 : Hp} {x1 x2 : Int32} (hC : p_104 h x1 x2 = some ((.inr 2, h1))) (ca cb : Nat) (ce : Bool) : ∃ e1, j_Ev X 300 254 [.ref (0 + 1), .int x1, .int x2, .ref (1133 + 1)] (w_mem ca cb ce h) (.inl (some (.int 1)), w_mem (ca + 1) (cb + 6) e1 h1) := by
  obtain ⟨e1, g1⟩ := p_104_ok (X := X) hC ca cb ce
  refine ⟨e1, e_of hk_254 ?_⟩
  show j_Go X (299 + 1) 254 (0, [.ref (0 + 1), .int x1, .int x2, .ref (1133 + 1), .retAddr 0], []) _ _
  refine gs_aload hk_254 rfl rfl rfl ?_
  refine gs_push (x := 0) hk_254 rfl (by decide) rfl ?_
  refine gs_aload hk_254 rfl rfl rfl ?_
  refine gs_iload hk_254 rfl rfl rfl ?_
  refine gs_iload hk_254 rfl rfl rfl ?_
  refine gs_callX (as := [.ref (0 + 1), .int x1, .int x2]) (rest := [.int 0, .ref (1133 + 1)]) hk_254 rfl (Or.inr (Or.inr (Or.inr ⟨Or.inl rfl, la_rcv wc_0⟩))) rfl rfl rfl (Nat.not_lt.mpr (Nat.le_of_ble_eq_true rfl)) (e_up g1 (by decide : 2 ≤ 299)) rfl ?_
  refine gs_push (x := 1) hk_254 rfl (by decide) rfl ?_
  exact gs_iret hk_254 rfl (Or.inl rfl) rfl
theorem lw_254_x0 {X : List Int32} {h h1 : Hp} {x1 x2 : Int32} (hC : p_104 h x1 x2 = some ((.inr 0, h1))) (ca cb : Nat) (ce : Bool) : ∃ e1, j_Ev X 300 254 [.ref (0 + 1), .int x1, .int x2, .ref (1133 + 1)] (w_mem ca cb ce h) (.inl (some (.int 2)), w_mem (ca + 1) (cb + 6) e1 h1) := by
  obtain ⟨e1, g1⟩ := p_104_ok (X := X) hC ca cb ce
  refine ⟨e1, e_of hk_254 ?_⟩
  show j_Go X (299 + 1) 254 (0, [.ref (0 + 1), .int x1, .int x2, .ref (1133 + 1), .retAddr 0], []) _ _
  refine gs_aload hk_254 rfl rfl rfl ?_
  refine gs_push (x := 0) hk_254 rfl (by decide) rfl ?_
  refine gs_aload hk_254 rfl rfl rfl ?_
  refine gs_iload hk_254 rfl rfl rfl ?_
  refine gs_iload hk_254 rfl rfl rfl ?_
  refine gs_callX (as := [.ref (0 + 1), .int x1, .int x2]) (rest := [.int 0, .ref (1133 + 1)]) hk_254 rfl (Or.inr (Or.inr (Or.inr ⟨Or.inl rfl, la_rcv wc_0⟩))) rfl rfl rfl (Nat.not_lt.mpr (Nat.le_of_ble_eq_true rfl)) (e_up g1 (by decide : 2 ≤ 299)) rfl ?_
  refine gs_push (x := 2) hk_254 rfl (by decide) rfl ?_
  exact gs_iret hk_254 rfl (Or.inl rfl) rfl
theorem hk_255 : jP[255]? = some (jc_255, 4, [(0, 7, 9, 2, 3)], []) := by rfl
theorem lw_255_n {X : List Int32} {h : Hp} {x1 v : Int32} (hC : p_106 h x1 = some (.inl v)) (ca cb : Nat) (ce : Bool) : ∃ e1, j_Ev X 300 255 [.ref (0 + 1), .int x1, .ref (1133 + 1)] (w_mem ca cb ce h) (.inl (some (.int 0)), w_mem ca cb e1 (w_up h 1133 0 v)) := by
  obtain ⟨e1, g1⟩ := p_106_ok (X := X) hC ca cb ce
  refine ⟨e1, e_of hk_255 ?_⟩
  show j_Go X (299 + 1) 255 (0, [.ref (0 + 1), .int x1, .ref (1133 + 1), .retAddr 0], []) _ _
  refine gs_aload hk_255 rfl rfl rfl ?_
  refine gs_push (x := 0) hk_255 rfl (by decide) rfl ?_
  refine gs_aload hk_255 rfl rfl rfl ?_
  refine gs_iload hk_255 rfl rfl rfl ?_
  refine gs_call (as := [.ref (0 + 1), .int x1]) (rest := [.int 0, .ref (1133 + 1)]) hk_255 rfl (Or.inr (Or.inr (Or.inr ⟨Or.inl rfl, la_rcv wc_0⟩))) rfl rfl rfl (Nat.not_lt.mpr (Nat.le_of_ble_eq_true rfl)) (e_up g1 (by decide : 1 ≤ 299)) rfl ?_
  refine gs_i2l hk_255 rfl rfl ?_
  refine gs_last (x := v) hk_255 rfl rfl rfl ?_
  refine gs_goto hk_255 rfl ?_
  refine gs_push (x := 0) hk_255 rfl (by decide) rfl ?_
  exact gs_iret hk_255 rfl (Or.inl rfl) rfl
theorem lw_255_x2 {X : List Int32} {h : Hp} {x1 : Int32} (hC : p_106 h x1 = some (.inr 2)) (ca cb : Nat) (ce : Bool) : ∃ e1, j_Ev X 300 255 [.ref (0 + 1), .int x1, .ref (1133 + 1)] (w_mem ca cb ce h) (.inl (some (.int 1)), w_mem (ca + 1) (cb + 6) e1 h) := by
  obtain ⟨e1, g1⟩ := p_106_ok (X := X) hC ca cb ce
  refine ⟨e1, e_of hk_255 ?_⟩
  show j_Go X (299 + 1) 255 (0, [.ref (0 + 1), .int x1, .ref (1133 + 1), .retAddr 0], []) _ _
  refine gs_aload hk_255 rfl rfl rfl ?_
  refine gs_push (x := 0) hk_255 rfl (by decide) rfl ?_
  refine gs_aload hk_255 rfl rfl rfl ?_
  refine gs_iload hk_255 rfl rfl rfl ?_
  refine gs_callX (as := [.ref (0 + 1), .int x1]) (rest := [.int 0, .ref (1133 + 1)]) hk_255 rfl (Or.inr (Or.inr (Or.inr ⟨Or.inl rfl, la_rcv wc_0⟩))) rfl rfl rfl (Nat.not_lt.mpr (Nat.le_of_ble_eq_true rfl)) (e_up g1 (by decide : 1 ≤ 299)) rfl ?_
  refine gs_push (x := 1) hk_255 rfl (by decide) rfl ?_
  exact gs_iret hk_255 rfl (Or.inl rfl) rfl
theorem hk_256 : jP[256]? = some (jc_256, 4, [(0, 7, 9, 2, 3), (0, 7, 12, 1, 3)], []) := by rfl
theorem lw_256_n {X : List Int32} {h h1 : Hp} {x1 v : Int32} (hC : p_107 h x1 = some ((.inl v, h1))) (ca cb : Nat) (ce : Bool) : ∃ e1, j_Ev X 300 256 [.ref (0 + 1), .int x1, .ref (1133 + 1)] (w_mem ca cb ce h) (.inl (some (.int 0)), w_mem ca cb e1 (w_up h1 1133 0 v)) := by
  obtain ⟨e1, g1⟩ := p_107_ok (X := X) hC ca cb ce
  refine ⟨e1, e_of hk_256 ?_⟩
  show j_Go X (299 + 1) 256 (0, [.ref (0 + 1), .int x1, .ref (1133 + 1), .retAddr 0], []) _ _
  refine gs_aload hk_256 rfl rfl rfl ?_
  refine gs_push (x := 0) hk_256 rfl (by decide) rfl ?_
  refine gs_aload hk_256 rfl rfl rfl ?_
  refine gs_iload hk_256 rfl rfl rfl ?_
  refine gs_call (as := [.ref (0 + 1), .int x1]) (rest := [.int 0, .ref (1133 + 1)]) hk_256 rfl (Or.inr (Or.inr (Or.inr ⟨Or.inl rfl, la_rcv wc_0⟩))) rfl rfl rfl (Nat.not_lt.mpr (Nat.le_of_ble_eq_true rfl)) (e_up g1 (by decide : 7 ≤ 299)) rfl ?_
  refine gs_i2l hk_256 rfl rfl ?_
  refine gs_last (x := v) hk_256 rfl rfl rfl ?_
  refine gs_goto hk_256 rfl ?_
  refine gs_push (x := 0) hk_256 rfl (by decide) rfl ?_
  exact gs_iret hk_256 rfl (Or.inl rfl) rfl
theorem lw_256_x2 {X : List Int32} {h h1 : Hp} {x1 : Int32} (hC : p_107 h x1 = some ((.inr 2, h1))) (ca cb : Nat) (ce : Bool) : ∃ e1, j_Ev X 300 256 [.ref (0 + 1), .int x1, .ref (1133 + 1)] (w_mem ca cb ce h) (.inl (some (.int 1)), w_mem (ca + 1) (cb + 6) e1 h1) := by
  obtain ⟨e1, g1⟩ := p_107_ok (X := X) hC ca cb ce
  refine ⟨e1, e_of hk_256 ?_⟩
  show j_Go X (299 + 1) 256 (0, [.ref (0 + 1), .int x1, .ref (1133 + 1), .retAddr 0], []) _ _
  refine gs_aload hk_256 rfl rfl rfl ?_
  refine gs_push (x := 0) hk_256 rfl (by decide) rfl ?_
  refine gs_aload hk_256 rfl rfl rfl ?_
  refine gs_iload hk_256 rfl rfl rfl ?_
  refine gs_callX (as := [.ref (0 + 1), .int x1]) (rest := [.int 0, .ref (1133 + 1)]) hk_256 rfl (Or.inr (Or.inr (Or.inr ⟨Or.inl rfl, la_rcv wc_0⟩))) rfl rfl rfl (Nat.not_lt.mpr (Nat.le_of_ble_eq_true rfl)) (e_up g1 (by decide : 7 ≤ 299)) rfl ?_
  refine gs_push (x := 1) hk_256 rfl (by decide) rfl ?_
  exact gs_iret hk_256 rfl (Or.inl rfl) rfl
theorem lw_256_x1 {X : List Int32} {h h1 : Hp} {x1 : Int32} (hC : p_107 h x1 = some ((.inr 1, h1))) (ca cb : Nat) (ce : Bool) : ∃ e1, j_Ev X 300 256 [.ref (0 + 1), .int x1, .ref (1133 + 1)] (w_mem ca cb ce h) (.inl (some (.int 2)), w_mem (ca + 1) (cb + 6) e1 h1) := by
  obtain ⟨e1, g1⟩ := p_107_ok (X := X) hC ca cb ce
  refine ⟨e1, e_of hk_256 ?_⟩
  show j_Go X (299 + 1) 256 (0, [.ref (0 + 1), .int x1, .ref (1133 + 1), .retAddr 0], []) _ _
  refine gs_aload hk_256 rfl rfl rfl ?_
  refine gs_push (x := 0) hk_256 rfl (by decide) rfl ?_
  refine gs_aload hk_256 rfl rfl rfl ?_
  refine gs_iload hk_256 rfl rfl rfl ?_
  refine gs_callX (as := [.ref (0 + 1), .int x1]) (rest := [.int 0, .ref (1133 + 1)]) hk_256 rfl (Or.inr (Or.inr (Or.inr ⟨Or.inl rfl, la_rcv wc_0⟩))) rfl rfl rfl (Nat.not_lt.mpr (Nat.le_of_ble_eq_true rfl)) (e_up g1 (by decide : 7 ≤ 299)) rfl ?_
  refine gs_push (x := 2) hk_256 rfl (by decide) rfl ?_
  exact gs_iret hk_256 rfl (Or.inl rfl) rfl
theorem hk_257 : jP[257]? = some (jc_257, 3, [(0, 6, 8, 1, 2)], []) := by rfl
theorem lw_257_n {X : List Int32} {h h1 : Hp} {v : Int32} (hC : p_110 h = some ((.inl v, h1))) (ca cb : Nat) (ce : Bool) : ∃ e1, j_Ev X 300 257 [.ref (0 + 1), .ref (1133 + 1)] (w_mem ca cb ce h) (.inl (some (.int 0)), w_mem ca cb e1 (w_up h1 1133 0 v)) := by
  obtain ⟨e1, g1⟩ := p_110_ok (X := X) hC ca cb ce
  refine ⟨e1, e_of hk_257 ?_⟩
  show j_Go X (299 + 1) 257 (0, [.ref (0 + 1), .ref (1133 + 1), .retAddr 0], []) _ _
  refine gs_aload hk_257 rfl rfl rfl ?_
  refine gs_push (x := 0) hk_257 rfl (by decide) rfl ?_
  refine gs_aload hk_257 rfl rfl rfl ?_
  refine gs_call (as := [.ref (0 + 1)]) (rest := [.int 0, .ref (1133 + 1)]) hk_257 rfl (Or.inr (Or.inr (Or.inr ⟨Or.inl rfl, la_rcv wc_0⟩))) rfl rfl rfl (Nat.not_lt.mpr (Nat.le_of_ble_eq_true rfl)) (e_up g1 (by decide : 5 ≤ 299)) rfl ?_
  refine gs_i2l hk_257 rfl rfl ?_
  refine gs_last (x := v) hk_257 rfl rfl rfl ?_
  refine gs_goto hk_257 rfl ?_
  refine gs_push (x := 0) hk_257 rfl (by decide) rfl ?_
  exact gs_iret hk_257 rfl (Or.inl rfl) rfl
theorem lw_257_x1 {X : List Int32} {h h1 : Hp} (hC : p_110 h = some ((.inr 1, h1))) (ca cb : Nat) (ce : Bool) : ∃ e1, j_Ev X 300 257 [.ref (0 + 1), .ref (1133 + 1)] (w_mem ca cb ce h) (.inl (some (.int 1)), w_mem (ca + 1) (cb + 6) e1 h1) := by
  obtain ⟨e1, g1⟩ := p_110_ok (X := X) hC ca cb ce
  refine ⟨e1, e_of hk_257 ?_⟩
  show j_Go X (299 + 1) 257 (0, [.ref (0 + 1), .ref (1133 + 1), .retAddr 0], []) _ _
  refine gs_aload hk_257 rfl rfl rfl ?_
  refine gs_push (x := 0) hk_257 rfl (by decide) rfl ?_
  refine gs_aload hk_257 rfl rfl rfl ?_
  refine gs_callX (as := [.ref (0 + 1)]) (rest := [.int 0, .ref (1133 + 1)]) hk_257 rfl (Or.inr (Or.inr (Or.inr ⟨Or.inl rfl, la_rcv wc_0⟩))) rfl rfl rfl (Nat.not_lt.mpr (Nat.le_of_ble_eq_true rfl)) (e_up g1 (by decide : 5 ≤ 299)) rfl ?_
  refine gs_push (x := 1) hk_257 rfl (by decide) rfl ?_
  exact gs_iret hk_257 rfl (Or.inl rfl) rfl
theorem hk_258 : jP[258]? = some (jc_258, 4, [(0, 7, 9, 2, 3)], []) := by rfl
theorem lw_258_n {X : List Int32} {h h1 : Hp} {x1 v : Int32} (hC : p_111 h x1 = some ((.inl v, h1))) (ca cb : Nat) (ce : Bool) : ∃ e1, j_Ev X 300 258 [.ref (0 + 1), .int x1, .ref (1133 + 1)] (w_mem ca cb ce h) (.inl (some (.int 0)), w_mem ca cb e1 (w_up h1 1133 0 v)) := by
  obtain ⟨e1, g1⟩ := p_111_ok (X := X) hC ca cb ce
  refine ⟨e1, e_of hk_258 ?_⟩
  show j_Go X (299 + 1) 258 (0, [.ref (0 + 1), .int x1, .ref (1133 + 1), .retAddr 0], []) _ _
  refine gs_aload hk_258 rfl rfl rfl ?_
  refine gs_push (x := 0) hk_258 rfl (by decide) rfl ?_
  refine gs_aload hk_258 rfl rfl rfl ?_
  refine gs_iload hk_258 rfl rfl rfl ?_
  refine gs_call (as := [.ref (0 + 1), .int x1]) (rest := [.int 0, .ref (1133 + 1)]) hk_258 rfl (Or.inr (Or.inr (Or.inr ⟨Or.inl rfl, la_rcv wc_0⟩))) rfl rfl rfl (Nat.not_lt.mpr (Nat.le_of_ble_eq_true rfl)) (e_up g1 (by decide : 6 ≤ 299)) rfl ?_
  refine gs_i2l hk_258 rfl rfl ?_
  refine gs_last (x := v) hk_258 rfl rfl rfl ?_
  refine gs_goto hk_258 rfl ?_
  refine gs_push (x := 0) hk_258 rfl (by decide) rfl ?_
  exact gs_iret hk_258 rfl (Or.inl rfl) rfl
theorem lw_258_x2 {X : List Int32} {h h1 : Hp} {x1 : Int32} (hC : p_111 h x1 = some ((.inr 2, h1))) (ca cb : Nat) (ce : Bool) : ∃ e1, j_Ev X 300 258 [.ref (0 + 1), .int x1, .ref (1133 + 1)] (w_mem ca cb ce h) (.inl (some (.int 1)), w_mem (ca + 1) (cb + 6) e1 h1) := by
  obtain ⟨e1, g1⟩ := p_111_ok (X := X) hC ca cb ce
  refine ⟨e1, e_of hk_258 ?_⟩
  show j_Go X (299 + 1) 258 (0, [.ref (0 + 1), .int x1, .ref (1133 + 1), .retAddr 0], []) _ _
  refine gs_aload hk_258 rfl rfl rfl ?_
  refine gs_push (x := 0) hk_258 rfl (by decide) rfl ?_
  refine gs_aload hk_258 rfl rfl rfl ?_
  refine gs_iload hk_258 rfl rfl rfl ?_
  refine gs_callX (as := [.ref (0 + 1), .int x1]) (rest := [.int 0, .ref (1133 + 1)]) hk_258 rfl (Or.inr (Or.inr (Or.inr ⟨Or.inl rfl, la_rcv wc_0⟩))) rfl rfl rfl (Nat.not_lt.mpr (Nat.le_of_ble_eq_true rfl)) (e_up g1 (by decide : 6 ≤ 299)) rfl ?_
  refine gs_push (x := 1) hk_258 rfl (by decide) rfl ?_
  exact gs_iret hk_258 rfl (Or.inl rfl) rfl
theorem hk_259 : jP[259]? = some (jc_259, 4, [(0, 7, 9, 2, 3)], []) := by rfl
theorem lw_259_n {X : List Int32} {h : Hp} {x1 v : Int32} (hC : p_112 h x1 = some (.inl v)) (ca cb : Nat) (ce : Bool) : ∃ e1, j_Ev X 300 259 [.ref (0 + 1), .int x1, .ref (1133 + 1)] (w_mem ca cb ce h) (.inl (some (.int 0)), w_mem ca cb e1 (w_up h 1133 0 v)) := by
  obtain ⟨e1, g1⟩ := p_112_ok (X := X) hC ca cb ce
  refine ⟨e1, e_of hk_259 ?_⟩
  show j_Go X (299 + 1) 259 (0, [.ref (0 + 1), .int x1, .ref (1133 + 1), .retAddr 0], []) _ _
  refine gs_aload hk_259 rfl rfl rfl ?_
  refine gs_push (x := 0) hk_259 rfl (by decide) rfl ?_
  refine gs_aload hk_259 rfl rfl rfl ?_
  refine gs_iload hk_259 rfl rfl rfl ?_
  refine gs_call (as := [.ref (0 + 1), .int x1]) (rest := [.int 0, .ref (1133 + 1)]) hk_259 rfl (Or.inr (Or.inr (Or.inr ⟨Or.inl rfl, la_rcv wc_0⟩))) rfl rfl rfl (Nat.not_lt.mpr (Nat.le_of_ble_eq_true rfl)) (e_up g1 (by decide : 1 ≤ 299)) rfl ?_
  refine gs_i2l hk_259 rfl rfl ?_
  refine gs_last (x := v) hk_259 rfl rfl rfl ?_
  refine gs_goto hk_259 rfl ?_
  refine gs_push (x := 0) hk_259 rfl (by decide) rfl ?_
  exact gs_iret hk_259 rfl (Or.inl rfl) rfl
theorem lw_259_x2 {X : List Int32} {h : Hp} {x1 : Int32} (hC : p_112 h x1 = some (.inr 2)) (ca cb : Nat) (ce : Bool) : ∃ e1, j_Ev X 300 259 [.ref (0 + 1), .int x1, .ref (1133 + 1)] (w_mem ca cb ce h) (.inl (some (.int 1)), w_mem (ca + 1) (cb + 6) e1 h) := by
  obtain ⟨e1, g1⟩ := p_112_ok (X := X) hC ca cb ce
  refine ⟨e1, e_of hk_259 ?_⟩
  show j_Go X (299 + 1) 259 (0, [.ref (0 + 1), .int x1, .ref (1133 + 1), .retAddr 0], []) _ _
  refine gs_aload hk_259 rfl rfl rfl ?_
  refine gs_push (x := 0) hk_259 rfl (by decide) rfl ?_
  refine gs_aload hk_259 rfl rfl rfl ?_
  refine gs_iload hk_259 rfl rfl rfl ?_
  refine gs_callX (as := [.ref (0 + 1), .int x1]) (rest := [.int 0, .ref (1133 + 1)]) hk_259 rfl (Or.inr (Or.inr (Or.inr ⟨Or.inl rfl, la_rcv wc_0⟩))) rfl rfl rfl (Nat.not_lt.mpr (Nat.le_of_ble_eq_true rfl)) (e_up g1 (by decide : 1 ≤ 299)) rfl ?_
  refine gs_push (x := 1) hk_259 rfl (by decide) rfl ?_
  exact gs_iret hk_259 rfl (Or.inl rfl) rfl
theorem hk_260 : jP[260]? = some (jc_260, 4, [(0, 7, 9, 2, 3)], []) := by rfl
theorem lw_260_n {X : List Int32} {h : Hp} {x1 v : Int32} (hC : p_113 h x1 = some (.inl v)) (ca cb : Nat) (ce : Bool) : ∃ e1, j_Ev X 300 260 [.ref (0 + 1), .int x1, .ref (1133 + 1)] (w_mem ca cb ce h) (.inl (some (.int 0)), w_mem ca cb e1 (w_up h 1133 0 v)) := by
  obtain ⟨e1, g1⟩ := p_113_ok (X := X) hC ca cb ce
  refine ⟨e1, e_of hk_260 ?_⟩
  show j_Go X (299 + 1) 260 (0, [.ref (0 + 1), .int x1, .ref (1133 + 1), .retAddr 0], []) _ _
  refine gs_aload hk_260 rfl rfl rfl ?_
  refine gs_push (x := 0) hk_260 rfl (by decide) rfl ?_
  refine gs_aload hk_260 rfl rfl rfl ?_
  refine gs_iload hk_260 rfl rfl rfl ?_
  refine gs_call (as := [.ref (0 + 1), .int x1]) (rest := [.int 0, .ref (1133 + 1)]) hk_260 rfl (Or.inr (Or.inr (Or.inr ⟨Or.inl rfl, la_rcv wc_0⟩))) rfl rfl rfl (Nat.not_lt.mpr (Nat.le_of_ble_eq_true rfl)) (e_up g1 (by decide : 2 ≤ 299)) rfl ?_
  refine gs_i2l hk_260 rfl rfl ?_
  refine gs_last (x := v) hk_260 rfl rfl rfl ?_
  refine gs_goto hk_260 rfl ?_
  refine gs_push (x := 0) hk_260 rfl (by decide) rfl ?_
  exact gs_iret hk_260 rfl (Or.inl rfl) rfl
theorem lw_260_x2 {X : List Int32} {h : Hp} {x1 : Int32} (hC : p_113 h x1 = some (.inr 2)) (ca cb : Nat) (ce : Bool) : ∃ e1, j_Ev X 300 260 [.ref (0 + 1), .int x1, .ref (1133 + 1)] (w_mem ca cb ce h) (.inl (some (.int 1)), w_mem (ca + 1) (cb + 6) e1 h) := by
  obtain ⟨e1, g1⟩ := p_113_ok (X := X) hC ca cb ce
  refine ⟨e1, e_of hk_260 ?_⟩
  show j_Go X (299 + 1) 260 (0, [.ref (0 + 1), .int x1, .ref (1133 + 1), .retAddr 0], []) _ _
  refine gs_aload hk_260 rfl rfl rfl ?_
  refine gs_push (x := 0) hk_260 rfl (by decide) rfl ?_
  refine gs_aload hk_260 rfl rfl rfl ?_
  refine gs_iload hk_260 rfl rfl rfl ?_
  refine gs_callX (as := [.ref (0 + 1), .int x1]) (rest := [.int 0, .ref (1133 + 1)]) hk_260 rfl (Or.inr (Or.inr (Or.inr ⟨Or.inl rfl, la_rcv wc_0⟩))) rfl rfl rfl (Nat.not_lt.mpr (Nat.le_of_ble_eq_true rfl)) (e_up g1 (by decide : 2 ≤ 299)) rfl ?_
  refine gs_push (x := 1) hk_260 rfl (by decide) rfl ?_
  exact gs_iret hk_260 rfl (Or.inl rfl) rfl
theorem hk_261 : jP[261]? = some (jc_261, 5, [(0, 8, 10, 2, 4), (0, 8, 13, 1, 4)], []) := by rfl
theorem lw_261_n {X : List Int32} {h h1 : Hp} {x1 x2 v : Int32} (hC : p_114 h x1 x2 = some ((.inl v, h1))) (ca cb : Nat) (ce : Bool) : ∃ e1, j_Ev X 300 261 [.ref (0 + 1), .int x1, .int x2, .ref (1133 + 1)] (w_mem ca cb ce h) (.inl (some (.int 0)), w_mem ca cb e1 (w_up h1 1133 0 v)) := by
  obtain ⟨e1, g1⟩ := p_114_ok (X := X) hC ca cb ce
  refine ⟨e1, e_of hk_261 ?_⟩
  show j_Go X (299 + 1) 261 (0, [.ref (0 + 1), .int x1, .int x2, .ref (1133 + 1), .retAddr 0], []) _ _
  refine gs_aload hk_261 rfl rfl rfl ?_
  refine gs_push (x := 0) hk_261 rfl (by decide) rfl ?_
  refine gs_aload hk_261 rfl rfl rfl ?_
  refine gs_iload hk_261 rfl rfl rfl ?_
  refine gs_iload hk_261 rfl rfl rfl ?_
  refine gs_call (as := [.ref (0 + 1), .int x1, .int x2]) (rest := [.int 0, .ref (1133 + 1)]) hk_261 rfl (Or.inr (Or.inr (Or.inr ⟨Or.inl rfl, la_rcv wc_0⟩))) rfl rfl rfl (Nat.not_lt.mpr (Nat.le_of_ble_eq_true rfl)) (e_up g1 (by decide : 7 ≤ 299)) rfl ?_
  refine gs_i2l hk_261 rfl rfl ?_
  refine gs_last (x := v) hk_261 rfl rfl rfl ?_
  refine gs_goto hk_261 rfl ?_
  refine gs_push (x := 0) hk_261 rfl (by decide) rfl ?_
  exact gs_iret hk_261 rfl (Or.inl rfl) rfl
theorem lw_261_x2 {X : List Int32} {h h1 : Hp} {x1 x2 : Int32} (hC : p_114 h x1 x2 = some ((.inr 2, h1))) (ca cb : Nat) (ce : Bool) : ∃ e1, j_Ev X 300 261 [.ref (0 + 1), .int x1, .int x2, .ref (1133 + 1)] (w_mem ca cb ce h) (.inl (some (.int 1)), w_mem (ca + 1) (cb + 6) e1 h1) := by
  obtain ⟨e1, g1⟩ := p_114_ok (X := X) hC ca cb ce
  refine ⟨e1, e_of hk_261 ?_⟩
  show j_Go X (299 + 1) 261 (0, [.ref (0 + 1), .int x1, .int x2, .ref (1133 + 1), .retAddr 0], []) _ _
  refine gs_aload hk_261 rfl rfl rfl ?_
  refine gs_push (x := 0) hk_261 rfl (by decide) rfl ?_
  refine gs_aload hk_261 rfl rfl rfl ?_
  refine gs_iload hk_261 rfl rfl rfl ?_
  refine gs_iload hk_261 rfl rfl rfl ?_
  refine gs_callX (as := [.ref (0 + 1), .int x1, .int x2]) (rest := [.int 0, .ref (1133 + 1)]) hk_261 rfl (Or.inr (Or.inr (Or.inr ⟨Or.inl rfl, la_rcv wc_0⟩))) rfl rfl rfl (Nat.not_lt.mpr (Nat.le_of_ble_eq_true rfl)) (e_up g1 (by decide : 7 ≤ 299)) rfl ?_
  refine gs_push (x := 1) hk_261 rfl (by decide) rfl ?_
  exact gs_iret hk_261 rfl (Or.inl rfl) rfl
theorem lw_261_x1 {X : List Int32} {h h1 : Hp} {x1 x2 : Int32} (hC : p_114 h x1 x2 = some ((.inr 1, h1))) (ca cb : Nat) (ce : Bool) : ∃ e1, j_Ev X 300 261 [.ref (0 + 1), .int x1, .int x2, .ref (1133 + 1)] (w_mem ca cb ce h) (.inl (some (.int 2)), w_mem (ca + 1) (cb + 6) e1 h1) := by
  obtain ⟨e1, g1⟩ := p_114_ok (X := X) hC ca cb ce
  refine ⟨e1, e_of hk_261 ?_⟩
  show j_Go X (299 + 1) 261 (0, [.ref (0 + 1), .int x1, .int x2, .ref (1133 + 1), .retAddr 0], []) _ _
  refine gs_aload hk_261 rfl rfl rfl ?_
  refine gs_push (x := 0) hk_261 rfl (by decide) rfl ?_
  refine gs_aload hk_261 rfl rfl rfl ?_
  refine gs_iload hk_261 rfl rfl rfl ?_
  refine gs_iload hk_261 rfl rfl rfl ?_
  refine gs_callX (as := [.ref (0 + 1), .int x1, .int x2]) (rest := [.int 0, .ref (1133 + 1)]) hk_261 rfl (Or.inr (Or.inr (Or.inr ⟨Or.inl rfl, la_rcv wc_0⟩))) rfl rfl rfl (Nat.not_lt.mpr (Nat.le_of_ble_eq_true rfl)) (e_up g1 (by decide : 7 ≤ 299)) rfl ?_
  refine gs_push (x := 2) hk_261 rfl (by decide) rfl ?_
  exact gs_iret hk_261 rfl (Or.inl rfl) rfl
theorem hk_262 : jP[262]? = some (jc_262, 5, [(0, 8, 10, 2, 4), (0, 8, 13, 1, 4)], []) := by rfl
theorem lw_262_n {X : List Int32} {h h1 : Hp} {x1 x2 v : Int32} (hC : p_115 h x1 x2 = some ((.inl v, h1))) (ca cb : Nat) (ce : Bool) : ∃ e1, j_Ev X 300 262 [.ref (0 + 1), .int x1, .int x2, .ref (1133 + 1)] (w_mem ca cb ce h) (.inl (some (.int 0)), w_mem ca cb e1 (w_up h1 1133 0 v)) := by
  obtain ⟨e1, g1⟩ := p_115_ok (X := X) hC ca cb ce
  refine ⟨e1, e_of hk_262 ?_⟩
  show j_Go X (299 + 1) 262 (0, [.ref (0 + 1), .int x1, .int x2, .ref (1133 + 1), .retAddr 0], []) _ _
  refine gs_aload hk_262 rfl rfl rfl ?_
  refine gs_push (x := 0) hk_262 rfl (by decide) rfl ?_
  refine gs_aload hk_262 rfl rfl rfl ?_
  refine gs_iload hk_262 rfl rfl rfl ?_
  refine gs_iload hk_262 rfl rfl rfl ?_
  refine gs_call (as := [.ref (0 + 1), .int x1, .int x2]) (rest := [.int 0, .ref (1133 + 1)]) hk_262 rfl (Or.inr (Or.inr (Or.inr ⟨Or.inl rfl, la_rcv wc_0⟩))) rfl rfl rfl (Nat.not_lt.mpr (Nat.le_of_ble_eq_true rfl)) (e_up g1 (by decide : 5 ≤ 299)) rfl ?_
  refine gs_i2l hk_262 rfl rfl ?_
  refine gs_last (x := v) hk_262 rfl rfl rfl ?_
  refine gs_goto hk_262 rfl ?_
  refine gs_push (x := 0) hk_262 rfl (by decide) rfl ?_
  exact gs_iret hk_262 rfl (Or.inl rfl) rfl
theorem lw_262_x2 {X : List Int32} {h h1 : Hp} {x1 x2 : Int32} (hC : p_115 h x1 x2 = some ((.inr 2, h1))) (ca cb : Nat) (ce : Bool) : ∃ e1, j_Ev X 300 262 [.ref (0 + 1), .int x1, .int x2, .ref (1133 + 1)] (w_mem ca cb ce h) (.inl (some (.int 1)), w_mem (ca + 1) (cb + 6) e1 h1) := by
  obtain ⟨e1, g1⟩ := p_115_ok (X := X) hC ca cb ce
  refine ⟨e1, e_of hk_262 ?_⟩
  show j_Go X (299 + 1) 262 (0, [.ref (0 + 1), .int x1, .int x2, .ref (1133 + 1), .retAddr 0], []) _ _
  refine gs_aload hk_262 rfl rfl rfl ?_
  refine gs_push (x := 0) hk_262 rfl (by decide) rfl ?_
  refine gs_aload hk_262 rfl rfl rfl ?_
  refine gs_iload hk_262 rfl rfl rfl ?_
  refine gs_iload hk_262 rfl rfl rfl ?_
  refine gs_callX (as := [.ref (0 + 1), .int x1, .int x2]) (rest := [.int 0, .ref (1133 + 1)]) hk_262 rfl (Or.inr (Or.inr (Or.inr ⟨Or.inl rfl, la_rcv wc_0⟩))) rfl rfl rfl (Nat.not_lt.mpr (Nat.le_of_ble_eq_true rfl)) (e_up g1 (by decide : 5 ≤ 299)) rfl ?_
  refine gs_push (x := 1) hk_262 rfl (by decide) rfl ?_
  exact gs_iret hk_262 rfl (Or.inl rfl) rfl
theorem lw_262_x1 {X : List Int32} {h h1 : Hp} {x1 x2 : Int32} (hC : p_115 h x1 x2 = some ((.inr 1, h1))) (ca cb : Nat) (ce : Bool) : ∃ e1, j_Ev X 300 262 [.ref (0 + 1), .int x1, .int x2, .ref (1133 + 1)] (w_mem ca cb ce h) (.inl (some (.int 2)), w_mem (ca + 1) (cb + 6) e1 h1) := by
  obtain ⟨e1, g1⟩ := p_115_ok (X := X) hC ca cb ce
  refine ⟨e1, e_of hk_262 ?_⟩
  show j_Go X (299 + 1) 262 (0, [.ref (0 + 1), .int x1, .int x2, .ref (1133 + 1), .retAddr 0], []) _ _
  refine gs_aload hk_262 rfl rfl rfl ?_
  refine gs_push (x := 0) hk_262 rfl (by decide) rfl ?_
  refine gs_aload hk_262 rfl rfl rfl ?_
  refine gs_iload hk_262 rfl rfl rfl ?_
  refine gs_iload hk_262 rfl rfl rfl ?_
  refine gs_callX (as := [.ref (0 + 1), .int x1, .int x2]) (rest := [.int 0, .ref (1133 + 1)]) hk_262 rfl (Or.inr (Or.inr (Or.inr ⟨Or.inl rfl, la_rcv wc_0⟩))) rfl rfl rfl (Nat.not_lt.mpr (Nat.le_of_ble_eq_true rfl)) (e_up g1 (by decide : 5 ≤ 299)) rfl ?_
  refine gs_push (x := 2) hk_262 rfl (by decide) rfl ?_
  exact gs_iret hk_262 rfl (Or.inl rfl) rfl
theorem hk_263 : jP[263]? = some (jc_263, 5, [(0, 8, 10, 0, 4), (0, 8, 13, 1, 4)], []) := by rfl
theorem lw_263_n {X : List Int32} {h h1 : Hp} {x1 x2 v : Int32} (hC : p_116 h x1 x2 = some ((.inl v, h1))) (ca cb : Nat) (ce : Bool) : ∃ e1, j_Ev X 300 263 [.ref (0 + 1), .int x1, .int x2, .ref (1133 + 1)] (w_mem ca cb ce h) (.inl (some (.int 0)), w_mem ca cb e1 (w_up h1 1133 0 v)) := by
  obtain ⟨e1, g1⟩ := p_116_ok (X := X) hC ca cb ce
  refine ⟨e1, e_of hk_263 ?_⟩
  show j_Go X (299 + 1) 263 (0, [.ref (0 + 1), .int x1, .int x2, .ref (1133 + 1), .retAddr 0], []) _ _
  refine gs_aload hk_263 rfl rfl rfl ?_
  refine gs_push (x := 0) hk_263 rfl (by decide) rfl ?_
  refine gs_aload hk_263 rfl rfl rfl ?_
  refine gs_iload hk_263 rfl rfl rfl ?_
  refine gs_iload hk_263 rfl rfl rfl ?_
  refine gs_call (as := [.ref (0 + 1), .int x1, .int x2]) (rest := [.int 0, .ref (1133 + 1)]) hk_263 rfl (Or.inr (Or.inr (Or.inr ⟨Or.inl rfl, la_rcv wc_0⟩))) rfl rfl rfl (Nat.not_lt.mpr (Nat.le_of_ble_eq_true rfl)) (e_up g1 (by decide : 7 ≤ 299)) rfl ?_
  refine gs_i2l hk_263 rfl rfl ?_
  refine gs_last (x := v) hk_263 rfl rfl rfl ?_
  refine gs_goto hk_263 rfl ?_
  refine gs_push (x := 0) hk_263 rfl (by decide) rfl ?_
  exact gs_iret hk_263 rfl (Or.inl rfl) rfl
theorem lw_263_x0 {X : List Int32} {h h1 : Hp} {x1 x2 : Int32} (hC : p_116 h x1 x2 = some ((.inr 0, h1))) (ca cb : Nat) (ce : Bool) : ∃ e1, j_Ev X 300 263 [.ref (0 + 1), .int x1, .int x2, .ref (1133 + 1)] (w_mem ca cb ce h) (.inl (some (.int 1)), w_mem (ca + 1) (cb + 6) e1 h1) := by
  obtain ⟨e1, g1⟩ := p_116_ok (X := X) hC ca cb ce
  refine ⟨e1, e_of hk_263 ?_⟩
  show j_Go X (299 + 1) 263 (0, [.ref (0 + 1), .int x1, .int x2, .ref (1133 + 1), .retAddr 0], []) _ _
  refine gs_aload hk_263 rfl rfl rfl ?_
  refine gs_push (x := 0) hk_263 rfl (by decide) rfl ?_
  refine gs_aload hk_263 rfl rfl rfl ?_
  refine gs_iload hk_263 rfl rfl rfl ?_
  refine gs_iload hk_263 rfl rfl rfl ?_
  refine gs_callX (as := [.ref (0 + 1), .int x1, .int x2]) (rest := [.int 0, .ref (1133 + 1)]) hk_263 rfl (Or.inr (Or.inr (Or.inr ⟨Or.inl rfl, la_rcv wc_0⟩))) rfl rfl rfl (Nat.not_lt.mpr (Nat.le_of_ble_eq_true rfl)) (e_up g1 (by decide : 7 ≤ 299)) rfl ?_
  refine gs_push (x := 1) hk_263 rfl (by decide) rfl ?_
  exact gs_iret hk_263 rfl (Or.inl rfl) rfl
theorem lw_263_x1 {X : List Int32} {h h1 : Hp} {x1 x2 : Int32} (hC : p_116 h x1 x2 = some ((.inr 1, h1))) (ca cb : Nat) (ce : Bool) : ∃ e1, j_Ev X 300 263 [.ref (0 + 1), .int x1, .int x2, .ref (1133 + 1)] (w_mem ca cb ce h) (.inl (some (.int 2)), w_mem (ca + 1) (cb + 6) e1 h1) := by
  obtain ⟨e1, g1⟩ := p_116_ok (X := X) hC ca cb ce
  refine ⟨e1, e_of hk_263 ?_⟩
  show j_Go X (299 + 1) 263 (0, [.ref (0 + 1), .int x1, .int x2, .ref (1133 + 1), .retAddr 0], []) _ _
  refine gs_aload hk_263 rfl rfl rfl ?_
  refine gs_push (x := 0) hk_263 rfl (by decide) rfl ?_
  refine gs_aload hk_263 rfl rfl rfl ?_
  refine gs_iload hk_263 rfl rfl rfl ?_
  refine gs_iload hk_263 rfl rfl rfl ?_
  refine gs_callX (as := [.ref (0 + 1), .int x1, .int x2]) (rest := [.int 0, .ref (1133 + 1)]) hk_263 rfl (Or.inr (Or.inr (Or.inr ⟨Or.inl rfl, la_rcv wc_0⟩))) rfl rfl rfl (Nat.not_lt.mpr (Nat.le_of_ble_eq_true rfl)) (e_up g1 (by decide : 7 ≤ 299)) rfl ?_
  refine gs_push (x := 2) hk_263 rfl (by decide) rfl ?_
  exact gs_iret hk_263 rfl (Or.inl rfl) rfl
theorem hk_264 : jP[264]? = some (jc_264, 4, [(0, 7, 9, 2, 3)], []) := by rfl
theorem lw_264_n {X : List Int32} {h h1 : Hp} {x1 v : Int32} (hC : p_117 h x1 = some ((.inl v, h1))) (ca cb : Nat) (ce : Bool) : ∃ e1, j_Ev X 300 264 [.ref (0 + 1), .int x1, .ref (1133 + 1)] (w_mem ca cb ce h) (.inl (some (.int 0)), w_mem ca cb e1 (w_up h1 1133 0 v)) := by
  obtain ⟨e1, g1⟩ := p_117_ok (X := X) hC ca cb ce
  refine ⟨e1, e_of hk_264 ?_⟩
  show j_Go X (299 + 1) 264 (0, [.ref (0 + 1), .int x1, .ref (1133 + 1), .retAddr 0], []) _ _
  refine gs_aload hk_264 rfl rfl rfl ?_
  refine gs_push (x := 0) hk_264 rfl (by decide) rfl ?_
  refine gs_aload hk_264 rfl rfl rfl ?_
  refine gs_iload hk_264 rfl rfl rfl ?_
  refine gs_call (as := [.ref (0 + 1), .int x1]) (rest := [.int 0, .ref (1133 + 1)]) hk_264 rfl (Or.inr (Or.inr (Or.inr ⟨Or.inl rfl, la_rcv wc_0⟩))) rfl rfl rfl (Nat.not_lt.mpr (Nat.le_of_ble_eq_true rfl)) (e_up g1 (by decide : 7 ≤ 299)) rfl ?_
  refine gs_i2l hk_264 rfl rfl ?_
  refine gs_last (x := v) hk_264 rfl rfl rfl ?_
  refine gs_goto hk_264 rfl ?_
  refine gs_push (x := 0) hk_264 rfl (by decide) rfl ?_
  exact gs_iret hk_264 rfl (Or.inl rfl) rfl
theorem lw_264_x2 {X : List Int32} {h h1 : Hp} {x1 : Int32} (hC : p_117 h x1 = some ((.inr 2, h1))) (ca cb : Nat) (ce : Bool) : ∃ e1, j_Ev X 300 264 [.ref (0 + 1), .int x1, .ref (1133 + 1)] (w_mem ca cb ce h) (.inl (some (.int 1)), w_mem (ca + 1) (cb + 6) e1 h1) := by
  obtain ⟨e1, g1⟩ := p_117_ok (X := X) hC ca cb ce
  refine ⟨e1, e_of hk_264 ?_⟩
  show j_Go X (299 + 1) 264 (0, [.ref (0 + 1), .int x1, .ref (1133 + 1), .retAddr 0], []) _ _
  refine gs_aload hk_264 rfl rfl rfl ?_
  refine gs_push (x := 0) hk_264 rfl (by decide) rfl ?_
  refine gs_aload hk_264 rfl rfl rfl ?_
  refine gs_iload hk_264 rfl rfl rfl ?_
  refine gs_callX (as := [.ref (0 + 1), .int x1]) (rest := [.int 0, .ref (1133 + 1)]) hk_264 rfl (Or.inr (Or.inr (Or.inr ⟨Or.inl rfl, la_rcv wc_0⟩))) rfl rfl rfl (Nat.not_lt.mpr (Nat.le_of_ble_eq_true rfl)) (e_up g1 (by decide : 7 ≤ 299)) rfl ?_
  refine gs_push (x := 1) hk_264 rfl (by decide) rfl ?_
  exact gs_iret hk_264 rfl (Or.inl rfl) rfl
theorem hk_265 : jP[265]? = some (jc_265, 4, [(0, 7, 9, 2, 3)], []) := by rfl
theorem lw_265_n {X : List Int32} {h : Hp} {x1 v : Int32} (hC : p_118 h x1 = some (.inl v)) (ca cb : Nat) (ce : Bool) : ∃ e1, j_Ev X 300 265 [.ref (0 + 1), .int x1, .ref (1133 + 1)] (w_mem ca cb ce h) (.inl (some (.int 0)), w_mem ca cb e1 (w_up h 1133 0 v)) := by
  obtain ⟨e1, g1⟩ := p_118_ok (X := X) hC ca cb ce
  refine ⟨e1, e_of hk_265 ?_⟩
  show j_Go X (299 + 1) 265 (0, [.ref (0 + 1), .int x1, .ref (1133 + 1), .retAddr 0], []) _ _
  refine gs_aload hk_265 rfl rfl rfl ?_
  refine gs_push (x := 0) hk_265 rfl (by decide) rfl ?_
  refine gs_aload hk_265 rfl rfl rfl ?_
  refine gs_iload hk_265 rfl rfl rfl ?_
  refine gs_call (as := [.ref (0 + 1), .int x1]) (rest := [.int 0, .ref (1133 + 1)]) hk_265 rfl (Or.inr (Or.inr (Or.inr ⟨Or.inl rfl, la_rcv wc_0⟩))) rfl rfl rfl (Nat.not_lt.mpr (Nat.le_of_ble_eq_true rfl)) (e_up g1 (by decide : 0 ≤ 299)) rfl ?_
  refine gs_i2l hk_265 rfl rfl ?_
  refine gs_last (x := v) hk_265 rfl rfl rfl ?_
  refine gs_goto hk_265 rfl ?_
  refine gs_push (x := 0) hk_265 rfl (by decide) rfl ?_
  exact gs_iret hk_265 rfl (Or.inl rfl) rfl
theorem lw_265_x2 {X : List Int32} {h : Hp} {x1 : Int32} (hC : p_118 h x1 = some (.inr 2)) (ca cb : Nat) (ce : Bool) : ∃ e1, j_Ev X 300 265 [.ref (0 + 1), .int x1, .ref (1133 + 1)] (w_mem ca cb ce h) (.inl (some (.int 1)), w_mem (ca + 1) (cb + 6) e1 h) := by
  obtain ⟨e1, g1⟩ := p_118_ok (X := X) hC ca cb ce
  refine ⟨e1, e_of hk_265 ?_⟩
  show j_Go X (299 + 1) 265 (0, [.ref (0 + 1), .int x1, .ref (1133 + 1), .retAddr 0], []) _ _
  refine gs_aload hk_265 rfl rfl rfl ?_
  refine gs_push (x := 0) hk_265 rfl (by decide) rfl ?_
  refine gs_aload hk_265 rfl rfl rfl ?_
  refine gs_iload hk_265 rfl rfl rfl ?_
  refine gs_callX (as := [.ref (0 + 1), .int x1]) (rest := [.int 0, .ref (1133 + 1)]) hk_265 rfl (Or.inr (Or.inr (Or.inr ⟨Or.inl rfl, la_rcv wc_0⟩))) rfl rfl rfl (Nat.not_lt.mpr (Nat.le_of_ble_eq_true rfl)) (e_up g1 (by decide : 0 ≤ 299)) rfl ?_
  refine gs_push (x := 1) hk_265 rfl (by decide) rfl ?_
  exact gs_iret hk_265 rfl (Or.inl rfl) rfl
set_option maxRecDepth 20000 in
theorem la_c0_n {X : List Int32} {n i : Nat} {h h1 h2 : Hp} {a1 a2 v : Int32} (hi : i + 4 ≤ X.length) (hl : X.length ≤ 2048) (hop : X.getD i 0 &&& 31 = 0) (ha1 : X.getD (i + 1) 0 = a1) (ha2 : X.getD (i + 2) 0 = a2) (hC : p_97 h a1 (la_i2c a2) = some (.inl v, h1)) (hM : p_159 (w_up h1 1133 0 v) a1 (la_i2c a2) = some (v, h2)) (hT : v_145 h2 = 0) (hO : h2 1133 0 = v) (hK : la_at X n (i + 4) h2) : la_at X (n + 1) i h := by
  intro ca cb ce u5 u6
  obtain ⟨e1, g1⟩ := lw_247_n (X := X) hC ca cb ce
  obtain ⟨e2, g2⟩ := p_159_ok (X := X) hM ca cb e1
  obtain ⟨e3, g3⟩ := v_145_ok (X := X) (h := h2) ca cb e2
  rw [hT] at g3
  obtain ⟨m, hm, hc1, hc2⟩ := hK ca cb e3 (.int 0) (.int v)
  refine ⟨m, ?_, by omega, by omega⟩
  show j_Go X (399 + 1) 266 (13, [.ref 0, .ref (0 + 1), .ref (1076 + 1), .ref (1133 + 1), .int (Int32.ofNat i), u5, u6], []) _ _
  refine gs_iload hk_266 rfl rfl rfl ?_
  refine gs_aload hk_266 rfl rfl rfl ?_
  refine gs_alen hk_266 rfl rfl ?_
  refine gs_push (x := 4) hk_266 rfl (by decide) rfl ?_
  refine gs_bin (z := Int32.ofNat X.length - 4) hk_266 rfl rfl rfl ?_
  refine gs_icF hk_266 rfl (la_goF hi hl) rfl ?_
  refine gs_aload hk_266 rfl rfl rfl ?_
  refine gs_iload hk_266 rfl rfl rfl ?_
  refine gs_sald (z := i) (x := X.getD i 0) hk_266 rfl (by omega) hl rfl rfl ?_
  refine gs_push (x := 31) hk_266 rfl (by decide) rfl ?_
  refine gs_bin (z := 0) hk_266 rfl (la_sw hop) rfl ?_
  refine gs_sw (j := 25) hk_266 rfl rfl ?_
  refine gs_aload hk_266 rfl rfl rfl ?_
  refine gs_aload hk_266 rfl rfl rfl ?_
  refine gs_iload hk_266 rfl rfl rfl ?_
  refine gs_push (x := 1) hk_266 rfl (by decide) rfl ?_
  refine gs_bin (z := Int32.ofNat (i + 1)) hk_266 rfl la_add rfl ?_
  refine gs_sald (z := (i + 1)) (x := a1) hk_266 rfl (by omega) hl ha1 rfl ?_
  refine gs_aload hk_266 rfl rfl rfl ?_
  refine gs_iload hk_266 rfl rfl rfl ?_
  refine gs_push (x := 2) hk_266 rfl (by decide) rfl ?_
  refine gs_bin (z := Int32.ofNat (i + 2)) hk_266 rfl la_add rfl ?_
  refine gs_sald (z := (i + 2)) (x := a2) hk_266 rfl (by omega) hl ha2 rfl ?_
  refine gs_un (z := la_i2c a2) hk_266 rfl rfl rfl ?_
  refine gs_aload hk_266 rfl rfl rfl ?_
  refine gs_call (as := [.ref (0 + 1), .int a1, .int (la_i2c a2), .ref (1133 + 1)]) (rest := []) hk_266 rfl (Or.inr (Or.inr (Or.inl rfl))) rfl rfl rfl (Nat.not_lt.mpr (Nat.le_of_ble_eq_true rfl)) (e_up g1 (by decide : 300 ≤ 399)) rfl ?_
  refine gs_istore (L2 := [.ref 0, .ref (0 + 1), .ref (1076 + 1), .ref (1133 + 1), .int (Int32.ofNat i), .int 0, u6]) hk_266 rfl (Nat.le_of_ble_eq_true rfl) rfl rfl ?_
  refine gs_aload hk_266 rfl rfl rfl ?_
  refine gs_aload hk_266 rfl rfl rfl ?_
  refine gs_iload hk_266 rfl rfl rfl ?_
  refine gs_push (x := 1) hk_266 rfl (by decide) rfl ?_
  refine gs_bin (z := Int32.ofNat (i + 1)) hk_266 rfl la_add rfl ?_
  refine gs_sald (z := (i + 1)) (x := a1) hk_266 rfl (by omega) hl ha1 rfl ?_
  refine gs_aload hk_266 rfl rfl rfl ?_
  refine gs_iload hk_266 rfl rfl rfl ?_
  refine gs_push (x := 2) hk_266 rfl (by decide) rfl ?_
  refine gs_bin (z := Int32.ofNat (i + 2)) hk_266 rfl la_add rfl ?_
  refine gs_sald (z := (i + 2)) (x := a2) hk_266 rfl (by omega) hl ha2 rfl ?_
  refine gs_un (z := la_i2c a2) hk_266 rfl rfl rfl ?_
  refine gs_call (as := [.ref (1076 + 1), .int a1, .int (la_i2c a2)]) (rest := []) hk_266 rfl (Or.inr (Or.inr (Or.inr ⟨Or.inl rfl, la_rcv la_1076⟩))) rfl rfl rfl (Nat.not_lt.mpr (Nat.le_of_ble_eq_true rfl)) (e_up g2 (by decide : 1 ≤ 399)) rfl ?_
  refine gs_istore (L2 := [.ref 0, .ref (0 + 1), .ref (1076 + 1), .ref (1133 + 1), .int (Int32.ofNat i), .int 0, .int v]) hk_266 rfl (Nat.le_of_ble_eq_true rfl) rfl rfl ?_
  refine gs_aload hk_266 rfl rfl rfl ?_
  refine gs_call (as := [.ref (1076 + 1)]) (rest := []) hk_266 rfl (Or.inr (Or.inr (Or.inr ⟨Or.inl rfl, la_rcv la_1076⟩))) rfl rfl rfl (Nat.not_lt.mpr (Nat.le_of_ble_eq_true rfl)) (e_up g3 (by decide : 0 ≤ 399)) rfl ?_
  refine gs_iload hk_266 rfl rfl rfl ?_
  refine gs_icT hk_266 rfl (jc_T0 rfl) ?_
  refine gs_iload hk_266 rfl rfl rfl ?_
  refine gs_ifF hk_266 rfl rfl rfl ?_
  refine gs_aload hk_266 rfl rfl rfl ?_
  refine gs_push (x := 0) hk_266 rfl (by decide) rfl ?_
  refine gs_lald (y := (v).toInt64) hk_266 rfl (by show (h2 1133 0).toInt64 = _; rw [hO]) rfl ?_
  refine gs_iload hk_266 rfl rfl rfl ?_
  refine gs_i2l hk_266 rfl rfl ?_
  refine gs_lcmp hk_266 rfl rfl ?_
  refine gs_ifT hk_266 rfl rfl ?_
  refine gs_goto hk_266 rfl ?_
  refine gs_iinc (y := Int32.ofNat (i + 4)) (L2 := [.ref 0, .ref (0 + 1), .ref (1076 + 1), .ref (1133 + 1), .int (Int32.ofNat (i + 4)), .int 0, .int v]) hk_266 rfl rfl (Option.some.inj la_add) rfl rfl ?_
  refine gs_goto hk_266 rfl ?_
  exact hm
set_option maxRecDepth 20000 in
theorem la_c0_x0 {X : List Int32} {n i : Nat} {h h1 h2 : Hp} {a1 a2 v : Int32} (hi : i + 4 ≤ X.length) (hl : X.length ≤ 2048) (hop : X.getD i 0 &&& 31 = 0) (ha1 : X.getD (i + 1) 0 = a1) (ha2 : X.getD (i + 2) 0 = a2) (hC : p_97 h a1 (la_i2c a2) = some (.inr 0, h1)) (hM : p_159 (h1) a1 (la_i2c a2) = some (v, h2)) (hT : v_145 h2 = 1) (hK : la_at X n (i + 4) h2) : la_at X (n + 1) i h := by
  intro ca cb ce u5 u6
  obtain ⟨e1, g1⟩ := lw_247_x0 (X := X) hC ca cb ce
  obtain ⟨e2, g2⟩ := p_159_ok (X := X) hM (ca + 1) (cb + 6) e1
  obtain ⟨e3, g3⟩ := v_145_ok (X := X) (h := h2) (ca + 1) (cb + 6) e2
  rw [hT] at g3
  obtain ⟨m, hm, hc1, hc2⟩ := hK (ca + 1) (cb + 6) e3 (.int 1) (.int v)
  refine ⟨m, ?_, by omega, by omega⟩
  show j_Go X (399 + 1) 266 (13, [.ref 0, .ref (0 + 1), .ref (1076 + 1), .ref (1133 + 1), .int (Int32.ofNat i), u5, u6], []) _ _
  refine gs_iload hk_266 rfl rfl rfl ?_
  refine gs_aload hk_266 rfl rfl rfl ?_
  refine gs_alen hk_266 rfl rfl ?_
  refine gs_push (x := 4) hk_266 rfl (by decide) rfl ?_
  refine gs_bin (z := Int32.ofNat X.length - 4) hk_266 rfl rfl rfl ?_
  refine gs_icF hk_266 rfl (la_goF hi hl) rfl ?_
  refine gs_aload hk_266 rfl rfl rfl ?_
  refine gs_iload hk_266 rfl rfl rfl ?_
  refine gs_sald (z := i) (x := X.getD i 0) hk_266 rfl (by omega) hl rfl rfl ?_
  refine gs_push (x := 31) hk_266 rfl (by decide) rfl ?_
  refine gs_bin (z := 0) hk_266 rfl (la_sw hop) rfl ?_
  refine gs_sw (j := 25) hk_266 rfl rfl ?_
  refine gs_aload hk_266 rfl rfl rfl ?_
  refine gs_aload hk_266 rfl rfl rfl ?_
  refine gs_iload hk_266 rfl rfl rfl ?_
  refine gs_push (x := 1) hk_266 rfl (by decide) rfl ?_
  refine gs_bin (z := Int32.ofNat (i + 1)) hk_266 rfl la_add rfl ?_
  refine gs_sald (z := (i + 1)) (x := a1) hk_266 rfl (by omega) hl ha1 rfl ?_
  refine gs_aload hk_266 rfl rfl rfl ?_
  refine gs_iload hk_266 rfl rfl rfl ?_
  refine gs_push (x := 2) hk_266 rfl (by decide) rfl ?_
  refine gs_bin (z := Int32.ofNat (i + 2)) hk_266 rfl la_add rfl ?_
  refine gs_sald (z := (i + 2)) (x := a2) hk_266 rfl (by omega) hl ha2 rfl ?_
  refine gs_un (z := la_i2c a2) hk_266 rfl rfl rfl ?_
  refine gs_aload hk_266 rfl rfl rfl ?_
  refine gs_call (as := [.ref (0 + 1), .int a1, .int (la_i2c a2), .ref (1133 + 1)]) (rest := []) hk_266 rfl (Or.inr (Or.inr (Or.inl rfl))) rfl rfl rfl (Nat.not_lt.mpr (Nat.le_of_ble_eq_true rfl)) (e_up g1 (by decide : 300 ≤ 399)) rfl ?_
  refine gs_istore (L2 := [.ref 0, .ref (0 + 1), .ref (1076 + 1), .ref (1133 + 1), .int (Int32.ofNat i), .int 1, u6]) hk_266 rfl (Nat.le_of_ble_eq_true rfl) rfl rfl ?_
  refine gs_aload hk_266 rfl rfl rfl ?_
  refine gs_aload hk_266 rfl rfl rfl ?_
  refine gs_iload hk_266 rfl rfl rfl ?_
  refine gs_push (x := 1) hk_266 rfl (by decide) rfl ?_
  refine gs_bin (z := Int32.ofNat (i + 1)) hk_266 rfl la_add rfl ?_
  refine gs_sald (z := (i + 1)) (x := a1) hk_266 rfl (by omega) hl ha1 rfl ?_
  refine gs_aload hk_266 rfl rfl rfl ?_
  refine gs_iload hk_266 rfl rfl rfl ?_
  refine gs_push (x := 2) hk_266 rfl (by decide) rfl ?_
  refine gs_bin (z := Int32.ofNat (i + 2)) hk_266 rfl la_add rfl ?_
  refine gs_sald (z := (i + 2)) (x := a2) hk_266 rfl (by omega) hl ha2 rfl ?_
  refine gs_un (z := la_i2c a2) hk_266 rfl rfl rfl ?_
  refine gs_call (as := [.ref (1076 + 1), .int a1, .int (la_i2c a2)]) (rest := []) hk_266 rfl (Or.inr (Or.inr (Or.inr ⟨Or.inl rfl, la_rcv la_1076⟩))) rfl rfl rfl (Nat.not_lt.mpr (Nat.le_of_ble_eq_true rfl)) (e_up g2 (by decide : 1 ≤ 399)) rfl ?_
  refine gs_istore (L2 := [.ref 0, .ref (0 + 1), .ref (1076 + 1), .ref (1133 + 1), .int (Int32.ofNat i), .int 1, .int v]) hk_266 rfl (Nat.le_of_ble_eq_true rfl) rfl rfl ?_
  refine gs_aload hk_266 rfl rfl rfl ?_
  refine gs_call (as := [.ref (1076 + 1)]) (rest := []) hk_266 rfl (Or.inr (Or.inr (Or.inr ⟨Or.inl rfl, la_rcv la_1076⟩))) rfl rfl rfl (Nat.not_lt.mpr (Nat.le_of_ble_eq_true rfl)) (e_up g3 (by decide : 0 ≤ 399)) rfl ?_
  refine gs_iload hk_266 rfl rfl rfl ?_
  refine gs_icT hk_266 rfl (jc_T0 rfl) ?_
  refine gs_iload hk_266 rfl rfl rfl ?_
  refine gs_ifT hk_266 rfl rfl ?_
  refine gs_goto hk_266 rfl ?_
  refine gs_iinc (y := Int32.ofNat (i + 4)) (L2 := [.ref 0, .ref (0 + 1), .ref (1076 + 1), .ref (1133 + 1), .int (Int32.ofNat (i + 4)), .int 1, .int v]) hk_266 rfl rfl (Option.some.inj la_add) rfl rfl ?_
  refine gs_goto hk_266 rfl ?_
  exact hm
set_option maxRecDepth 20000 in
theorem la_c0_x1 {X : List Int32} {n i : Nat} {h h1 h2 : Hp} {a1 a2 v : Int32} (hi : i + 4 ≤ X.length) (hl : X.length ≤ 2048) (hop : X.getD i 0 &&& 31 = 0) (ha1 : X.getD (i + 1) 0 = a1) (ha2 : X.getD (i + 2) 0 = a2) (hC : p_97 h a1 (la_i2c a2) = some (.inr 1, h1)) (hM : p_159 (h1) a1 (la_i2c a2) = some (v, h2)) (hT : v_145 h2 = 2) (hK : la_at X n (i + 4) h2) : la_at X (n + 1) i h := by
  intro ca cb ce u5 u6
  obtain ⟨e1, g1⟩ := lw_247_x1 (X := X) hC ca cb ce
  obtain ⟨e2, g2⟩ := p_159_ok (X := X) hM (ca + 1) (cb + 6) e1
  obtain ⟨e3, g3⟩ := v_145_ok (X := X) (h := h2) (ca + 1) (cb + 6) e2
  rw [hT] at g3
  obtain ⟨m, hm, hc1, hc2⟩ := hK (ca + 1) (cb + 6) e3 (.int 2) (.int v)
  refine ⟨m, ?_, by omega, by omega⟩
  show j_Go X (399 + 1) 266 (13, [.ref 0, .ref (0 + 1), .ref (1076 + 1), .ref (1133 + 1), .int (Int32.ofNat i), u5, u6], []) _ _
  refine gs_iload hk_266 rfl rfl rfl ?_
  refine gs_aload hk_266 rfl rfl rfl ?_
  refine gs_alen hk_266 rfl rfl ?_
  refine gs_push (x := 4) hk_266 rfl (by decide) rfl ?_
  refine gs_bin (z := Int32.ofNat X.length - 4) hk_266 rfl rfl rfl ?_
  refine gs_icF hk_266 rfl (la_goF hi hl) rfl ?_
  refine gs_aload hk_266 rfl rfl rfl ?_
  refine gs_iload hk_266 rfl rfl rfl ?_
  refine gs_sald (z := i) (x := X.getD i 0) hk_266 rfl (by omega) hl rfl rfl ?_
  refine gs_push (x := 31) hk_266 rfl (by decide) rfl ?_
  refine gs_bin (z := 0) hk_266 rfl (la_sw hop) rfl ?_
  refine gs_sw (j := 25) hk_266 rfl rfl ?_
  refine gs_aload hk_266 rfl rfl rfl ?_
  refine gs_aload hk_266 rfl rfl rfl ?_
  refine gs_iload hk_266 rfl rfl rfl ?_
  refine gs_push (x := 1) hk_266 rfl (by decide) rfl ?_
  refine gs_bin (z := Int32.ofNat (i + 1)) hk_266 rfl la_add rfl ?_
  refine gs_sald (z := (i + 1)) (x := a1) hk_266 rfl (by omega) hl ha1 rfl ?_
  refine gs_aload hk_266 rfl rfl rfl ?_
  refine gs_iload hk_266 rfl rfl rfl ?_
  refine gs_push (x := 2) hk_266 rfl (by decide) rfl ?_
  refine gs_bin (z := Int32.ofNat (i + 2)) hk_266 rfl la_add rfl ?_
  refine gs_sald (z := (i + 2)) (x := a2) hk_266 rfl (by omega) hl ha2 rfl ?_
  refine gs_un (z := la_i2c a2) hk_266 rfl rfl rfl ?_
  refine gs_aload hk_266 rfl rfl rfl ?_
  refine gs_call (as := [.ref (0 + 1), .int a1, .int (la_i2c a2), .ref (1133 + 1)]) (rest := []) hk_266 rfl (Or.inr (Or.inr (Or.inl rfl))) rfl rfl rfl (Nat.not_lt.mpr (Nat.le_of_ble_eq_true rfl)) (e_up g1 (by decide : 300 ≤ 399)) rfl ?_
  refine gs_istore (L2 := [.ref 0, .ref (0 + 1), .ref (1076 + 1), .ref (1133 + 1), .int (Int32.ofNat i), .int 2, u6]) hk_266 rfl (Nat.le_of_ble_eq_true rfl) rfl rfl ?_
  refine gs_aload hk_266 rfl rfl rfl ?_
  refine gs_aload hk_266 rfl rfl rfl ?_
  refine gs_iload hk_266 rfl rfl rfl ?_
  refine gs_push (x := 1) hk_266 rfl (by decide) rfl ?_
  refine gs_bin (z := Int32.ofNat (i + 1)) hk_266 rfl la_add rfl ?_
  refine gs_sald (z := (i + 1)) (x := a1) hk_266 rfl (by omega) hl ha1 rfl ?_
  refine gs_aload hk_266 rfl rfl rfl ?_
  refine gs_iload hk_266 rfl rfl rfl ?_
  refine gs_push (x := 2) hk_266 rfl (by decide) rfl ?_
  refine gs_bin (z := Int32.ofNat (i + 2)) hk_266 rfl la_add rfl ?_
  refine gs_sald (z := (i + 2)) (x := a2) hk_266 rfl (by omega) hl ha2 rfl ?_
  refine gs_un (z := la_i2c a2) hk_266 rfl rfl rfl ?_
  refine gs_call (as := [.ref (1076 + 1), .int a1, .int (la_i2c a2)]) (rest := []) hk_266 rfl (Or.inr (Or.inr (Or.inr ⟨Or.inl rfl, la_rcv la_1076⟩))) rfl rfl rfl (Nat.not_lt.mpr (Nat.le_of_ble_eq_true rfl)) (e_up g2 (by decide : 1 ≤ 399)) rfl ?_
  refine gs_istore (L2 := [.ref 0, .ref (0 + 1), .ref (1076 + 1), .ref (1133 + 1), .int (Int32.ofNat i), .int 2, .int v]) hk_266 rfl (Nat.le_of_ble_eq_true rfl) rfl rfl ?_
  refine gs_aload hk_266 rfl rfl rfl ?_
  refine gs_call (as := [.ref (1076 + 1)]) (rest := []) hk_266 rfl (Or.inr (Or.inr (Or.inr ⟨Or.inl rfl, la_rcv la_1076⟩))) rfl rfl rfl (Nat.not_lt.mpr (Nat.le_of_ble_eq_true rfl)) (e_up g3 (by decide : 0 ≤ 399)) rfl ?_
  refine gs_iload hk_266 rfl rfl rfl ?_
  refine gs_icT hk_266 rfl (jc_T0 rfl) ?_
  refine gs_iload hk_266 rfl rfl rfl ?_
  refine gs_ifT hk_266 rfl rfl ?_
  refine gs_goto hk_266 rfl ?_
  refine gs_iinc (y := Int32.ofNat (i + 4)) (L2 := [.ref 0, .ref (0 + 1), .ref (1076 + 1), .ref (1133 + 1), .int (Int32.ofNat (i + 4)), .int 2, .int v]) hk_266 rfl rfl (Option.some.inj la_add) rfl rfl ?_
  refine gs_goto hk_266 rfl ?_
  exact hm
set_option maxRecDepth 20000 in
theorem la_c1_n {X : List Int32} {n i : Nat} {h h1 h2 : Hp} {a1 a2 v : Int32} (hi : i + 4 ≤ X.length) (hl : X.length ≤ 2048) (hop : X.getD i 0 &&& 31 = 1) (ha1 : X.getD (i + 1) 0 = a1) (ha2 : X.getD (i + 2) 0 = a2) (hC : p_98 h a1 a2 = some (.inl v, h1)) (hM : p_160 (w_up h1 1133 0 v) a1 a2 = some (v, h2)) (hT : v_145 h2 = 0) (hO : h2 1133 0 = v) (hK : la_at X n (i + 4) h2) : la_at X (n + 1) i h := by
  intro ca cb ce u5 u6
  obtain ⟨e1, g1⟩ := lw_248_n (X := X) hC ca cb ce
  obtain ⟨e2, g2⟩ := p_160_ok (X := X) hM ca cb e1
  obtain ⟨e3, g3⟩ := v_145_ok (X := X) (h := h2) ca cb e2
  rw [hT] at g3
  obtain ⟨m, hm, hc1, hc2⟩ := hK ca cb e3 (.int 0) (.int v)
  refine ⟨m, ?_, by omega, by omega⟩
  show j_Go X (399 + 1) 266 (13, [.ref 0, .ref (0 + 1), .ref (1076 + 1), .ref (1133 + 1), .int (Int32.ofNat i), u5, u6], []) _ _
  refine gs_iload hk_266 rfl rfl rfl ?_
  refine gs_aload hk_266 rfl rfl rfl ?_
  refine gs_alen hk_266 rfl rfl ?_
  refine gs_push (x := 4) hk_266 rfl (by decide) rfl ?_
  refine gs_bin (z := Int32.ofNat X.length - 4) hk_266 rfl rfl rfl ?_
  refine gs_icF hk_266 rfl (la_goF hi hl) rfl ?_
  refine gs_aload hk_266 rfl rfl rfl ?_
  refine gs_iload hk_266 rfl rfl rfl ?_
  refine gs_sald (z := i) (x := X.getD i 0) hk_266 rfl (by omega) hl rfl rfl ?_
  refine gs_push (x := 31) hk_266 rfl (by decide) rfl ?_
  refine gs_bin (z := 1) hk_266 rfl (la_sw hop) rfl ?_
  refine gs_sw (j := 72) hk_266 rfl rfl ?_
  refine gs_aload hk_266 rfl rfl rfl ?_
  refine gs_aload hk_266 rfl rfl rfl ?_
  refine gs_iload hk_266 rfl rfl rfl ?_
  refine gs_push (x := 1) hk_266 rfl (by decide) rfl ?_
  refine gs_bin (z := Int32.ofNat (i + 1)) hk_266 rfl la_add rfl ?_
  refine gs_sald (z := (i + 1)) (x := a1) hk_266 rfl (by omega) hl ha1 rfl ?_
  refine gs_aload hk_266 rfl rfl rfl ?_
  refine gs_iload hk_266 rfl rfl rfl ?_
  refine gs_push (x := 2) hk_266 rfl (by decide) rfl ?_
  refine gs_bin (z := Int32.ofNat (i + 2)) hk_266 rfl la_add rfl ?_
  refine gs_sald (z := (i + 2)) (x := a2) hk_266 rfl (by omega) hl ha2 rfl ?_
  refine gs_aload hk_266 rfl rfl rfl ?_
  refine gs_call (as := [.ref (0 + 1), .int a1, .int a2, .ref (1133 + 1)]) (rest := []) hk_266 rfl (Or.inr (Or.inr (Or.inl rfl))) rfl rfl rfl (Nat.not_lt.mpr (Nat.le_of_ble_eq_true rfl)) (e_up g1 (by decide : 300 ≤ 399)) rfl ?_
  refine gs_istore (L2 := [.ref 0, .ref (0 + 1), .ref (1076 + 1), .ref (1133 + 1), .int (Int32.ofNat i), .int 0, u6]) hk_266 rfl (Nat.le_of_ble_eq_true rfl) rfl rfl ?_
  refine gs_aload hk_266 rfl rfl rfl ?_
  refine gs_aload hk_266 rfl rfl rfl ?_
  refine gs_iload hk_266 rfl rfl rfl ?_
  refine gs_push (x := 1) hk_266 rfl (by decide) rfl ?_
  refine gs_bin (z := Int32.ofNat (i + 1)) hk_266 rfl la_add rfl ?_
  refine gs_sald (z := (i + 1)) (x := a1) hk_266 rfl (by omega) hl ha1 rfl ?_
  refine gs_aload hk_266 rfl rfl rfl ?_
  refine gs_iload hk_266 rfl rfl rfl ?_
  refine gs_push (x := 2) hk_266 rfl (by decide) rfl ?_
  refine gs_bin (z := Int32.ofNat (i + 2)) hk_266 rfl la_add rfl ?_
  refine gs_sald (z := (i + 2)) (x := a2) hk_266 rfl (by omega) hl ha2 rfl ?_
  refine gs_call (as := [.ref (1076 + 1), .int a1, .int a2]) (rest := []) hk_266 rfl (Or.inr (Or.inr (Or.inr ⟨Or.inl rfl, la_rcv la_1076⟩))) rfl rfl rfl (Nat.not_lt.mpr (Nat.le_of_ble_eq_true rfl)) (e_up g2 (by decide : 6 ≤ 399)) rfl ?_
  refine gs_istore (L2 := [.ref 0, .ref (0 + 1), .ref (1076 + 1), .ref (1133 + 1), .int (Int32.ofNat i), .int 0, .int v]) hk_266 rfl (Nat.le_of_ble_eq_true rfl) rfl rfl ?_
  refine gs_aload hk_266 rfl rfl rfl ?_
  refine gs_call (as := [.ref (1076 + 1)]) (rest := []) hk_266 rfl (Or.inr (Or.inr (Or.inr ⟨Or.inl rfl, la_rcv la_1076⟩))) rfl rfl rfl (Nat.not_lt.mpr (Nat.le_of_ble_eq_true rfl)) (e_up g3 (by decide : 0 ≤ 399)) rfl ?_
  refine gs_iload hk_266 rfl rfl rfl ?_
  refine gs_icT hk_266 rfl (jc_T0 rfl) ?_
  refine gs_iload hk_266 rfl rfl rfl ?_
  refine gs_ifF hk_266 rfl rfl rfl ?_
  refine gs_aload hk_266 rfl rfl rfl ?_
  refine gs_push (x := 0) hk_266 rfl (by decide) rfl ?_
  refine gs_lald (y := (v).toInt64) hk_266 rfl (by show (h2 1133 0).toInt64 = _; rw [hO]) rfl ?_
  refine gs_iload hk_266 rfl rfl rfl ?_
  refine gs_i2l hk_266 rfl rfl ?_
  refine gs_lcmp hk_266 rfl rfl ?_
  refine gs_ifT hk_266 rfl rfl ?_
  refine gs_goto hk_266 rfl ?_
  refine gs_iinc (y := Int32.ofNat (i + 4)) (L2 := [.ref 0, .ref (0 + 1), .ref (1076 + 1), .ref (1133 + 1), .int (Int32.ofNat (i + 4)), .int 0, .int v]) hk_266 rfl rfl (Option.some.inj la_add) rfl rfl ?_
  refine gs_goto hk_266 rfl ?_
  exact hm
set_option maxRecDepth 20000 in
theorem la_c1_x0 {X : List Int32} {n i : Nat} {h h1 h2 : Hp} {a1 a2 v : Int32} (hi : i + 4 ≤ X.length) (hl : X.length ≤ 2048) (hop : X.getD i 0 &&& 31 = 1) (ha1 : X.getD (i + 1) 0 = a1) (ha2 : X.getD (i + 2) 0 = a2) (hC : p_98 h a1 a2 = some (.inr 0, h1)) (hM : p_160 (h1) a1 a2 = some (v, h2)) (hT : v_145 h2 = 1) (hK : la_at X n (i + 4) h2) : la_at X (n + 1) i h := by
  intro ca cb ce u5 u6
  obtain ⟨e1, g1⟩ := lw_248_x0 (X := X) hC ca cb ce
  obtain ⟨e2, g2⟩ := p_160_ok (X := X) hM (ca + 1) (cb + 6) e1
  obtain ⟨e3, g3⟩ := v_145_ok (X := X) (h := h2) (ca + 1) (cb + 6) e2
  rw [hT] at g3
  obtain ⟨m, hm, hc1, hc2⟩ := hK (ca + 1) (cb + 6) e3 (.int 1) (.int v)
  refine ⟨m, ?_, by omega, by omega⟩
  show j_Go X (399 + 1) 266 (13, [.ref 0, .ref (0 + 1), .ref (1076 + 1), .ref (1133 + 1), .int (Int32.ofNat i), u5, u6], []) _ _
  refine gs_iload hk_266 rfl rfl rfl ?_
  refine gs_aload hk_266 rfl rfl rfl ?_
  refine gs_alen hk_266 rfl rfl ?_
  refine gs_push (x := 4) hk_266 rfl (by decide) rfl ?_
  refine gs_bin (z := Int32.ofNat X.length - 4) hk_266 rfl rfl rfl ?_
  refine gs_icF hk_266 rfl (la_goF hi hl) rfl ?_
  refine gs_aload hk_266 rfl rfl rfl ?_
  refine gs_iload hk_266 rfl rfl rfl ?_
  refine gs_sald (z := i) (x := X.getD i 0) hk_266 rfl (by omega) hl rfl rfl ?_
  refine gs_push (x := 31) hk_266 rfl (by decide) rfl ?_
  refine gs_bin (z := 1) hk_266 rfl (la_sw hop) rfl ?_
  refine gs_sw (j := 72) hk_266 rfl rfl ?_
  refine gs_aload hk_266 rfl rfl rfl ?_
  refine gs_aload hk_266 rfl rfl rfl ?_
  refine gs_iload hk_266 rfl rfl rfl ?_
  refine gs_push (x := 1) hk_266 rfl (by decide) rfl ?_
  refine gs_bin (z := Int32.ofNat (i + 1)) hk_266 rfl la_add rfl ?_
  refine gs_sald (z := (i + 1)) (x := a1) hk_266 rfl (by omega) hl ha1 rfl ?_
  refine gs_aload hk_266 rfl rfl rfl ?_
  refine gs_iload hk_266 rfl rfl rfl ?_
  refine gs_push (x := 2) hk_266 rfl (by decide) rfl ?_
  refine gs_bin (z := Int32.ofNat (i + 2)) hk_266 rfl la_add rfl ?_
  refine gs_sald (z := (i + 2)) (x := a2) hk_266 rfl (by omega) hl ha2 rfl ?_
  refine gs_aload hk_266 rfl rfl rfl ?_
  refine gs_call (as := [.ref (0 + 1), .int a1, .int a2, .ref (1133 + 1)]) (rest := []) hk_266 rfl (Or.inr (Or.inr (Or.inl rfl))) rfl rfl rfl (Nat.not_lt.mpr (Nat.le_of_ble_eq_true rfl)) (e_up g1 (by decide : 300 ≤ 399)) rfl ?_
  refine gs_istore (L2 := [.ref 0, .ref (0 + 1), .ref (1076 + 1), .ref (1133 + 1), .int (Int32.ofNat i), .int 1, u6]) hk_266 rfl (Nat.le_of_ble_eq_true rfl) rfl rfl ?_
  refine gs_aload hk_266 rfl rfl rfl ?_
  refine gs_aload hk_266 rfl rfl rfl ?_
  refine gs_iload hk_266 rfl rfl rfl ?_
  refine gs_push (x := 1) hk_266 rfl (by decide) rfl ?_
  refine gs_bin (z := Int32.ofNat (i + 1)) hk_266 rfl la_add rfl ?_
  refine gs_sald (z := (i + 1)) (x := a1) hk_266 rfl (by omega) hl ha1 rfl ?_
  refine gs_aload hk_266 rfl rfl rfl ?_
  refine gs_iload hk_266 rfl rfl rfl ?_
  refine gs_push (x := 2) hk_266 rfl (by decide) rfl ?_
  refine gs_bin (z := Int32.ofNat (i + 2)) hk_266 rfl la_add rfl ?_
  refine gs_sald (z := (i + 2)) (x := a2) hk_266 rfl (by omega) hl ha2 rfl ?_
  refine gs_call (as := [.ref (1076 + 1), .int a1, .int a2]) (rest := []) hk_266 rfl (Or.inr (Or.inr (Or.inr ⟨Or.inl rfl, la_rcv la_1076⟩))) rfl rfl rfl (Nat.not_lt.mpr (Nat.le_of_ble_eq_true rfl)) (e_up g2 (by decide : 6 ≤ 399)) rfl ?_
  refine gs_istore (L2 := [.ref 0, .ref (0 + 1), .ref (1076 + 1), .ref (1133 + 1), .int (Int32.ofNat i), .int 1, .int v]) hk_266 rfl (Nat.le_of_ble_eq_true rfl) rfl rfl ?_
  refine gs_aload hk_266 rfl rfl rfl ?_
  refine gs_call (as := [.ref (1076 + 1)]) (rest := []) hk_266 rfl (Or.inr (Or.inr (Or.inr ⟨Or.inl rfl, la_rcv la_1076⟩))) rfl rfl rfl (Nat.not_lt.mpr (Nat.le_of_ble_eq_true rfl)) (e_up g3 (by decide : 0 ≤ 399)) rfl ?_
  refine gs_iload hk_266 rfl rfl rfl ?_
  refine gs_icT hk_266 rfl (jc_T0 rfl) ?_
  refine gs_iload hk_266 rfl rfl rfl ?_
  refine gs_ifT hk_266 rfl rfl ?_
  refine gs_goto hk_266 rfl ?_
  refine gs_iinc (y := Int32.ofNat (i + 4)) (L2 := [.ref 0, .ref (0 + 1), .ref (1076 + 1), .ref (1133 + 1), .int (Int32.ofNat (i + 4)), .int 1, .int v]) hk_266 rfl rfl (Option.some.inj la_add) rfl rfl ?_
  refine gs_goto hk_266 rfl ?_
  exact hm
set_option maxRecDepth 20000 in
theorem la_c2_n {X : List Int32} {n i : Nat} {h h1 h2 : Hp} {a1 a2 v : Int32} (hi : i + 4 ≤ X.length) (hl : X.length ≤ 2048) (hop : X.getD i 0 &&& 31 = 2) (ha1 : X.getD (i + 1) 0 = a1) (ha2 : X.getD (i + 2) 0 = a2) (hC : p_99 h a1 a2 = some (.inl v, h1)) (hM : p_166 (w_up h1 1133 0 v) a1 a2 = some (v, h2)) (hT : v_145 h2 = 0) (hO : h2 1133 0 = v) (hK : la_at X n (i + 4) h2) : la_at X (n + 1) i h := by
  intro ca cb ce u5 u6
  obtain ⟨e1, g1⟩ := lw_249_n (X := X) hC ca cb ce
  obtain ⟨e2, g2⟩ := p_166_ok (X := X) hM ca cb e1
  obtain ⟨e3, g3⟩ := v_145_ok (X := X) (h := h2) ca cb e2
  rw [hT] at g3
  obtain ⟨m, hm, hc1, hc2⟩ := hK ca cb e3 (.int 0) (.int v)
  refine ⟨m, ?_, by omega, by omega⟩
  show j_Go X (399 + 1) 266 (13, [.ref 0, .ref (0 + 1), .ref (1076 + 1), .ref (1133 + 1), .int (Int32.ofNat i), u5, u6], []) _ _
  refine gs_iload hk_266 rfl rfl rfl ?_
  refine gs_aload hk_266 rfl rfl rfl ?_
  refine gs_alen hk_266 rfl rfl ?_
  refine gs_push (x := 4) hk_266 rfl (by decide) rfl ?_
  refine gs_bin (z := Int32.ofNat X.length - 4) hk_266 rfl rfl rfl ?_
  refine gs_icF hk_266 rfl (la_goF hi hl) rfl ?_
  refine gs_aload hk_266 rfl rfl rfl ?_
  refine gs_iload hk_266 rfl rfl rfl ?_
  refine gs_sald (z := i) (x := X.getD i 0) hk_266 rfl (by omega) hl rfl rfl ?_
  refine gs_push (x := 31) hk_266 rfl (by decide) rfl ?_
  refine gs_bin (z := 2) hk_266 rfl (la_sw hop) rfl ?_
  refine gs_sw (j := 117) hk_266 rfl rfl ?_
  refine gs_aload hk_266 rfl rfl rfl ?_
  refine gs_aload hk_266 rfl rfl rfl ?_
  refine gs_iload hk_266 rfl rfl rfl ?_
  refine gs_push (x := 1) hk_266 rfl (by decide) rfl ?_
  refine gs_bin (z := Int32.ofNat (i + 1)) hk_266 rfl la_add rfl ?_
  refine gs_sald (z := (i + 1)) (x := a1) hk_266 rfl (by omega) hl ha1 rfl ?_
  refine gs_aload hk_266 rfl rfl rfl ?_
  refine gs_iload hk_266 rfl rfl rfl ?_
  refine gs_push (x := 2) hk_266 rfl (by decide) rfl ?_
  refine gs_bin (z := Int32.ofNat (i + 2)) hk_266 rfl la_add rfl ?_
  refine gs_sald (z := (i + 2)) (x := a2) hk_266 rfl (by omega) hl ha2 rfl ?_
  refine gs_aload hk_266 rfl rfl rfl ?_
  refine gs_call (as := [.ref (0 + 1), .int a1, .int a2, .ref (1133 + 1)]) (rest := []) hk_266 rfl (Or.inr (Or.inr (Or.inl rfl))) rfl rfl rfl (Nat.not_lt.mpr (Nat.le_of_ble_eq_true rfl)) (e_up g1 (by decide : 300 ≤ 399)) rfl ?_
  refine gs_istore (L2 := [.ref 0, .ref (0 + 1), .ref (1076 + 1), .ref (1133 + 1), .int (Int32.ofNat i), .int 0, u6]) hk_266 rfl (Nat.le_of_ble_eq_true rfl) rfl rfl ?_
  refine gs_aload hk_266 rfl rfl rfl ?_
  refine gs_aload hk_266 rfl rfl rfl ?_
  refine gs_iload hk_266 rfl rfl rfl ?_
  refine gs_push (x := 1) hk_266 rfl (by decide) rfl ?_
  refine gs_bin (z := Int32.ofNat (i + 1)) hk_266 rfl la_add rfl ?_
  refine gs_sald (z := (i + 1)) (x := a1) hk_266 rfl (by omega) hl ha1 rfl ?_
  refine gs_aload hk_266 rfl rfl rfl ?_
  refine gs_iload hk_266 rfl rfl rfl ?_
  refine gs_push (x := 2) hk_266 rfl (by decide) rfl ?_
  refine gs_bin (z := Int32.ofNat (i + 2)) hk_266 rfl la_add rfl ?_
  refine gs_sald (z := (i + 2)) (x := a2) hk_266 rfl (by omega) hl ha2 rfl ?_
  refine gs_call (as := [.ref (1076 + 1), .int a1, .int a2]) (rest := []) hk_266 rfl (Or.inr (Or.inr (Or.inr ⟨Or.inl rfl, la_rcv la_1076⟩))) rfl rfl rfl (Nat.not_lt.mpr (Nat.le_of_ble_eq_true rfl)) (e_up g2 (by decide : 14 ≤ 399)) rfl ?_
  refine gs_istore (L2 := [.ref 0, .ref (0 + 1), .ref (1076 + 1), .ref (1133 + 1), .int (Int32.ofNat i), .int 0, .int v]) hk_266 rfl (Nat.le_of_ble_eq_true rfl) rfl rfl ?_
  refine gs_aload hk_266 rfl rfl rfl ?_
  refine gs_call (as := [.ref (1076 + 1)]) (rest := []) hk_266 rfl (Or.inr (Or.inr (Or.inr ⟨Or.inl rfl, la_rcv la_1076⟩))) rfl rfl rfl (Nat.not_lt.mpr (Nat.le_of_ble_eq_true rfl)) (e_up g3 (by decide : 0 ≤ 399)) rfl ?_
  refine gs_iload hk_266 rfl rfl rfl ?_
  refine gs_icT hk_266 rfl (jc_T0 rfl) ?_
  refine gs_iload hk_266 rfl rfl rfl ?_
  refine gs_ifF hk_266 rfl rfl rfl ?_
  refine gs_aload hk_266 rfl rfl rfl ?_
  refine gs_push (x := 0) hk_266 rfl (by decide) rfl ?_
  refine gs_lald (y := (v).toInt64) hk_266 rfl (by show (h2 1133 0).toInt64 = _; rw [hO]) rfl ?_
  refine gs_iload hk_266 rfl rfl rfl ?_
  refine gs_i2l hk_266 rfl rfl ?_
  refine gs_lcmp hk_266 rfl rfl ?_
  refine gs_ifT hk_266 rfl rfl ?_
  refine gs_goto hk_266 rfl ?_
  refine gs_iinc (y := Int32.ofNat (i + 4)) (L2 := [.ref 0, .ref (0 + 1), .ref (1076 + 1), .ref (1133 + 1), .int (Int32.ofNat (i + 4)), .int 0, .int v]) hk_266 rfl rfl (Option.some.inj la_add) rfl rfl ?_
  refine gs_goto hk_266 rfl ?_
  exact hm
set_option maxRecDepth 20000 in
theorem la_c2_x0 {X : List Int32} {n i : Nat} {h h1 h2 : Hp} {a1 a2 v : Int32} (hi : i + 4 ≤ X.length) (hl : X.length ≤ 2048) (hop : X.getD i 0 &&& 31 = 2) (ha1 : X.getD (i + 1) 0 = a1) (ha2 : X.getD (i + 2) 0 = a2) (hC : p_99 h a1 a2 = some (.inr 0, h1)) (hM : p_166 (h1) a1 a2 = some (v, h2)) (hT : v_145 h2 = 1) (hK : la_at X n (i + 4) h2) : la_at X (n + 1) i h := by
  intro ca cb ce u5 u6
  obtain ⟨e1, g1⟩ := lw_249_x0 (X := X) hC ca cb ce
  obtain ⟨e2, g2⟩ := p_166_ok (X := X) hM (ca + 1) (cb + 6) e1
  obtain ⟨e3, g3⟩ := v_145_ok (X := X) (h := h2) (ca + 1) (cb + 6) e2
  rw [hT] at g3
  obtain ⟨m, hm, hc1, hc2⟩ := hK (ca + 1) (cb + 6) e3 (.int 1) (.int v)
  refine ⟨m, ?_, by omega, by omega⟩
  show j_Go X (399 + 1) 266 (13, [.ref 0, .ref (0 + 1), .ref (1076 + 1), .ref (1133 + 1), .int (Int32.ofNat i), u5, u6], []) _ _
  refine gs_iload hk_266 rfl rfl rfl ?_
  refine gs_aload hk_266 rfl rfl rfl ?_
  refine gs_alen hk_266 rfl rfl ?_
  refine gs_push (x := 4) hk_266 rfl (by decide) rfl ?_
  refine gs_bin (z := Int32.ofNat X.length - 4) hk_266 rfl rfl rfl ?_
  refine gs_icF hk_266 rfl (la_goF hi hl) rfl ?_
  refine gs_aload hk_266 rfl rfl rfl ?_
  refine gs_iload hk_266 rfl rfl rfl ?_
  refine gs_sald (z := i) (x := X.getD i 0) hk_266 rfl (by omega) hl rfl rfl ?_
  refine gs_push (x := 31) hk_266 rfl (by decide) rfl ?_
  refine gs_bin (z := 2) hk_266 rfl (la_sw hop) rfl ?_
  refine gs_sw (j := 117) hk_266 rfl rfl ?_
  refine gs_aload hk_266 rfl rfl rfl ?_
  refine gs_aload hk_266 rfl rfl rfl ?_
  refine gs_iload hk_266 rfl rfl rfl ?_
  refine gs_push (x := 1) hk_266 rfl (by decide) rfl ?_
  refine gs_bin (z := Int32.ofNat (i + 1)) hk_266 rfl la_add rfl ?_
  refine gs_sald (z := (i + 1)) (x := a1) hk_266 rfl (by omega) hl ha1 rfl ?_
  refine gs_aload hk_266 rfl rfl rfl ?_
  refine gs_iload hk_266 rfl rfl rfl ?_
  refine gs_push (x := 2) hk_266 rfl (by decide) rfl ?_
  refine gs_bin (z := Int32.ofNat (i + 2)) hk_266 rfl la_add rfl ?_
  refine gs_sald (z := (i + 2)) (x := a2) hk_266 rfl (by omega) hl ha2 rfl ?_
  refine gs_aload hk_266 rfl rfl rfl ?_
  refine gs_call (as := [.ref (0 + 1), .int a1, .int a2, .ref (1133 + 1)]) (rest := []) hk_266 rfl (Or.inr (Or.inr (Or.inl rfl))) rfl rfl rfl (Nat.not_lt.mpr (Nat.le_of_ble_eq_true rfl)) (e_up g1 (by decide : 300 ≤ 399)) rfl ?_
  refine gs_istore (L2 := [.ref 0, .ref (0 + 1), .ref (1076 + 1), .ref (1133 + 1), .int (Int32.ofNat i), .int 1, u6]) hk_266 rfl (Nat.le_of_ble_eq_true rfl) rfl rfl ?_
  refine gs_aload hk_266 rfl rfl rfl ?_
  refine gs_aload hk_266 rfl rfl rfl ?_
  refine gs_iload hk_266 rfl rfl rfl ?_
  refine gs_push (x := 1) hk_266 rfl (by decide) rfl ?_
  refine gs_bin (z := Int32.ofNat (i + 1)) hk_266 rfl la_add rfl ?_
  refine gs_sald (z := (i + 1)) (x := a1) hk_266 rfl (by omega) hl ha1 rfl ?_
  refine gs_aload hk_266 rfl rfl rfl ?_
  refine gs_iload hk_266 rfl rfl rfl ?_
  refine gs_push (x := 2) hk_266 rfl (by decide) rfl ?_
  refine gs_bin (z := Int32.ofNat (i + 2)) hk_266 rfl la_add rfl ?_
  refine gs_sald (z := (i + 2)) (x := a2) hk_266 rfl (by omega) hl ha2 rfl ?_
  refine gs_call (as := [.ref (1076 + 1), .int a1, .int a2]) (rest := []) hk_266 rfl (Or.inr (Or.inr (Or.inr ⟨Or.inl rfl, la_rcv la_1076⟩))) rfl rfl rfl (Nat.not_lt.mpr (Nat.le_of_ble_eq_true rfl)) (e_up g2 (by decide : 14 ≤ 399)) rfl ?_
  refine gs_istore (L2 := [.ref 0, .ref (0 + 1), .ref (1076 + 1), .ref (1133 + 1), .int (Int32.ofNat i), .int 1, .int v]) hk_266 rfl (Nat.le_of_ble_eq_true rfl) rfl rfl ?_
  refine gs_aload hk_266 rfl rfl rfl ?_
  refine gs_call (as := [.ref (1076 + 1)]) (rest := []) hk_266 rfl (Or.inr (Or.inr (Or.inr ⟨Or.inl rfl, la_rcv la_1076⟩))) rfl rfl rfl (Nat.not_lt.mpr (Nat.le_of_ble_eq_true rfl)) (e_up g3 (by decide : 0 ≤ 399)) rfl ?_
  refine gs_iload hk_266 rfl rfl rfl ?_
  refine gs_icT hk_266 rfl (jc_T0 rfl) ?_
  refine gs_iload hk_266 rfl rfl rfl ?_
  refine gs_ifT hk_266 rfl rfl ?_
  refine gs_goto hk_266 rfl ?_
  refine gs_iinc (y := Int32.ofNat (i + 4)) (L2 := [.ref 0, .ref (0 + 1), .ref (1076 + 1), .ref (1133 + 1), .int (Int32.ofNat (i + 4)), .int 1, .int v]) hk_266 rfl rfl (Option.some.inj la_add) rfl rfl ?_
  refine gs_goto hk_266 rfl ?_
  exact hm
set_option maxRecDepth 20000 in
theorem la_c2_x1 {X : List Int32} {n i : Nat} {h h1 h2 : Hp} {a1 a2 v : Int32} (hi : i + 4 ≤ X.length) (hl : X.length ≤ 2048) (hop : X.getD i 0 &&& 31 = 2) (ha1 : X.getD (i + 1) 0 = a1) (ha2 : X.getD (i + 2) 0 = a2) (hC : p_99 h a1 a2 = some (.inr 1, h1)) (hM : p_166 (h1) a1 a2 = some (v, h2)) (hT : v_145 h2 = 2) (hK : la_at X n (i + 4) h2) : la_at X (n + 1) i h := by
  intro ca cb ce u5 u6
  obtain ⟨e1, g1⟩ := lw_249_x1 (X := X) hC ca cb ce
  obtain ⟨e2, g2⟩ := p_166_ok (X := X) hM (ca + 1) (cb + 6) e1
  obtain ⟨e3, g3⟩ := v_145_ok (X := X) (h := h2) (ca + 1) (cb + 6) e2
  rw [hT] at g3
  obtain ⟨m, hm, hc1, hc2⟩ := hK (ca + 1) (cb + 6) e3 (.int 2) (.int v)
  refine ⟨m, ?_, by omega, by omega⟩
  show j_Go X (399 + 1) 266 (13, [.ref 0, .ref (0 + 1), .ref (1076 + 1), .ref (1133 + 1), .int (Int32.ofNat i), u5, u6], []) _ _
  refine gs_iload hk_266 rfl rfl rfl ?_
  refine gs_aload hk_266 rfl rfl rfl ?_
  refine gs_alen hk_266 rfl rfl ?_
  refine gs_push (x := 4) hk_266 rfl (by decide) rfl ?_
  refine gs_bin (z := Int32.ofNat X.length - 4) hk_266 rfl rfl rfl ?_
  refine gs_icF hk_266 rfl (la_goF hi hl) rfl ?_
  refine gs_aload hk_266 rfl rfl rfl ?_
  refine gs_iload hk_266 rfl rfl rfl ?_
  refine gs_sald (z := i) (x := X.getD i 0) hk_266 rfl (by omega) hl rfl rfl ?_
  refine gs_push (x := 31) hk_266 rfl (by decide) rfl ?_
  refine gs_bin (z := 2) hk_266 rfl (la_sw hop) rfl ?_
  refine gs_sw (j := 117) hk_266 rfl rfl ?_
  refine gs_aload hk_266 rfl rfl rfl ?_
  refine gs_aload hk_266 rfl rfl rfl ?_
  refine gs_iload hk_266 rfl rfl rfl ?_
  refine gs_push (x := 1) hk_266 rfl (by decide) rfl ?_
  refine gs_bin (z := Int32.ofNat (i + 1)) hk_266 rfl la_add rfl ?_
  refine gs_sald (z := (i + 1)) (x := a1) hk_266 rfl (by omega) hl ha1 rfl ?_
  refine gs_aload hk_266 rfl rfl rfl ?_
  refine gs_iload hk_266 rfl rfl rfl ?_
  refine gs_push (x := 2) hk_266 rfl (by decide) rfl ?_
  refine gs_bin (z := Int32.ofNat (i + 2)) hk_266 rfl la_add rfl ?_
  refine gs_sald (z := (i + 2)) (x := a2) hk_266 rfl (by omega) hl ha2 rfl ?_
  refine gs_aload hk_266 rfl rfl rfl ?_
  refine gs_call (as := [.ref (0 + 1), .int a1, .int a2, .ref (1133 + 1)]) (rest := []) hk_266 rfl (Or.inr (Or.inr (Or.inl rfl))) rfl rfl rfl (Nat.not_lt.mpr (Nat.le_of_ble_eq_true rfl)) (e_up g1 (by decide : 300 ≤ 399)) rfl ?_
  refine gs_istore (L2 := [.ref 0, .ref (0 + 1), .ref (1076 + 1), .ref (1133 + 1), .int (Int32.ofNat i), .int 2, u6]) hk_266 rfl (Nat.le_of_ble_eq_true rfl) rfl rfl ?_
  refine gs_aload hk_266 rfl rfl rfl ?_
  refine gs_aload hk_266 rfl rfl rfl ?_
  refine gs_iload hk_266 rfl rfl rfl ?_
  refine gs_push (x := 1) hk_266 rfl (by decide) rfl ?_
  refine gs_bin (z := Int32.ofNat (i + 1)) hk_266 rfl la_add rfl ?_
  refine gs_sald (z := (i + 1)) (x := a1) hk_266 rfl (by omega) hl ha1 rfl ?_
  refine gs_aload hk_266 rfl rfl rfl ?_
  refine gs_iload hk_266 rfl rfl rfl ?_
  refine gs_push (x := 2) hk_266 rfl (by decide) rfl ?_
  refine gs_bin (z := Int32.ofNat (i + 2)) hk_266 rfl la_add rfl ?_
  refine gs_sald (z := (i + 2)) (x := a2) hk_266 rfl (by omega) hl ha2 rfl ?_
  refine gs_call (as := [.ref (1076 + 1), .int a1, .int a2]) (rest := []) hk_266 rfl (Or.inr (Or.inr (Or.inr ⟨Or.inl rfl, la_rcv la_1076⟩))) rfl rfl rfl (Nat.not_lt.mpr (Nat.le_of_ble_eq_true rfl)) (e_up g2 (by decide : 14 ≤ 399)) rfl ?_
  refine gs_istore (L2 := [.ref 0, .ref (0 + 1), .ref (1076 + 1), .ref (1133 + 1), .int (Int32.ofNat i), .int 2, .int v]) hk_266 rfl (Nat.le_of_ble_eq_true rfl) rfl rfl ?_
  refine gs_aload hk_266 rfl rfl rfl ?_
  refine gs_call (as := [.ref (1076 + 1)]) (rest := []) hk_266 rfl (Or.inr (Or.inr (Or.inr ⟨Or.inl rfl, la_rcv la_1076⟩))) rfl rfl rfl (Nat.not_lt.mpr (Nat.le_of_ble_eq_true rfl)) (e_up g3 (by decide : 0 ≤ 399)) rfl ?_
  refine gs_iload hk_266 rfl rfl rfl ?_
  refine gs_icT hk_266 rfl (jc_T0 rfl) ?_
  refine gs_iload hk_266 rfl rfl rfl ?_
  refine gs_ifT hk_266 rfl rfl ?_
  refine gs_goto hk_266 rfl ?_
  refine gs_iinc (y := Int32.ofNat (i + 4)) (L2 := [.ref 0, .ref (0 + 1), .ref (1076 + 1), .ref (1133 + 1), .int (Int32.ofNat (i + 4)), .int 2, .int v]) hk_266 rfl rfl (Option.some.inj la_add) rfl rfl ?_
  refine gs_goto hk_266 rfl ?_
  exact hm
set_option maxRecDepth 20000 in
theorem la_c3_n {X : List Int32} {n i : Nat} {h h1 h2 : Hp} {a1 a2 a3 v : Int32} (hi : i + 4 ≤ X.length) (hl : X.length ≤ 2048) (hop : X.getD i 0 &&& 31 = 3) (ha1 : X.getD (i + 1) 0 = a1) (ha2 : X.getD (i + 2) 0 = a2) (ha3 : X.getD (i + 3) 0 = a3) (hC : p_100 h a1 a2 a3 = some (.inl v, h1)) (hM : p_168 (w_up h1 1133 0 v) a1 a2 a3 = some (v, h2)) (hT : v_145 h2 = 0) (hO : h2 1133 0 = v) (hK : la_at X n (i + 4) h2) : la_at X (n + 1) i h := by
  intro ca cb ce u5 u6
  obtain ⟨e1, g1⟩ := lw_250_n (X := X) hC ca cb ce
  obtain ⟨e2, g2⟩ := p_168_ok (X := X) hM ca cb e1
  obtain ⟨e3, g3⟩ := v_145_ok (X := X) (h := h2) ca cb e2
  rw [hT] at g3
  obtain ⟨m, hm, hc1, hc2⟩ := hK ca cb e3 (.int 0) (.int v)
  refine ⟨m, ?_, by omega, by omega⟩
  show j_Go X (399 + 1) 266 (13, [.ref 0, .ref (0 + 1), .ref (1076 + 1), .ref (1133 + 1), .int (Int32.ofNat i), u5, u6], []) _ _
  refine gs_iload hk_266 rfl rfl rfl ?_
  refine gs_aload hk_266 rfl rfl rfl ?_
  refine gs_alen hk_266 rfl rfl ?_
  refine gs_push (x := 4) hk_266 rfl (by decide) rfl ?_
  refine gs_bin (z := Int32.ofNat X.length - 4) hk_266 rfl rfl rfl ?_
  refine gs_icF hk_266 rfl (la_goF hi hl) rfl ?_
  refine gs_aload hk_266 rfl rfl rfl ?_
  refine gs_iload hk_266 rfl rfl rfl ?_
  refine gs_sald (z := i) (x := X.getD i 0) hk_266 rfl (by omega) hl rfl rfl ?_
  refine gs_push (x := 31) hk_266 rfl (by decide) rfl ?_
  refine gs_bin (z := 3) hk_266 rfl (la_sw hop) rfl ?_
  refine gs_sw (j := 162) hk_266 rfl rfl ?_
  refine gs_aload hk_266 rfl rfl rfl ?_
  refine gs_aload hk_266 rfl rfl rfl ?_
  refine gs_iload hk_266 rfl rfl rfl ?_
  refine gs_push (x := 1) hk_266 rfl (by decide) rfl ?_
  refine gs_bin (z := Int32.ofNat (i + 1)) hk_266 rfl la_add rfl ?_
  refine gs_sald (z := (i + 1)) (x := a1) hk_266 rfl (by omega) hl ha1 rfl ?_
  refine gs_aload hk_266 rfl rfl rfl ?_
  refine gs_iload hk_266 rfl rfl rfl ?_
  refine gs_push (x := 2) hk_266 rfl (by decide) rfl ?_
  refine gs_bin (z := Int32.ofNat (i + 2)) hk_266 rfl la_add rfl ?_
  refine gs_sald (z := (i + 2)) (x := a2) hk_266 rfl (by omega) hl ha2 rfl ?_
  refine gs_aload hk_266 rfl rfl rfl ?_
  refine gs_iload hk_266 rfl rfl rfl ?_
  refine gs_push (x := 3) hk_266 rfl (by decide) rfl ?_
  refine gs_bin (z := Int32.ofNat (i + 3)) hk_266 rfl la_add rfl ?_
  refine gs_sald (z := (i + 3)) (x := a3) hk_266 rfl (by omega) hl ha3 rfl ?_
  refine gs_aload hk_266 rfl rfl rfl ?_
  refine gs_call (as := [.ref (0 + 1), .int a1, .int a2, .int a3, .ref (1133 + 1)]) (rest := []) hk_266 rfl (Or.inr (Or.inr (Or.inl rfl))) rfl rfl rfl (Nat.not_lt.mpr (Nat.le_of_ble_eq_true rfl)) (e_up g1 (by decide : 300 ≤ 399)) rfl ?_
  refine gs_istore (L2 := [.ref 0, .ref (0 + 1), .ref (1076 + 1), .ref (1133 + 1), .int (Int32.ofNat i), .int 0, u6]) hk_266 rfl (Nat.le_of_ble_eq_true rfl) rfl rfl ?_
  refine gs_aload hk_266 rfl rfl rfl ?_
  refine gs_aload hk_266 rfl rfl rfl ?_
  refine gs_iload hk_266 rfl rfl rfl ?_
  refine gs_push (x := 1) hk_266 rfl (by decide) rfl ?_
  refine gs_bin (z := Int32.ofNat (i + 1)) hk_266 rfl la_add rfl ?_
  refine gs_sald (z := (i + 1)) (x := a1) hk_266 rfl (by omega) hl ha1 rfl ?_
  refine gs_aload hk_266 rfl rfl rfl ?_
  refine gs_iload hk_266 rfl rfl rfl ?_
  refine gs_push (x := 2) hk_266 rfl (by decide) rfl ?_
  refine gs_bin (z := Int32.ofNat (i + 2)) hk_266 rfl la_add rfl ?_
  refine gs_sald (z := (i + 2)) (x := a2) hk_266 rfl (by omega) hl ha2 rfl ?_
  refine gs_aload hk_266 rfl rfl rfl ?_
  refine gs_iload hk_266 rfl rfl rfl ?_
  refine gs_push (x := 3) hk_266 rfl (by decide) rfl ?_
  refine gs_bin (z := Int32.ofNat (i + 3)) hk_266 rfl la_add rfl ?_
  refine gs_sald (z := (i + 3)) (x := a3) hk_266 rfl (by omega) hl ha3 rfl ?_
  refine gs_call (as := [.ref (1076 + 1), .int a1, .int a2, .int a3]) (rest := []) hk_266 rfl (Or.inr (Or.inr (Or.inr ⟨Or.inl rfl, la_rcv la_1076⟩))) rfl rfl rfl (Nat.not_lt.mpr (Nat.le_of_ble_eq_true rfl)) (e_up g2 (by decide : 14 ≤ 399)) rfl ?_
  refine gs_istore (L2 := [.ref 0, .ref (0 + 1), .ref (1076 + 1), .ref (1133 + 1), .int (Int32.ofNat i), .int 0, .int v]) hk_266 rfl (Nat.le_of_ble_eq_true rfl) rfl rfl ?_
  refine gs_aload hk_266 rfl rfl rfl ?_
  refine gs_call (as := [.ref (1076 + 1)]) (rest := []) hk_266 rfl (Or.inr (Or.inr (Or.inr ⟨Or.inl rfl, la_rcv la_1076⟩))) rfl rfl rfl (Nat.not_lt.mpr (Nat.le_of_ble_eq_true rfl)) (e_up g3 (by decide : 0 ≤ 399)) rfl ?_
  refine gs_iload hk_266 rfl rfl rfl ?_
  refine gs_icT hk_266 rfl (jc_T0 rfl) ?_
  refine gs_iload hk_266 rfl rfl rfl ?_
  refine gs_ifF hk_266 rfl rfl rfl ?_
  refine gs_aload hk_266 rfl rfl rfl ?_
  refine gs_push (x := 0) hk_266 rfl (by decide) rfl ?_
  refine gs_lald (y := (v).toInt64) hk_266 rfl (by show (h2 1133 0).toInt64 = _; rw [hO]) rfl ?_
  refine gs_iload hk_266 rfl rfl rfl ?_
  refine gs_i2l hk_266 rfl rfl ?_
  refine gs_lcmp hk_266 rfl rfl ?_
  refine gs_ifT hk_266 rfl rfl ?_
  refine gs_goto hk_266 rfl ?_
  refine gs_iinc (y := Int32.ofNat (i + 4)) (L2 := [.ref 0, .ref (0 + 1), .ref (1076 + 1), .ref (1133 + 1), .int (Int32.ofNat (i + 4)), .int 0, .int v]) hk_266 rfl rfl (Option.some.inj la_add) rfl rfl ?_
  refine gs_goto hk_266 rfl ?_
  exact hm
set_option maxRecDepth 20000 in
theorem la_c3_x2 {X : List Int32} {n i : Nat} {h h1 h2 : Hp} {a1 a2 a3 v : Int32} (hi : i + 4 ≤ X.length) (hl : X.length ≤ 2048) (hop : X.getD i 0 &&& 31 = 3) (ha1 : X.getD (i + 1) 0 = a1) (ha2 : X.getD (i + 2) 0 = a2) (ha3 : X.getD (i + 3) 0 = a3) (hC : p_100 h a1 a2 a3 = some (.inr 2, h1)) (hM : p_168 (h1) a1 a2 a3 = some (v, h2)) (hT : v_145 h2 = 1) (hK : la_at X n (i + 4) h2) : la_at X (n + 1) i h := by
  intro ca cb ce u5 u6
  obtain ⟨e1, g1⟩ := lw_250_x2 (X := X) hC ca cb ce
  obtain ⟨e2, g2⟩ := p_168_ok (X := X) hM (ca + 1) (cb + 6) e1
  obtain ⟨e3, g3⟩ := v_145_ok (X := X) (h := h2) (ca + 1) (cb + 6) e2
  rw [hT] at g3
  obtain ⟨m, hm, hc1, hc2⟩ := hK (ca + 1) (cb + 6) e3 (.int 1) (.int v)
  refine ⟨m, ?_, by omega, by omega⟩
  show j_Go X (399 + 1) 266 (13, [.ref 0, .ref (0 + 1), .ref (1076 + 1), .ref (1133 + 1), .int (Int32.ofNat i), u5, u6], []) _ _
  refine gs_iload hk_266 rfl rfl rfl ?_
  refine gs_aload hk_266 rfl rfl rfl ?_
  refine gs_alen hk_266 rfl rfl ?_
  refine gs_push (x := 4) hk_266 rfl (by decide) rfl ?_
  refine gs_bin (z := Int32.ofNat X.length - 4) hk_266 rfl rfl rfl ?_
  refine gs_icF hk_266 rfl (la_goF hi hl) rfl ?_
  refine gs_aload hk_266 rfl rfl rfl ?_
  refine gs_iload hk_266 rfl rfl rfl ?_
  refine gs_sald (z := i) (x := X.getD i 0) hk_266 rfl (by omega) hl rfl rfl ?_
  refine gs_push (x := 31) hk_266 rfl (by decide) rfl ?_
  refine gs_bin (z := 3) hk_266 rfl (la_sw hop) rfl ?_
  refine gs_sw (j := 162) hk_266 rfl rfl ?_
  refine gs_aload hk_266 rfl rfl rfl ?_
  refine gs_aload hk_266 rfl rfl rfl ?_
  refine gs_iload hk_266 rfl rfl rfl ?_
  refine gs_push (x := 1) hk_266 rfl (by decide) rfl ?_
  refine gs_bin (z := Int32.ofNat (i + 1)) hk_266 rfl la_add rfl ?_
  refine gs_sald (z := (i + 1)) (x := a1) hk_266 rfl (by omega) hl ha1 rfl ?_
  refine gs_aload hk_266 rfl rfl rfl ?_
  refine gs_iload hk_266 rfl rfl rfl ?_
  refine gs_push (x := 2) hk_266 rfl (by decide) rfl ?_
  refine gs_bin (z := Int32.ofNat (i + 2)) hk_266 rfl la_add rfl ?_
  refine gs_sald (z := (i + 2)) (x := a2) hk_266 rfl (by omega) hl ha2 rfl ?_
  refine gs_aload hk_266 rfl rfl rfl ?_
  refine gs_iload hk_266 rfl rfl rfl ?_
  refine gs_push (x := 3) hk_266 rfl (by decide) rfl ?_
  refine gs_bin (z := Int32.ofNat (i + 3)) hk_266 rfl la_add rfl ?_
  refine gs_sald (z := (i + 3)) (x := a3) hk_266 rfl (by omega) hl ha3 rfl ?_
  refine gs_aload hk_266 rfl rfl rfl ?_
  refine gs_call (as := [.ref (0 + 1), .int a1, .int a2, .int a3, .ref (1133 + 1)]) (rest := []) hk_266 rfl (Or.inr (Or.inr (Or.inl rfl))) rfl rfl rfl (Nat.not_lt.mpr (Nat.le_of_ble_eq_true rfl)) (e_up g1 (by decide : 300 ≤ 399)) rfl ?_
  refine gs_istore (L2 := [.ref 0, .ref (0 + 1), .ref (1076 + 1), .ref (1133 + 1), .int (Int32.ofNat i), .int 1, u6]) hk_266 rfl (Nat.le_of_ble_eq_true rfl) rfl rfl ?_
  refine gs_aload hk_266 rfl rfl rfl ?_
  refine gs_aload hk_266 rfl rfl rfl ?_
  refine gs_iload hk_266 rfl rfl rfl ?_
  refine gs_push (x := 1) hk_266 rfl (by decide) rfl ?_
  refine gs_bin (z := Int32.ofNat (i + 1)) hk_266 rfl la_add rfl ?_
  refine gs_sald (z := (i + 1)) (x := a1) hk_266 rfl (by omega) hl ha1 rfl ?_
  refine gs_aload hk_266 rfl rfl rfl ?_
  refine gs_iload hk_266 rfl rfl rfl ?_
  refine gs_push (x := 2) hk_266 rfl (by decide) rfl ?_
  refine gs_bin (z := Int32.ofNat (i + 2)) hk_266 rfl la_add rfl ?_
  refine gs_sald (z := (i + 2)) (x := a2) hk_266 rfl (by omega) hl ha2 rfl ?_
  refine gs_aload hk_266 rfl rfl rfl ?_
  refine gs_iload hk_266 rfl rfl rfl ?_
  refine gs_push (x := 3) hk_266 rfl (by decide) rfl ?_
  refine gs_bin (z := Int32.ofNat (i + 3)) hk_266 rfl la_add rfl ?_
  refine gs_sald (z := (i + 3)) (x := a3) hk_266 rfl (by omega) hl ha3 rfl ?_
  refine gs_call (as := [.ref (1076 + 1), .int a1, .int a2, .int a3]) (rest := []) hk_266 rfl (Or.inr (Or.inr (Or.inr ⟨Or.inl rfl, la_rcv la_1076⟩))) rfl rfl rfl (Nat.not_lt.mpr (Nat.le_of_ble_eq_true rfl)) (e_up g2 (by decide : 14 ≤ 399)) rfl ?_
  refine gs_istore (L2 := [.ref 0, .ref (0 + 1), .ref (1076 + 1), .ref (1133 + 1), .int (Int32.ofNat i), .int 1, .int v]) hk_266 rfl (Nat.le_of_ble_eq_true rfl) rfl rfl ?_
  refine gs_aload hk_266 rfl rfl rfl ?_
  refine gs_call (as := [.ref (1076 + 1)]) (rest := []) hk_266 rfl (Or.inr (Or.inr (Or.inr ⟨Or.inl rfl, la_rcv la_1076⟩))) rfl rfl rfl (Nat.not_lt.mpr (Nat.le_of_ble_eq_true rfl)) (e_up g3 (by decide : 0 ≤ 399)) rfl ?_
  refine gs_iload hk_266 rfl rfl rfl ?_
  refine gs_icT hk_266 rfl (jc_T0 rfl) ?_
  refine gs_iload hk_266 rfl rfl rfl ?_
  refine gs_ifT hk_266 rfl rfl ?_
  refine gs_goto hk_266 rfl ?_
  refine gs_iinc (y := Int32.ofNat (i + 4)) (L2 := [.ref 0, .ref (0 + 1), .ref (1076 + 1), .ref (1133 + 1), .int (Int32.ofNat (i + 4)), .int 1, .int v]) hk_266 rfl rfl (Option.some.inj la_add) rfl rfl ?_
  refine gs_goto hk_266 rfl ?_
  exact hm
set_option maxRecDepth 20000 in
theorem la_c3_x0 {X : List Int32} {n i : Nat} {h h1 h2 : Hp} {a1 a2 a3 v : Int32} (hi : i + 4 ≤ X.length) (hl : X.length ≤ 2048) (hop : X.getD i 0 &&& 31 = 3) (ha1 : X.getD (i + 1) 0 = a1) (ha2 : X.getD (i + 2) 0 = a2) (ha3 : X.getD (i + 3) 0 = a3) (hC : p_100 h a1 a2 a3 = some (.inr 0, h1)) (hM : p_168 (h1) a1 a2 a3 = some (v, h2)) (hT : v_145 h2 = 2) (hK : la_at X n (i + 4) h2) : la_at X (n + 1) i h := by
  intro ca cb ce u5 u6
  obtain ⟨e1, g1⟩ := lw_250_x0 (X := X) hC ca cb ce
  obtain ⟨e2, g2⟩ := p_168_ok (X := X) hM (ca + 1) (cb + 6) e1
  obtain ⟨e3, g3⟩ := v_145_ok (X := X) (h := h2) (ca + 1) (cb + 6) e2
  rw [hT] at g3
  obtain ⟨m, hm, hc1, hc2⟩ := hK (ca + 1) (cb + 6) e3 (.int 2) (.int v)
  refine ⟨m, ?_, by omega, by omega⟩
  show j_Go X (399 + 1) 266 (13, [.ref 0, .ref (0 + 1), .ref (1076 + 1), .ref (1133 + 1), .int (Int32.ofNat i), u5, u6], []) _ _
  refine gs_iload hk_266 rfl rfl rfl ?_
  refine gs_aload hk_266 rfl rfl rfl ?_
  refine gs_alen hk_266 rfl rfl ?_
  refine gs_push (x := 4) hk_266 rfl (by decide) rfl ?_
  refine gs_bin (z := Int32.ofNat X.length - 4) hk_266 rfl rfl rfl ?_
  refine gs_icF hk_266 rfl (la_goF hi hl) rfl ?_
  refine gs_aload hk_266 rfl rfl rfl ?_
  refine gs_iload hk_266 rfl rfl rfl ?_
  refine gs_sald (z := i) (x := X.getD i 0) hk_266 rfl (by omega) hl rfl rfl ?_
  refine gs_push (x := 31) hk_266 rfl (by decide) rfl ?_
  refine gs_bin (z := 3) hk_266 rfl (la_sw hop) rfl ?_
  refine gs_sw (j := 162) hk_266 rfl rfl ?_
  refine gs_aload hk_266 rfl rfl rfl ?_
  refine gs_aload hk_266 rfl rfl rfl ?_
  refine gs_iload hk_266 rfl rfl rfl ?_
  refine gs_push (x := 1) hk_266 rfl (by decide) rfl ?_
  refine gs_bin (z := Int32.ofNat (i + 1)) hk_266 rfl la_add rfl ?_
  refine gs_sald (z := (i + 1)) (x := a1) hk_266 rfl (by omega) hl ha1 rfl ?_
  refine gs_aload hk_266 rfl rfl rfl ?_
  refine gs_iload hk_266 rfl rfl rfl ?_
  refine gs_push (x := 2) hk_266 rfl (by decide) rfl ?_
  refine gs_bin (z := Int32.ofNat (i + 2)) hk_266 rfl la_add rfl ?_
  refine gs_sald (z := (i + 2)) (x := a2) hk_266 rfl (by omega) hl ha2 rfl ?_
  refine gs_aload hk_266 rfl rfl rfl ?_
  refine gs_iload hk_266 rfl rfl rfl ?_
  refine gs_push (x := 3) hk_266 rfl (by decide) rfl ?_
  refine gs_bin (z := Int32.ofNat (i + 3)) hk_266 rfl la_add rfl ?_
  refine gs_sald (z := (i + 3)) (x := a3) hk_266 rfl (by omega) hl ha3 rfl ?_
  refine gs_aload hk_266 rfl rfl rfl ?_
  refine gs_call (as := [.ref (0 + 1), .int a1, .int a2, .int a3, .ref (1133 + 1)]) (rest := []) hk_266 rfl (Or.inr (Or.inr (Or.inl rfl))) rfl rfl rfl (Nat.not_lt.mpr (Nat.le_of_ble_eq_true rfl)) (e_up g1 (by decide : 300 ≤ 399)) rfl ?_
  refine gs_istore (L2 := [.ref 0, .ref (0 + 1), .ref (1076 + 1), .ref (1133 + 1), .int (Int32.ofNat i), .int 2, u6]) hk_266 rfl (Nat.le_of_ble_eq_true rfl) rfl rfl ?_
  refine gs_aload hk_266 rfl rfl rfl ?_
  refine gs_aload hk_266 rfl rfl rfl ?_
  refine gs_iload hk_266 rfl rfl rfl ?_
  refine gs_push (x := 1) hk_266 rfl (by decide) rfl ?_
  refine gs_bin (z := Int32.ofNat (i + 1)) hk_266 rfl la_add rfl ?_
  refine gs_sald (z := (i + 1)) (x := a1) hk_266 rfl (by omega) hl ha1 rfl ?_
  refine gs_aload hk_266 rfl rfl rfl ?_
  refine gs_iload hk_266 rfl rfl rfl ?_
  refine gs_push (x := 2) hk_266 rfl (by decide) rfl ?_
  refine gs_bin (z := Int32.ofNat (i + 2)) hk_266 rfl la_add rfl ?_
  refine gs_sald (z := (i + 2)) (x := a2) hk_266 rfl (by omega) hl ha2 rfl ?_
  refine gs_aload hk_266 rfl rfl rfl ?_
  refine gs_iload hk_266 rfl rfl rfl ?_
  refine gs_push (x := 3) hk_266 rfl (by decide) rfl ?_
  refine gs_bin (z := Int32.ofNat (i + 3)) hk_266 rfl la_add rfl ?_
  refine gs_sald (z := (i + 3)) (x := a3) hk_266 rfl (by omega) hl ha3 rfl ?_
  refine gs_call (as := [.ref (1076 + 1), .int a1, .int a2, .int a3]) (rest := []) hk_266 rfl (Or.inr (Or.inr (Or.inr ⟨Or.inl rfl, la_rcv la_1076⟩))) rfl rfl rfl (Nat.not_lt.mpr (Nat.le_of_ble_eq_true rfl)) (e_up g2 (by decide : 14 ≤ 399)) rfl ?_
  refine gs_istore (L2 := [.ref 0, .ref (0 + 1), .ref (1076 + 1), .ref (1133 + 1), .int (Int32.ofNat i), .int 2, .int v]) hk_266 rfl (Nat.le_of_ble_eq_true rfl) rfl rfl ?_
  refine gs_aload hk_266 rfl rfl rfl ?_
  refine gs_call (as := [.ref (1076 + 1)]) (rest := []) hk_266 rfl (Or.inr (Or.inr (Or.inr ⟨Or.inl rfl, la_rcv la_1076⟩))) rfl rfl rfl (Nat.not_lt.mpr (Nat.le_of_ble_eq_true rfl)) (e_up g3 (by decide : 0 ≤ 399)) rfl ?_
  refine gs_iload hk_266 rfl rfl rfl ?_
  refine gs_icT hk_266 rfl (jc_T0 rfl) ?_
  refine gs_iload hk_266 rfl rfl rfl ?_
  refine gs_ifT hk_266 rfl rfl ?_
  refine gs_goto hk_266 rfl ?_
  refine gs_iinc (y := Int32.ofNat (i + 4)) (L2 := [.ref 0, .ref (0 + 1), .ref (1076 + 1), .ref (1133 + 1), .int (Int32.ofNat (i + 4)), .int 2, .int v]) hk_266 rfl rfl (Option.some.inj la_add) rfl rfl ?_
  refine gs_goto hk_266 rfl ?_
  exact hm
set_option maxRecDepth 20000 in
theorem la_c3_x1 {X : List Int32} {n i : Nat} {h h1 h2 : Hp} {a1 a2 a3 v : Int32} (hi : i + 4 ≤ X.length) (hl : X.length ≤ 2048) (hop : X.getD i 0 &&& 31 = 3) (ha1 : X.getD (i + 1) 0 = a1) (ha2 : X.getD (i + 2) 0 = a2) (ha3 : X.getD (i + 3) 0 = a3) (hC : p_100 h a1 a2 a3 = some (.inr 1, h1)) (hM : p_168 (h1) a1 a2 a3 = some (v, h2)) (hT : v_145 h2 = 3) (hK : la_at X n (i + 4) h2) : la_at X (n + 1) i h := by
  intro ca cb ce u5 u6
  obtain ⟨e1, g1⟩ := lw_250_x1 (X := X) hC ca cb ce
  obtain ⟨e2, g2⟩ := p_168_ok (X := X) hM (ca + 1) (cb + 6) e1
  obtain ⟨e3, g3⟩ := v_145_ok (X := X) (h := h2) (ca + 1) (cb + 6) e2
  rw [hT] at g3
  obtain ⟨m, hm, hc1, hc2⟩ := hK (ca + 1) (cb + 6) e3 (.int 3) (.int v)
  refine ⟨m, ?_, by omega, by omega⟩
  show j_Go X (399 + 1) 266 (13, [.ref 0, .ref (0 + 1), .ref (1076 + 1), .ref (1133 + 1), .int (Int32.ofNat i), u5, u6], []) _ _
  refine gs_iload hk_266 rfl rfl rfl ?_
  refine gs_aload hk_266 rfl rfl rfl ?_
  refine gs_alen hk_266 rfl rfl ?_
  refine gs_push (x := 4) hk_266 rfl (by decide) rfl ?_
  refine gs_bin (z := Int32.ofNat X.length - 4) hk_266 rfl rfl rfl ?_
  refine gs_icF hk_266 rfl (la_goF hi hl) rfl ?_
  refine gs_aload hk_266 rfl rfl rfl ?_
  refine gs_iload hk_266 rfl rfl rfl ?_
  refine gs_sald (z := i) (x := X.getD i 0) hk_266 rfl (by omega) hl rfl rfl ?_
  refine gs_push (x := 31) hk_266 rfl (by decide) rfl ?_
  refine gs_bin (z := 3) hk_266 rfl (la_sw hop) rfl ?_
  refine gs_sw (j := 162) hk_266 rfl rfl ?_
  refine gs_aload hk_266 rfl rfl rfl ?_
  refine gs_aload hk_266 rfl rfl rfl ?_
  refine gs_iload hk_266 rfl rfl rfl ?_
  refine gs_push (x := 1) hk_266 rfl (by decide) rfl ?_
  refine gs_bin (z := Int32.ofNat (i + 1)) hk_266 rfl la_add rfl ?_
  refine gs_sald (z := (i + 1)) (x := a1) hk_266 rfl (by omega) hl ha1 rfl ?_
  refine gs_aload hk_266 rfl rfl rfl ?_
  refine gs_iload hk_266 rfl rfl rfl ?_
  refine gs_push (x := 2) hk_266 rfl (by decide) rfl ?_
  refine gs_bin (z := Int32.ofNat (i + 2)) hk_266 rfl la_add rfl ?_
  refine gs_sald (z := (i + 2)) (x := a2) hk_266 rfl (by omega) hl ha2 rfl ?_
  refine gs_aload hk_266 rfl rfl rfl ?_
  refine gs_iload hk_266 rfl rfl rfl ?_
  refine gs_push (x := 3) hk_266 rfl (by decide) rfl ?_
  refine gs_bin (z := Int32.ofNat (i + 3)) hk_266 rfl la_add rfl ?_
  refine gs_sald (z := (i + 3)) (x := a3) hk_266 rfl (by omega) hl ha3 rfl ?_
  refine gs_aload hk_266 rfl rfl rfl ?_
  refine gs_call (as := [.ref (0 + 1), .int a1, .int a2, .int a3, .ref (1133 + 1)]) (rest := []) hk_266 rfl (Or.inr (Or.inr (Or.inl rfl))) rfl rfl rfl (Nat.not_lt.mpr (Nat.le_of_ble_eq_true rfl)) (e_up g1 (by decide : 300 ≤ 399)) rfl ?_
  refine gs_istore (L2 := [.ref 0, .ref (0 + 1), .ref (1076 + 1), .ref (1133 + 1), .int (Int32.ofNat i), .int 3, u6]) hk_266 rfl (Nat.le_of_ble_eq_true rfl) rfl rfl ?_
  refine gs_aload hk_266 rfl rfl rfl ?_
  refine gs_aload hk_266 rfl rfl rfl ?_
  refine gs_iload hk_266 rfl rfl rfl ?_
  refine gs_push (x := 1) hk_266 rfl (by decide) rfl ?_
  refine gs_bin (z := Int32.ofNat (i + 1)) hk_266 rfl la_add rfl ?_
  refine gs_sald (z := (i + 1)) (x := a1) hk_266 rfl (by omega) hl ha1 rfl ?_
  refine gs_aload hk_266 rfl rfl rfl ?_
  refine gs_iload hk_266 rfl rfl rfl ?_
  refine gs_push (x := 2) hk_266 rfl (by decide) rfl ?_
  refine gs_bin (z := Int32.ofNat (i + 2)) hk_266 rfl la_add rfl ?_
  refine gs_sald (z := (i + 2)) (x := a2) hk_266 rfl (by omega) hl ha2 rfl ?_
  refine gs_aload hk_266 rfl rfl rfl ?_
  refine gs_iload hk_266 rfl rfl rfl ?_
  refine gs_push (x := 3) hk_266 rfl (by decide) rfl ?_
  refine gs_bin (z := Int32.ofNat (i + 3)) hk_266 rfl la_add rfl ?_
  refine gs_sald (z := (i + 3)) (x := a3) hk_266 rfl (by omega) hl ha3 rfl ?_
  refine gs_call (as := [.ref (1076 + 1), .int a1, .int a2, .int a3]) (rest := []) hk_266 rfl (Or.inr (Or.inr (Or.inr ⟨Or.inl rfl, la_rcv la_1076⟩))) rfl rfl rfl (Nat.not_lt.mpr (Nat.le_of_ble_eq_true rfl)) (e_up g2 (by decide : 14 ≤ 399)) rfl ?_
  refine gs_istore (L2 := [.ref 0, .ref (0 + 1), .ref (1076 + 1), .ref (1133 + 1), .int (Int32.ofNat i), .int 3, .int v]) hk_266 rfl (Nat.le_of_ble_eq_true rfl) rfl rfl ?_
  refine gs_aload hk_266 rfl rfl rfl ?_
  refine gs_call (as := [.ref (1076 + 1)]) (rest := []) hk_266 rfl (Or.inr (Or.inr (Or.inr ⟨Or.inl rfl, la_rcv la_1076⟩))) rfl rfl rfl (Nat.not_lt.mpr (Nat.le_of_ble_eq_true rfl)) (e_up g3 (by decide : 0 ≤ 399)) rfl ?_
  refine gs_iload hk_266 rfl rfl rfl ?_
  refine gs_icT hk_266 rfl (jc_T0 rfl) ?_
  refine gs_iload hk_266 rfl rfl rfl ?_
  refine gs_ifT hk_266 rfl rfl ?_
  refine gs_goto hk_266 rfl ?_
  refine gs_iinc (y := Int32.ofNat (i + 4)) (L2 := [.ref 0, .ref (0 + 1), .ref (1076 + 1), .ref (1133 + 1), .int (Int32.ofNat (i + 4)), .int 3, .int v]) hk_266 rfl rfl (Option.some.inj la_add) rfl rfl ?_
  refine gs_goto hk_266 rfl ?_
  exact hm
set_option maxRecDepth 20000 in
theorem la_c4_n {X : List Int32} {n i : Nat} {h h1 h2 : Hp} {a1 v : Int32} (hi : i + 4 ≤ X.length) (hl : X.length ≤ 2048) (hop : X.getD i 0 &&& 31 = 4) (ha1 : X.getD (i + 1) 0 = a1) (hC : p_101 h a1 = some (.inl v, h1)) (hM : p_169 (w_up h1 1133 0 v) a1 = some (v, h2)) (hT : v_145 h2 = 0) (hO : h2 1133 0 = v) (hK : la_at X n (i + 4) h2) : la_at X (n + 1) i h := by
  intro ca cb ce u5 u6
  obtain ⟨e1, g1⟩ := lw_251_n (X := X) hC ca cb ce
  obtain ⟨e2, g2⟩ := p_169_ok (X := X) hM ca cb e1
  obtain ⟨e3, g3⟩ := v_145_ok (X := X) (h := h2) ca cb e2
  rw [hT] at g3
  obtain ⟨m, hm, hc1, hc2⟩ := hK ca cb e3 (.int 0) (.int v)
  refine ⟨m, ?_, by omega, by omega⟩
  show j_Go X (399 + 1) 266 (13, [.ref 0, .ref (0 + 1), .ref (1076 + 1), .ref (1133 + 1), .int (Int32.ofNat i), u5, u6], []) _ _
  refine gs_iload hk_266 rfl rfl rfl ?_
  refine gs_aload hk_266 rfl rfl rfl ?_
  refine gs_alen hk_266 rfl rfl ?_
  refine gs_push (x := 4) hk_266 rfl (by decide) rfl ?_
  refine gs_bin (z := Int32.ofNat X.length - 4) hk_266 rfl rfl rfl ?_
  refine gs_icF hk_266 rfl (la_goF hi hl) rfl ?_
  refine gs_aload hk_266 rfl rfl rfl ?_
  refine gs_iload hk_266 rfl rfl rfl ?_
  refine gs_sald (z := i) (x := X.getD i 0) hk_266 rfl (by omega) hl rfl rfl ?_
  refine gs_push (x := 31) hk_266 rfl (by decide) rfl ?_
  refine gs_bin (z := 4) hk_266 rfl (la_sw hop) rfl ?_
  refine gs_sw (j := 217) hk_266 rfl rfl ?_
  refine gs_aload hk_266 rfl rfl rfl ?_
  refine gs_aload hk_266 rfl rfl rfl ?_
  refine gs_iload hk_266 rfl rfl rfl ?_
  refine gs_push (x := 1) hk_266 rfl (by decide) rfl ?_
  refine gs_bin (z := Int32.ofNat (i + 1)) hk_266 rfl la_add rfl ?_
  refine gs_sald (z := (i + 1)) (x := a1) hk_266 rfl (by omega) hl ha1 rfl ?_
  refine gs_aload hk_266 rfl rfl rfl ?_
  refine gs_call (as := [.ref (0 + 1), .int a1, .ref (1133 + 1)]) (rest := []) hk_266 rfl (Or.inr (Or.inr (Or.inl rfl))) rfl rfl rfl (Nat.not_lt.mpr (Nat.le_of_ble_eq_true rfl)) (e_up g1 (by decide : 300 ≤ 399)) rfl ?_
  refine gs_istore (L2 := [.ref 0, .ref (0 + 1), .ref (1076 + 1), .ref (1133 + 1), .int (Int32.ofNat i), .int 0, u6]) hk_266 rfl (Nat.le_of_ble_eq_true rfl) rfl rfl ?_
  refine gs_aload hk_266 rfl rfl rfl ?_
  refine gs_aload hk_266 rfl rfl rfl ?_
  refine gs_iload hk_266 rfl rfl rfl ?_
  refine gs_push (x := 1) hk_266 rfl (by decide) rfl ?_
  refine gs_bin (z := Int32.ofNat (i + 1)) hk_266 rfl la_add rfl ?_
  refine gs_sald (z := (i + 1)) (x := a1) hk_266 rfl (by omega) hl ha1 rfl ?_
  refine gs_call (as := [.ref (1076 + 1), .int a1]) (rest := []) hk_266 rfl (Or.inr (Or.inr (Or.inr ⟨Or.inl rfl, la_rcv la_1076⟩))) rfl rfl rfl (Nat.not_lt.mpr (Nat.le_of_ble_eq_true rfl)) (e_up g2 (by decide : 14 ≤ 399)) rfl ?_
  refine gs_istore (L2 := [.ref 0, .ref (0 + 1), .ref (1076 + 1), .ref (1133 + 1), .int (Int32.ofNat i), .int 0, .int v]) hk_266 rfl (Nat.le_of_ble_eq_true rfl) rfl rfl ?_
  refine gs_aload hk_266 rfl rfl rfl ?_
  refine gs_call (as := [.ref (1076 + 1)]) (rest := []) hk_266 rfl (Or.inr (Or.inr (Or.inr ⟨Or.inl rfl, la_rcv la_1076⟩))) rfl rfl rfl (Nat.not_lt.mpr (Nat.le_of_ble_eq_true rfl)) (e_up g3 (by decide : 0 ≤ 399)) rfl ?_
  refine gs_iload hk_266 rfl rfl rfl ?_
  refine gs_icT hk_266 rfl (jc_T0 rfl) ?_
  refine gs_iload hk_266 rfl rfl rfl ?_
  refine gs_ifF hk_266 rfl rfl rfl ?_
  refine gs_aload hk_266 rfl rfl rfl ?_
  refine gs_push (x := 0) hk_266 rfl (by decide) rfl ?_
  refine gs_lald (y := (v).toInt64) hk_266 rfl (by show (h2 1133 0).toInt64 = _; rw [hO]) rfl ?_
  refine gs_iload hk_266 rfl rfl rfl ?_
  refine gs_i2l hk_266 rfl rfl ?_
  refine gs_lcmp hk_266 rfl rfl ?_
  refine gs_ifT hk_266 rfl rfl ?_
  refine gs_goto hk_266 rfl ?_
  refine gs_iinc (y := Int32.ofNat (i + 4)) (L2 := [.ref 0, .ref (0 + 1), .ref (1076 + 1), .ref (1133 + 1), .int (Int32.ofNat (i + 4)), .int 0, .int v]) hk_266 rfl rfl (Option.some.inj la_add) rfl rfl ?_
  refine gs_goto hk_266 rfl ?_
  exact hm
set_option maxRecDepth 20000 in
theorem la_c4_x0 {X : List Int32} {n i : Nat} {h h1 h2 : Hp} {a1 v : Int32} (hi : i + 4 ≤ X.length) (hl : X.length ≤ 2048) (hop : X.getD i 0 &&& 31 = 4) (ha1 : X.getD (i + 1) 0 = a1) (hC : p_101 h a1 = some (.inr 0, h1)) (hM : p_169 (h1) a1 = some (v, h2)) (hT : v_145 h2 = 1) (hK : la_at X n (i + 4) h2) : la_at X (n + 1) i h := by
  intro ca cb ce u5 u6
  obtain ⟨e1, g1⟩ := lw_251_x0 (X := X) hC ca cb ce
  obtain ⟨e2, g2⟩ := p_169_ok (X := X) hM (ca + 1) (cb + 6) e1
  obtain ⟨e3, g3⟩ := v_145_ok (X := X) (h := h2) (ca + 1) (cb + 6) e2
  rw [hT] at g3
  obtain ⟨m, hm, hc1, hc2⟩ := hK (ca + 1) (cb + 6) e3 (.int 1) (.int v)
  refine ⟨m, ?_, by omega, by omega⟩
  show j_Go X (399 + 1) 266 (13, [.ref 0, .ref (0 + 1), .ref (1076 + 1), .ref (1133 + 1), .int (Int32.ofNat i), u5, u6], []) _ _
  refine gs_iload hk_266 rfl rfl rfl ?_
  refine gs_aload hk_266 rfl rfl rfl ?_
  refine gs_alen hk_266 rfl rfl ?_
  refine gs_push (x := 4) hk_266 rfl (by decide) rfl ?_
  refine gs_bin (z := Int32.ofNat X.length - 4) hk_266 rfl rfl rfl ?_
  refine gs_icF hk_266 rfl (la_goF hi hl) rfl ?_
  refine gs_aload hk_266 rfl rfl rfl ?_
  refine gs_iload hk_266 rfl rfl rfl ?_
  refine gs_sald (z := i) (x := X.getD i 0) hk_266 rfl (by omega) hl rfl rfl ?_
  refine gs_push (x := 31) hk_266 rfl (by decide) rfl ?_
  refine gs_bin (z := 4) hk_266 rfl (la_sw hop) rfl ?_
  refine gs_sw (j := 217) hk_266 rfl rfl ?_
  refine gs_aload hk_266 rfl rfl rfl ?_
  refine gs_aload hk_266 rfl rfl rfl ?_
  refine gs_iload hk_266 rfl rfl rfl ?_
  refine gs_push (x := 1) hk_266 rfl (by decide) rfl ?_
  refine gs_bin (z := Int32.ofNat (i + 1)) hk_266 rfl la_add rfl ?_
  refine gs_sald (z := (i + 1)) (x := a1) hk_266 rfl (by omega) hl ha1 rfl ?_
  refine gs_aload hk_266 rfl rfl rfl ?_
  refine gs_call (as := [.ref (0 + 1), .int a1, .ref (1133 + 1)]) (rest := []) hk_266 rfl (Or.inr (Or.inr (Or.inl rfl))) rfl rfl rfl (Nat.not_lt.mpr (Nat.le_of_ble_eq_true rfl)) (e_up g1 (by decide : 300 ≤ 399)) rfl ?_
  refine gs_istore (L2 := [.ref 0, .ref (0 + 1), .ref (1076 + 1), .ref (1133 + 1), .int (Int32.ofNat i), .int 1, u6]) hk_266 rfl (Nat.le_of_ble_eq_true rfl) rfl rfl ?_
  refine gs_aload hk_266 rfl rfl rfl ?_
  refine gs_aload hk_266 rfl rfl rfl ?_
  refine gs_iload hk_266 rfl rfl rfl ?_
  refine gs_push (x := 1) hk_266 rfl (by decide) rfl ?_
  refine gs_bin (z := Int32.ofNat (i + 1)) hk_266 rfl la_add rfl ?_
  refine gs_sald (z := (i + 1)) (x := a1) hk_266 rfl (by omega) hl ha1 rfl ?_
  refine gs_call (as := [.ref (1076 + 1), .int a1]) (rest := []) hk_266 rfl (Or.inr (Or.inr (Or.inr ⟨Or.inl rfl, la_rcv la_1076⟩))) rfl rfl rfl (Nat.not_lt.mpr (Nat.le_of_ble_eq_true rfl)) (e_up g2 (by decide : 14 ≤ 399)) rfl ?_
  refine gs_istore (L2 := [.ref 0, .ref (0 + 1), .ref (1076 + 1), .ref (1133 + 1), .int (Int32.ofNat i), .int 1, .int v]) hk_266 rfl (Nat.le_of_ble_eq_true rfl) rfl rfl ?_
  refine gs_aload hk_266 rfl rfl rfl ?_
  refine gs_call (as := [.ref (1076 + 1)]) (rest := []) hk_266 rfl (Or.inr (Or.inr (Or.inr ⟨Or.inl rfl, la_rcv la_1076⟩))) rfl rfl rfl (Nat.not_lt.mpr (Nat.le_of_ble_eq_true rfl)) (e_up g3 (by decide : 0 ≤ 399)) rfl ?_
  refine gs_iload hk_266 rfl rfl rfl ?_
  refine gs_icT hk_266 rfl (jc_T0 rfl) ?_
  refine gs_iload hk_266 rfl rfl rfl ?_
  refine gs_ifT hk_266 rfl rfl ?_
  refine gs_goto hk_266 rfl ?_
  refine gs_iinc (y := Int32.ofNat (i + 4)) (L2 := [.ref 0, .ref (0 + 1), .ref (1076 + 1), .ref (1133 + 1), .int (Int32.ofNat (i + 4)), .int 1, .int v]) hk_266 rfl rfl (Option.some.inj la_add) rfl rfl ?_
  refine gs_goto hk_266 rfl ?_
  exact hm
set_option maxRecDepth 20000 in
theorem la_c5_n {X : List Int32} {n i : Nat} {h h1 h2 : Hp} {a1 a2 a3 v : Int32} (hi : i + 4 ≤ X.length) (hl : X.length ≤ 2048) (hop : X.getD i 0 &&& 31 = 5) (ha1 : X.getD (i + 1) 0 = a1) (ha2 : X.getD (i + 2) 0 = a2) (ha3 : X.getD (i + 3) 0 = a3) (hC : p_102 h (la_i2c a1) a2 a3 = some (.inl v, h1)) (hM : p_171 (w_up h1 1133 0 v) (la_i2c a1) a2 a3 = some (v, h2)) (hT : v_145 h2 = 0) (hO : h2 1133 0 = v) (hK : la_at X n (i + 4) h2) : la_at X (n + 1) i h := by
  intro ca cb ce u5 u6
  obtain ⟨e1, g1⟩ := lw_252_n (X := X) hC ca cb ce
  obtain ⟨e2, g2⟩ := p_171_ok (X := X) hM ca cb e1
  obtain ⟨e3, g3⟩ := v_145_ok (X := X) (h := h2) ca cb e2
  rw [hT] at g3
  obtain ⟨m, hm, hc1, hc2⟩ := hK ca cb e3 (.int 0) (.int v)
  refine ⟨m, ?_, by omega, by omega⟩
  show j_Go X (399 + 1) 266 (13, [.ref 0, .ref (0 + 1), .ref (1076 + 1), .ref (1133 + 1), .int (Int32.ofNat i), u5, u6], []) _ _
  refine gs_iload hk_266 rfl rfl rfl ?_
  refine gs_aload hk_266 rfl rfl rfl ?_
  refine gs_alen hk_266 rfl rfl ?_
  refine gs_push (x := 4) hk_266 rfl (by decide) rfl ?_
  refine gs_bin (z := Int32.ofNat X.length - 4) hk_266 rfl rfl rfl ?_
  refine gs_icF hk_266 rfl (la_goF hi hl) rfl ?_
  refine gs_aload hk_266 rfl rfl rfl ?_
  refine gs_iload hk_266 rfl rfl rfl ?_
  refine gs_sald (z := i) (x := X.getD i 0) hk_266 rfl (by omega) hl rfl rfl ?_
  refine gs_push (x := 31) hk_266 rfl (by decide) rfl ?_
  refine gs_bin (z := 5) hk_266 rfl (la_sw hop) rfl ?_
  refine gs_sw (j := 252) hk_266 rfl rfl ?_
  refine gs_aload hk_266 rfl rfl rfl ?_
  refine gs_aload hk_266 rfl rfl rfl ?_
  refine gs_iload hk_266 rfl rfl rfl ?_
  refine gs_push (x := 1) hk_266 rfl (by decide) rfl ?_
  refine gs_bin (z := Int32.ofNat (i + 1)) hk_266 rfl la_add rfl ?_
  refine gs_sald (z := (i + 1)) (x := a1) hk_266 rfl (by omega) hl ha1 rfl ?_
  refine gs_un (z := la_i2c a1) hk_266 rfl rfl rfl ?_
  refine gs_aload hk_266 rfl rfl rfl ?_
  refine gs_iload hk_266 rfl rfl rfl ?_
  refine gs_push (x := 2) hk_266 rfl (by decide) rfl ?_
  refine gs_bin (z := Int32.ofNat (i + 2)) hk_266 rfl la_add rfl ?_
  refine gs_sald (z := (i + 2)) (x := a2) hk_266 rfl (by omega) hl ha2 rfl ?_
  refine gs_aload hk_266 rfl rfl rfl ?_
  refine gs_iload hk_266 rfl rfl rfl ?_
  refine gs_push (x := 3) hk_266 rfl (by decide) rfl ?_
  refine gs_bin (z := Int32.ofNat (i + 3)) hk_266 rfl la_add rfl ?_
  refine gs_sald (z := (i + 3)) (x := a3) hk_266 rfl (by omega) hl ha3 rfl ?_
  refine gs_aload hk_266 rfl rfl rfl ?_
  refine gs_call (as := [.ref (0 + 1), .int (la_i2c a1), .int a2, .int a3, .ref (1133 + 1)]) (rest := []) hk_266 rfl (Or.inr (Or.inr (Or.inl rfl))) rfl rfl rfl (Nat.not_lt.mpr (Nat.le_of_ble_eq_true rfl)) (e_up g1 (by decide : 300 ≤ 399)) rfl ?_
  refine gs_istore (L2 := [.ref 0, .ref (0 + 1), .ref (1076 + 1), .ref (1133 + 1), .int (Int32.ofNat i), .int 0, u6]) hk_266 rfl (Nat.le_of_ble_eq_true rfl) rfl rfl ?_
  refine gs_aload hk_266 rfl rfl rfl ?_
  refine gs_aload hk_266 rfl rfl rfl ?_
  refine gs_iload hk_266 rfl rfl rfl ?_
  refine gs_push (x := 1) hk_266 rfl (by decide) rfl ?_
  refine gs_bin (z := Int32.ofNat (i + 1)) hk_266 rfl la_add rfl ?_
  refine gs_sald (z := (i + 1)) (x := a1) hk_266 rfl (by omega) hl ha1 rfl ?_
  refine gs_un (z := la_i2c a1) hk_266 rfl rfl rfl ?_
  refine gs_aload hk_266 rfl rfl rfl ?_
  refine gs_iload hk_266 rfl rfl rfl ?_
  refine gs_push (x := 2) hk_266 rfl (by decide) rfl ?_
  refine gs_bin (z := Int32.ofNat (i + 2)) hk_266 rfl la_add rfl ?_
  refine gs_sald (z := (i + 2)) (x := a2) hk_266 rfl (by omega) hl ha2 rfl ?_
  refine gs_aload hk_266 rfl rfl rfl ?_
  refine gs_iload hk_266 rfl rfl rfl ?_
  refine gs_push (x := 3) hk_266 rfl (by decide) rfl ?_
  refine gs_bin (z := Int32.ofNat (i + 3)) hk_266 rfl la_add rfl ?_
  refine gs_sald (z := (i + 3)) (x := a3) hk_266 rfl (by omega) hl ha3 rfl ?_
  refine gs_call (as := [.ref (1076 + 1), .int (la_i2c a1), .int a2, .int a3]) (rest := []) hk_266 rfl (Or.inr (Or.inr (Or.inr ⟨Or.inl rfl, la_rcv la_1076⟩))) rfl rfl rfl (Nat.not_lt.mpr (Nat.le_of_ble_eq_true rfl)) (e_up g2 (by decide : 14 ≤ 399)) rfl ?_
  refine gs_istore (L2 := [.ref 0, .ref (0 + 1), .ref (1076 + 1), .ref (1133 + 1), .int (Int32.ofNat i), .int 0, .int v]) hk_266 rfl (Nat.le_of_ble_eq_true rfl) rfl rfl ?_
  refine gs_aload hk_266 rfl rfl rfl ?_
  refine gs_call (as := [.ref (1076 + 1)]) (rest := []) hk_266 rfl (Or.inr (Or.inr (Or.inr ⟨Or.inl rfl, la_rcv la_1076⟩))) rfl rfl rfl (Nat.not_lt.mpr (Nat.le_of_ble_eq_true rfl)) (e_up g3 (by decide : 0 ≤ 399)) rfl ?_
  refine gs_iload hk_266 rfl rfl rfl ?_
  refine gs_icT hk_266 rfl (jc_T0 rfl) ?_
  refine gs_iload hk_266 rfl rfl rfl ?_
  refine gs_ifF hk_266 rfl rfl rfl ?_
  refine gs_aload hk_266 rfl rfl rfl ?_
  refine gs_push (x := 0) hk_266 rfl (by decide) rfl ?_
  refine gs_lald (y := (v).toInt64) hk_266 rfl (by show (h2 1133 0).toInt64 = _; rw [hO]) rfl ?_
  refine gs_iload hk_266 rfl rfl rfl ?_
  refine gs_i2l hk_266 rfl rfl ?_
  refine gs_lcmp hk_266 rfl rfl ?_
  refine gs_ifT hk_266 rfl rfl ?_
  refine gs_goto hk_266 rfl ?_
  refine gs_iinc (y := Int32.ofNat (i + 4)) (L2 := [.ref 0, .ref (0 + 1), .ref (1076 + 1), .ref (1133 + 1), .int (Int32.ofNat (i + 4)), .int 0, .int v]) hk_266 rfl rfl (Option.some.inj la_add) rfl rfl ?_
  refine gs_goto hk_266 rfl ?_
  exact hm
set_option maxRecDepth 20000 in
theorem la_c5_x0 {X : List Int32} {n i : Nat} {h h1 h2 : Hp} {a1 a2 a3 v : Int32} (hi : i + 4 ≤ X.length) (hl : X.length ≤ 2048) (hop : X.getD i 0 &&& 31 = 5) (ha1 : X.getD (i + 1) 0 = a1) (ha2 : X.getD (i + 2) 0 = a2) (ha3 : X.getD (i + 3) 0 = a3) (hC : p_102 h (la_i2c a1) a2 a3 = some (.inr 0, h1)) (hM : p_171 (h1) (la_i2c a1) a2 a3 = some (v, h2)) (hT : v_145 h2 = 1) (hK : la_at X n (i + 4) h2) : la_at X (n + 1) i h := by
  intro ca cb ce u5 u6
  obtain ⟨e1, g1⟩ := lw_252_x0 (X := X) hC ca cb ce
  obtain ⟨e2, g2⟩ := p_171_ok (X := X) hM (ca + 1) (cb + 6) e1
  obtain ⟨e3, g3⟩ := v_145_ok (X := X) (h := h2) (ca + 1) (cb + 6) e2
  rw [hT] at g3
  obtain ⟨m, hm, hc1, hc2⟩ := hK (ca + 1) (cb + 6) e3 (.int 1) (.int v)
  refine ⟨m, ?_, by omega, by omega⟩
  show j_Go X (399 + 1) 266 (13, [.ref 0, .ref (0 + 1), .ref (1076 + 1), .ref (1133 + 1), .int (Int32.ofNat i), u5, u6], []) _ _
  refine gs_iload hk_266 rfl rfl rfl ?_
  refine gs_aload hk_266 rfl rfl rfl ?_
  refine gs_alen hk_266 rfl rfl ?_
  refine gs_push (x := 4) hk_266 rfl (by decide) rfl ?_
  refine gs_bin (z := Int32.ofNat X.length - 4) hk_266 rfl rfl rfl ?_
  refine gs_icF hk_266 rfl (la_goF hi hl) rfl ?_
  refine gs_aload hk_266 rfl rfl rfl ?_
  refine gs_iload hk_266 rfl rfl rfl ?_
  refine gs_sald (z := i) (x := X.getD i 0) hk_266 rfl (by omega) hl rfl rfl ?_
  refine gs_push (x := 31) hk_266 rfl (by decide) rfl ?_
  refine gs_bin (z := 5) hk_266 rfl (la_sw hop) rfl ?_
  refine gs_sw (j := 252) hk_266 rfl rfl ?_
  refine gs_aload hk_266 rfl rfl rfl ?_
  refine gs_aload hk_266 rfl rfl rfl ?_
  refine gs_iload hk_266 rfl rfl rfl ?_
  refine gs_push (x := 1) hk_266 rfl (by decide) rfl ?_
  refine gs_bin (z := Int32.ofNat (i + 1)) hk_266 rfl la_add rfl ?_
  refine gs_sald (z := (i + 1)) (x := a1) hk_266 rfl (by omega) hl ha1 rfl ?_
  refine gs_un (z := la_i2c a1) hk_266 rfl rfl rfl ?_
  refine gs_aload hk_266 rfl rfl rfl ?_
  refine gs_iload hk_266 rfl rfl rfl ?_
  refine gs_push (x := 2) hk_266 rfl (by decide) rfl ?_
  refine gs_bin (z := Int32.ofNat (i + 2)) hk_266 rfl la_add rfl ?_
  refine gs_sald (z := (i + 2)) (x := a2) hk_266 rfl (by omega) hl ha2 rfl ?_
  refine gs_aload hk_266 rfl rfl rfl ?_
  refine gs_iload hk_266 rfl rfl rfl ?_
  refine gs_push (x := 3) hk_266 rfl (by decide) rfl ?_
  refine gs_bin (z := Int32.ofNat (i + 3)) hk_266 rfl la_add rfl ?_
  refine gs_sald (z := (i + 3)) (x := a3) hk_266 rfl (by omega) hl ha3 rfl ?_
  refine gs_aload hk_266 rfl rfl rfl ?_
  refine gs_call (as := [.ref (0 + 1), .int (la_i2c a1), .int a2, .int a3, .ref (1133 + 1)]) (rest := []) hk_266 rfl (Or.inr (Or.inr (Or.inl rfl))) rfl rfl rfl (Nat.not_lt.mpr (Nat.le_of_ble_eq_true rfl)) (e_up g1 (by decide : 300 ≤ 399)) rfl ?_
  refine gs_istore (L2 := [.ref 0, .ref (0 + 1), .ref (1076 + 1), .ref (1133 + 1), .int (Int32.ofNat i), .int 1, u6]) hk_266 rfl (Nat.le_of_ble_eq_true rfl) rfl rfl ?_
  refine gs_aload hk_266 rfl rfl rfl ?_
  refine gs_aload hk_266 rfl rfl rfl ?_
  refine gs_iload hk_266 rfl rfl rfl ?_
  refine gs_push (x := 1) hk_266 rfl (by decide) rfl ?_
  refine gs_bin (z := Int32.ofNat (i + 1)) hk_266 rfl la_add rfl ?_
  refine gs_sald (z := (i + 1)) (x := a1) hk_266 rfl (by omega) hl ha1 rfl ?_
  refine gs_un (z := la_i2c a1) hk_266 rfl rfl rfl ?_
  refine gs_aload hk_266 rfl rfl rfl ?_
  refine gs_iload hk_266 rfl rfl rfl ?_
  refine gs_push (x := 2) hk_266 rfl (by decide) rfl ?_
  refine gs_bin (z := Int32.ofNat (i + 2)) hk_266 rfl la_add rfl ?_
  refine gs_sald (z := (i + 2)) (x := a2) hk_266 rfl (by omega) hl ha2 rfl ?_
  refine gs_aload hk_266 rfl rfl rfl ?_
  refine gs_iload hk_266 rfl rfl rfl ?_
  refine gs_push (x := 3) hk_266 rfl (by decide) rfl ?_
  refine gs_bin (z := Int32.ofNat (i + 3)) hk_266 rfl la_add rfl ?_
  refine gs_sald (z := (i + 3)) (x := a3) hk_266 rfl (by omega) hl ha3 rfl ?_
  refine gs_call (as := [.ref (1076 + 1), .int (la_i2c a1), .int a2, .int a3]) (rest := []) hk_266 rfl (Or.inr (Or.inr (Or.inr ⟨Or.inl rfl, la_rcv la_1076⟩))) rfl rfl rfl (Nat.not_lt.mpr (Nat.le_of_ble_eq_true rfl)) (e_up g2 (by decide : 14 ≤ 399)) rfl ?_
  refine gs_istore (L2 := [.ref 0, .ref (0 + 1), .ref (1076 + 1), .ref (1133 + 1), .int (Int32.ofNat i), .int 1, .int v]) hk_266 rfl (Nat.le_of_ble_eq_true rfl) rfl rfl ?_
  refine gs_aload hk_266 rfl rfl rfl ?_
  refine gs_call (as := [.ref (1076 + 1)]) (rest := []) hk_266 rfl (Or.inr (Or.inr (Or.inr ⟨Or.inl rfl, la_rcv la_1076⟩))) rfl rfl rfl (Nat.not_lt.mpr (Nat.le_of_ble_eq_true rfl)) (e_up g3 (by decide : 0 ≤ 399)) rfl ?_
  refine gs_iload hk_266 rfl rfl rfl ?_
  refine gs_icT hk_266 rfl (jc_T0 rfl) ?_
  refine gs_iload hk_266 rfl rfl rfl ?_
  refine gs_ifT hk_266 rfl rfl ?_
  refine gs_goto hk_266 rfl ?_
  refine gs_iinc (y := Int32.ofNat (i + 4)) (L2 := [.ref 0, .ref (0 + 1), .ref (1076 + 1), .ref (1133 + 1), .int (Int32.ofNat (i + 4)), .int 1, .int v]) hk_266 rfl rfl (Option.some.inj la_add) rfl rfl ?_
  refine gs_goto hk_266 rfl ?_
  exact hm
set_option maxRecDepth 20000 in
theorem la_c5_x1 {X : List Int32} {n i : Nat} {h h1 h2 : Hp} {a1 a2 a3 v : Int32} (hi : i + 4 ≤ X.length) (hl : X.length ≤ 2048) (hop : X.getD i 0 &&& 31 = 5) (ha1 : X.getD (i + 1) 0 = a1) (ha2 : X.getD (i + 2) 0 = a2) (ha3 : X.getD (i + 3) 0 = a3) (hC : p_102 h (la_i2c a1) a2 a3 = some (.inr 1, h1)) (hM : p_171 (h1) (la_i2c a1) a2 a3 = some (v, h2)) (hT : v_145 h2 = 2) (hK : la_at X n (i + 4) h2) : la_at X (n + 1) i h := by
  intro ca cb ce u5 u6
  obtain ⟨e1, g1⟩ := lw_252_x1 (X := X) hC ca cb ce
  obtain ⟨e2, g2⟩ := p_171_ok (X := X) hM (ca + 1) (cb + 6) e1
  obtain ⟨e3, g3⟩ := v_145_ok (X := X) (h := h2) (ca + 1) (cb + 6) e2
  rw [hT] at g3
  obtain ⟨m, hm, hc1, hc2⟩ := hK (ca + 1) (cb + 6) e3 (.int 2) (.int v)
  refine ⟨m, ?_, by omega, by omega⟩
  show j_Go X (399 + 1) 266 (13, [.ref 0, .ref (0 + 1), .ref (1076 + 1), .ref (1133 + 1), .int (Int32.ofNat i), u5, u6], []) _ _
  refine gs_iload hk_266 rfl rfl rfl ?_
  refine gs_aload hk_266 rfl rfl rfl ?_
  refine gs_alen hk_266 rfl rfl ?_
  refine gs_push (x := 4) hk_266 rfl (by decide) rfl ?_
  refine gs_bin (z := Int32.ofNat X.length - 4) hk_266 rfl rfl rfl ?_
  refine gs_icF hk_266 rfl (la_goF hi hl) rfl ?_
  refine gs_aload hk_266 rfl rfl rfl ?_
  refine gs_iload hk_266 rfl rfl rfl ?_
  refine gs_sald (z := i) (x := X.getD i 0) hk_266 rfl (by omega) hl rfl rfl ?_
  refine gs_push (x := 31) hk_266 rfl (by decide) rfl ?_
  refine gs_bin (z := 5) hk_266 rfl (la_sw hop) rfl ?_
  refine gs_sw (j := 252) hk_266 rfl rfl ?_
  refine gs_aload hk_266 rfl rfl rfl ?_
  refine gs_aload hk_266 rfl rfl rfl ?_
  refine gs_iload hk_266 rfl rfl rfl ?_
  refine gs_push (x := 1) hk_266 rfl (by decide) rfl ?_
  refine gs_bin (z := Int32.ofNat (i + 1)) hk_266 rfl la_add rfl ?_
  refine gs_sald (z := (i + 1)) (x := a1) hk_266 rfl (by omega) hl ha1 rfl ?_
  refine gs_un (z := la_i2c a1) hk_266 rfl rfl rfl ?_
  refine gs_aload hk_266 rfl rfl rfl ?_
  refine gs_iload hk_266 rfl rfl rfl ?_
  refine gs_push (x := 2) hk_266 rfl (by decide) rfl ?_
  refine gs_bin (z := Int32.ofNat (i + 2)) hk_266 rfl la_add rfl ?_
  refine gs_sald (z := (i + 2)) (x := a2) hk_266 rfl (by omega) hl ha2 rfl ?_
  refine gs_aload hk_266 rfl rfl rfl ?_
  refine gs_iload hk_266 rfl rfl rfl ?_
  refine gs_push (x := 3) hk_266 rfl (by decide) rfl ?_
  refine gs_bin (z := Int32.ofNat (i + 3)) hk_266 rfl la_add rfl ?_
  refine gs_sald (z := (i + 3)) (x := a3) hk_266 rfl (by omega) hl ha3 rfl ?_
  refine gs_aload hk_266 rfl rfl rfl ?_
  refine gs_call (as := [.ref (0 + 1), .int (la_i2c a1), .int a2, .int a3, .ref (1133 + 1)]) (rest := []) hk_266 rfl (Or.inr (Or.inr (Or.inl rfl))) rfl rfl rfl (Nat.not_lt.mpr (Nat.le_of_ble_eq_true rfl)) (e_up g1 (by decide : 300 ≤ 399)) rfl ?_
  refine gs_istore (L2 := [.ref 0, .ref (0 + 1), .ref (1076 + 1), .ref (1133 + 1), .int (Int32.ofNat i), .int 2, u6]) hk_266 rfl (Nat.le_of_ble_eq_true rfl) rfl rfl ?_
  refine gs_aload hk_266 rfl rfl rfl ?_
  refine gs_aload hk_266 rfl rfl rfl ?_
  refine gs_iload hk_266 rfl rfl rfl ?_
  refine gs_push (x := 1) hk_266 rfl (by decide) rfl ?_
  refine gs_bin (z := Int32.ofNat (i + 1)) hk_266 rfl la_add rfl ?_
  refine gs_sald (z := (i + 1)) (x := a1) hk_266 rfl (by omega) hl ha1 rfl ?_
  refine gs_un (z := la_i2c a1) hk_266 rfl rfl rfl ?_
  refine gs_aload hk_266 rfl rfl rfl ?_
  refine gs_iload hk_266 rfl rfl rfl ?_
  refine gs_push (x := 2) hk_266 rfl (by decide) rfl ?_
  refine gs_bin (z := Int32.ofNat (i + 2)) hk_266 rfl la_add rfl ?_
  refine gs_sald (z := (i + 2)) (x := a2) hk_266 rfl (by omega) hl ha2 rfl ?_
  refine gs_aload hk_266 rfl rfl rfl ?_
  refine gs_iload hk_266 rfl rfl rfl ?_
  refine gs_push (x := 3) hk_266 rfl (by decide) rfl ?_
  refine gs_bin (z := Int32.ofNat (i + 3)) hk_266 rfl la_add rfl ?_
  refine gs_sald (z := (i + 3)) (x := a3) hk_266 rfl (by omega) hl ha3 rfl ?_
  refine gs_call (as := [.ref (1076 + 1), .int (la_i2c a1), .int a2, .int a3]) (rest := []) hk_266 rfl (Or.inr (Or.inr (Or.inr ⟨Or.inl rfl, la_rcv la_1076⟩))) rfl rfl rfl (Nat.not_lt.mpr (Nat.le_of_ble_eq_true rfl)) (e_up g2 (by decide : 14 ≤ 399)) rfl ?_
  refine gs_istore (L2 := [.ref 0, .ref (0 + 1), .ref (1076 + 1), .ref (1133 + 1), .int (Int32.ofNat i), .int 2, .int v]) hk_266 rfl (Nat.le_of_ble_eq_true rfl) rfl rfl ?_
  refine gs_aload hk_266 rfl rfl rfl ?_
  refine gs_call (as := [.ref (1076 + 1)]) (rest := []) hk_266 rfl (Or.inr (Or.inr (Or.inr ⟨Or.inl rfl, la_rcv la_1076⟩))) rfl rfl rfl (Nat.not_lt.mpr (Nat.le_of_ble_eq_true rfl)) (e_up g3 (by decide : 0 ≤ 399)) rfl ?_
  refine gs_iload hk_266 rfl rfl rfl ?_
  refine gs_icT hk_266 rfl (jc_T0 rfl) ?_
  refine gs_iload hk_266 rfl rfl rfl ?_
  refine gs_ifT hk_266 rfl rfl ?_
  refine gs_goto hk_266 rfl ?_
  refine gs_iinc (y := Int32.ofNat (i + 4)) (L2 := [.ref 0, .ref (0 + 1), .ref (1076 + 1), .ref (1133 + 1), .int (Int32.ofNat (i + 4)), .int 2, .int v]) hk_266 rfl rfl (Option.some.inj la_add) rfl rfl ?_
  refine gs_goto hk_266 rfl ?_
  exact hm
set_option maxRecDepth 20000 in
theorem la_c6_n0 {X : List Int32} {n i : Nat} {h h1 h2 : Hp} {a1 a2 : Int32} (hi : i + 4 ≤ X.length) (hl : X.length ≤ 2048) (hop : X.getD i 0 &&& 31 = 6) (ha1 : X.getD (i + 1) 0 = a1) (ha2 : X.getD (i + 2) 0 = a2) (hC : p_103 h a1 a2 = some (.inl 0, h1)) (hM : p_173 (w_up h1 1133 0 0) a1 a2 = some (0, h2)) (hT : v_145 h2 = 0) (hO : h2 1133 0 = 0) (hK : la_at X n (i + 4) h2) : la_at X (n + 1) i h := by
  intro ca cb ce u5 u6
  obtain ⟨e1, g1⟩ := lw_253_n0 (X := X) hC ca cb ce
  obtain ⟨e2, g2⟩ := p_173_ok (X := X) hM ca cb e1
  obtain ⟨e3, g3⟩ := v_145_ok (X := X) (h := h2) ca cb e2
  rw [hT] at g3
  obtain ⟨m, hm, hc1, hc2⟩ := hK ca cb e3 (.int 0) (.int 0)
  refine ⟨m, ?_, by omega, by omega⟩
  show j_Go X (399 + 1) 266 (13, [.ref 0, .ref (0 + 1), .ref (1076 + 1), .ref (1133 + 1), .int (Int32.ofNat i), u5, u6], []) _ _
  refine gs_iload hk_266 rfl rfl rfl ?_
  refine gs_aload hk_266 rfl rfl rfl ?_
  refine gs_alen hk_266 rfl rfl ?_
  refine gs_push (x := 4) hk_266 rfl (by decide) rfl ?_
  refine gs_bin (z := Int32.ofNat X.length - 4) hk_266 rfl rfl rfl ?_
  refine gs_icF hk_266 rfl (la_goF hi hl) rfl ?_
  refine gs_aload hk_266 rfl rfl rfl ?_
  refine gs_iload hk_266 rfl rfl rfl ?_
  refine gs_sald (z := i) (x := X.getD i 0) hk_266 rfl (by omega) hl rfl rfl ?_
  refine gs_push (x := 31) hk_266 rfl (by decide) rfl ?_
  refine gs_bin (z := 6) hk_266 rfl (la_sw hop) rfl ?_
  refine gs_sw (j := 309) hk_266 rfl rfl ?_
  refine gs_aload hk_266 rfl rfl rfl ?_
  refine gs_aload hk_266 rfl rfl rfl ?_
  refine gs_iload hk_266 rfl rfl rfl ?_
  refine gs_push (x := 1) hk_266 rfl (by decide) rfl ?_
  refine gs_bin (z := Int32.ofNat (i + 1)) hk_266 rfl la_add rfl ?_
  refine gs_sald (z := (i + 1)) (x := a1) hk_266 rfl (by omega) hl ha1 rfl ?_
  refine gs_aload hk_266 rfl rfl rfl ?_
  refine gs_iload hk_266 rfl rfl rfl ?_
  refine gs_push (x := 2) hk_266 rfl (by decide) rfl ?_
  refine gs_bin (z := Int32.ofNat (i + 2)) hk_266 rfl la_add rfl ?_
  refine gs_sald (z := (i + 2)) (x := a2) hk_266 rfl (by omega) hl ha2 rfl ?_
  refine gs_aload hk_266 rfl rfl rfl ?_
  refine gs_call (as := [.ref (0 + 1), .int a1, .int a2, .ref (1133 + 1)]) (rest := []) hk_266 rfl (Or.inr (Or.inr (Or.inl rfl))) rfl rfl rfl (Nat.not_lt.mpr (Nat.le_of_ble_eq_true rfl)) (e_up g1 (by decide : 300 ≤ 399)) rfl ?_
  refine gs_istore (L2 := [.ref 0, .ref (0 + 1), .ref (1076 + 1), .ref (1133 + 1), .int (Int32.ofNat i), .int 0, u6]) hk_266 rfl (Nat.le_of_ble_eq_true rfl) rfl rfl ?_
  refine gs_aload hk_266 rfl rfl rfl ?_
  refine gs_aload hk_266 rfl rfl rfl ?_
  refine gs_iload hk_266 rfl rfl rfl ?_
  refine gs_push (x := 1) hk_266 rfl (by decide) rfl ?_
  refine gs_bin (z := Int32.ofNat (i + 1)) hk_266 rfl la_add rfl ?_
  refine gs_sald (z := (i + 1)) (x := a1) hk_266 rfl (by omega) hl ha1 rfl ?_
  refine gs_aload hk_266 rfl rfl rfl ?_
  refine gs_iload hk_266 rfl rfl rfl ?_
  refine gs_push (x := 2) hk_266 rfl (by decide) rfl ?_
  refine gs_bin (z := Int32.ofNat (i + 2)) hk_266 rfl la_add rfl ?_
  refine gs_sald (z := (i + 2)) (x := a2) hk_266 rfl (by omega) hl ha2 rfl ?_
  refine gs_call (as := [.ref (1076 + 1), .int a1, .int a2]) (rest := []) hk_266 rfl (Or.inr (Or.inr (Or.inr ⟨Or.inl rfl, la_rcv la_1076⟩))) rfl rfl rfl (Nat.not_lt.mpr (Nat.le_of_ble_eq_true rfl)) (e_up g2 (by decide : 2 ≤ 399)) rfl ?_
  refine gs_istore (L2 := [.ref 0, .ref (0 + 1), .ref (1076 + 1), .ref (1133 + 1), .int (Int32.ofNat i), .int 0, .int 0]) hk_266 rfl (Nat.le_of_ble_eq_true rfl) rfl rfl ?_
  refine gs_aload hk_266 rfl rfl rfl ?_
  refine gs_call (as := [.ref (1076 + 1)]) (rest := []) hk_266 rfl (Or.inr (Or.inr (Or.inr ⟨Or.inl rfl, la_rcv la_1076⟩))) rfl rfl rfl (Nat.not_lt.mpr (Nat.le_of_ble_eq_true rfl)) (e_up g3 (by decide : 0 ≤ 399)) rfl ?_
  refine gs_iload hk_266 rfl rfl rfl ?_
  refine gs_icT hk_266 rfl (jc_T0 rfl) ?_
  refine gs_iload hk_266 rfl rfl rfl ?_
  refine gs_ifF hk_266 rfl rfl rfl ?_
  refine gs_aload hk_266 rfl rfl rfl ?_
  refine gs_push (x := 0) hk_266 rfl (by decide) rfl ?_
  refine gs_lald (y := 0) hk_266 rfl (by show (h2 1133 0).toInt64 = _; rw [hO]; rfl) rfl ?_
  refine gs_iload hk_266 rfl rfl rfl ?_
  refine gs_ifT hk_266 rfl rfl ?_
  refine gs_lpush (x := 0) hk_266 rfl (by decide) rfl ?_
  refine gs_lcmp hk_266 rfl rfl ?_
  refine gs_ifT hk_266 rfl rfl ?_
  refine gs_goto hk_266 rfl ?_
  refine gs_iinc (y := Int32.ofNat (i + 4)) (L2 := [.ref 0, .ref (0 + 1), .ref (1076 + 1), .ref (1133 + 1), .int (Int32.ofNat (i + 4)), .int 0, .int 0]) hk_266 rfl rfl (Option.some.inj la_add) rfl rfl ?_
  refine gs_goto hk_266 rfl ?_
  exact hm
set_option maxRecDepth 20000 in
theorem la_c6_n1 {X : List Int32} {n i : Nat} {h h1 h2 : Hp} {a1 a2 : Int32} (hi : i + 4 ≤ X.length) (hl : X.length ≤ 2048) (hop : X.getD i 0 &&& 31 = 6) (ha1 : X.getD (i + 1) 0 = a1) (ha2 : X.getD (i + 2) 0 = a2) (hC : p_103 h a1 a2 = some (.inl 1, h1)) (hM : p_173 (w_up h1 1133 0 1) a1 a2 = some (1, h2)) (hT : v_145 h2 = 0) (hO : h2 1133 0 = 1) (hK : la_at X n (i + 4) h2) : la_at X (n + 1) i h := by
  intro ca cb ce u5 u6
  obtain ⟨e1, g1⟩ := lw_253_n1 (X := X) hC ca cb ce
  obtain ⟨e2, g2⟩ := p_173_ok (X := X) hM ca cb e1
  obtain ⟨e3, g3⟩ := v_145_ok (X := X) (h := h2) ca cb e2
  rw [hT] at g3
  obtain ⟨m, hm, hc1, hc2⟩ := hK ca cb e3 (.int 0) (.int 1)
  refine ⟨m, ?_, by omega, by omega⟩
  show j_Go X (399 + 1) 266 (13, [.ref 0, .ref (0 + 1), .ref (1076 + 1), .ref (1133 + 1), .int (Int32.ofNat i), u5, u6], []) _ _
  refine gs_iload hk_266 rfl rfl rfl ?_
  refine gs_aload hk_266 rfl rfl rfl ?_
  refine gs_alen hk_266 rfl rfl ?_
  refine gs_push (x := 4) hk_266 rfl (by decide) rfl ?_
  refine gs_bin (z := Int32.ofNat X.length - 4) hk_266 rfl rfl rfl ?_
  refine gs_icF hk_266 rfl (la_goF hi hl) rfl ?_
  refine gs_aload hk_266 rfl rfl rfl ?_
  refine gs_iload hk_266 rfl rfl rfl ?_
  refine gs_sald (z := i) (x := X.getD i 0) hk_266 rfl (by omega) hl rfl rfl ?_
  refine gs_push (x := 31) hk_266 rfl (by decide) rfl ?_
  refine gs_bin (z := 6) hk_266 rfl (la_sw hop) rfl ?_
  refine gs_sw (j := 309) hk_266 rfl rfl ?_
  refine gs_aload hk_266 rfl rfl rfl ?_
  refine gs_aload hk_266 rfl rfl rfl ?_
  refine gs_iload hk_266 rfl rfl rfl ?_
  refine gs_push (x := 1) hk_266 rfl (by decide) rfl ?_
  refine gs_bin (z := Int32.ofNat (i + 1)) hk_266 rfl la_add rfl ?_
  refine gs_sald (z := (i + 1)) (x := a1) hk_266 rfl (by omega) hl ha1 rfl ?_
  refine gs_aload hk_266 rfl rfl rfl ?_
  refine gs_iload hk_266 rfl rfl rfl ?_
  refine gs_push (x := 2) hk_266 rfl (by decide) rfl ?_
  refine gs_bin (z := Int32.ofNat (i + 2)) hk_266 rfl la_add rfl ?_
  refine gs_sald (z := (i + 2)) (x := a2) hk_266 rfl (by omega) hl ha2 rfl ?_
  refine gs_aload hk_266 rfl rfl rfl ?_
  refine gs_call (as := [.ref (0 + 1), .int a1, .int a2, .ref (1133 + 1)]) (rest := []) hk_266 rfl (Or.inr (Or.inr (Or.inl rfl))) rfl rfl rfl (Nat.not_lt.mpr (Nat.le_of_ble_eq_true rfl)) (e_up g1 (by decide : 300 ≤ 399)) rfl ?_
  refine gs_istore (L2 := [.ref 0, .ref (0 + 1), .ref (1076 + 1), .ref (1133 + 1), .int (Int32.ofNat i), .int 0, u6]) hk_266 rfl (Nat.le_of_ble_eq_true rfl) rfl rfl ?_
  refine gs_aload hk_266 rfl rfl rfl ?_
  refine gs_aload hk_266 rfl rfl rfl ?_
  refine gs_iload hk_266 rfl rfl rfl ?_
  refine gs_push (x := 1) hk_266 rfl (by decide) rfl ?_
  refine gs_bin (z := Int32.ofNat (i + 1)) hk_266 rfl la_add rfl ?_
  refine gs_sald (z := (i + 1)) (x := a1) hk_266 rfl (by omega) hl ha1 rfl ?_
  refine gs_aload hk_266 rfl rfl rfl ?_
  refine gs_iload hk_266 rfl rfl rfl ?_
  refine gs_push (x := 2) hk_266 rfl (by decide) rfl ?_
  refine gs_bin (z := Int32.ofNat (i + 2)) hk_266 rfl la_add rfl ?_
  refine gs_sald (z := (i + 2)) (x := a2) hk_266 rfl (by omega) hl ha2 rfl ?_
  refine gs_call (as := [.ref (1076 + 1), .int a1, .int a2]) (rest := []) hk_266 rfl (Or.inr (Or.inr (Or.inr ⟨Or.inl rfl, la_rcv la_1076⟩))) rfl rfl rfl (Nat.not_lt.mpr (Nat.le_of_ble_eq_true rfl)) (e_up g2 (by decide : 2 ≤ 399)) rfl ?_
  refine gs_istore (L2 := [.ref 0, .ref (0 + 1), .ref (1076 + 1), .ref (1133 + 1), .int (Int32.ofNat i), .int 0, .int 1]) hk_266 rfl (Nat.le_of_ble_eq_true rfl) rfl rfl ?_
  refine gs_aload hk_266 rfl rfl rfl ?_
  refine gs_call (as := [.ref (1076 + 1)]) (rest := []) hk_266 rfl (Or.inr (Or.inr (Or.inr ⟨Or.inl rfl, la_rcv la_1076⟩))) rfl rfl rfl (Nat.not_lt.mpr (Nat.le_of_ble_eq_true rfl)) (e_up g3 (by decide : 0 ≤ 399)) rfl ?_
  refine gs_iload hk_266 rfl rfl rfl ?_
  refine gs_icT hk_266 rfl (jc_T0 rfl) ?_
  refine gs_iload hk_266 rfl rfl rfl ?_
  refine gs_ifF hk_266 rfl rfl rfl ?_
  refine gs_aload hk_266 rfl rfl rfl ?_
  refine gs_push (x := 0) hk_266 rfl (by decide) rfl ?_
  refine gs_lald (y := 1) hk_266 rfl (by show (h2 1133 0).toInt64 = _; rw [hO]; rfl) rfl ?_
  refine gs_iload hk_266 rfl rfl rfl ?_
  refine gs_ifF hk_266 rfl rfl rfl ?_
  refine gs_lpush (x := 1) hk_266 rfl (by decide) rfl ?_
  refine gs_goto hk_266 rfl ?_
  refine gs_lcmp hk_266 rfl rfl ?_
  refine gs_ifT hk_266 rfl rfl ?_
  refine gs_goto hk_266 rfl ?_
  refine gs_iinc (y := Int32.ofNat (i + 4)) (L2 := [.ref 0, .ref (0 + 1), .ref (1076 + 1), .ref (1133 + 1), .int (Int32.ofNat (i + 4)), .int 0, .int 1]) hk_266 rfl rfl (Option.some.inj la_add) rfl rfl ?_
  refine gs_goto hk_266 rfl ?_
  exact hm
set_option maxRecDepth 20000 in
theorem la_c6_x2 {X : List Int32} {n i : Nat} {h h1 h2 : Hp} {a1 a2 v : Int32} (hi : i + 4 ≤ X.length) (hl : X.length ≤ 2048) (hop : X.getD i 0 &&& 31 = 6) (ha1 : X.getD (i + 1) 0 = a1) (ha2 : X.getD (i + 2) 0 = a2) (hC : p_103 h a1 a2 = some (.inr 2, h1)) (hM : p_173 (h1) a1 a2 = some (v, h2)) (hT : v_145 h2 = 1) (hK : la_at X n (i + 4) h2) : la_at X (n + 1) i h := by
  intro ca cb ce u5 u6
  obtain ⟨e1, g1⟩ := lw_253_x2 (X := X) hC ca cb ce
  obtain ⟨e2, g2⟩ := p_173_ok (X := X) hM (ca + 1) (cb + 6) e1
  obtain ⟨e3, g3⟩ := v_145_ok (X := X) (h := h2) (ca + 1) (cb + 6) e2
  rw [hT] at g3
  obtain ⟨m, hm, hc1, hc2⟩ := hK (ca + 1) (cb + 6) e3 (.int 1) (.int v)
  refine ⟨m, ?_, by omega, by omega⟩
  show j_Go X (399 + 1) 266 (13, [.ref 0, .ref (0 + 1), .ref (1076 + 1), .ref (1133 + 1), .int (Int32.ofNat i), u5, u6], []) _ _
  refine gs_iload hk_266 rfl rfl rfl ?_
  refine gs_aload hk_266 rfl rfl rfl ?_
  refine gs_alen hk_266 rfl rfl ?_
  refine gs_push (x := 4) hk_266 rfl (by decide) rfl ?_
  refine gs_bin (z := Int32.ofNat X.length - 4) hk_266 rfl rfl rfl ?_
  refine gs_icF hk_266 rfl (la_goF hi hl) rfl ?_
  refine gs_aload hk_266 rfl rfl rfl ?_
  refine gs_iload hk_266 rfl rfl rfl ?_
  refine gs_sald (z := i) (x := X.getD i 0) hk_266 rfl (by omega) hl rfl rfl ?_
  refine gs_push (x := 31) hk_266 rfl (by decide) rfl ?_
  refine gs_bin (z := 6) hk_266 rfl (la_sw hop) rfl ?_
  refine gs_sw (j := 309) hk_266 rfl rfl ?_
  refine gs_aload hk_266 rfl rfl rfl ?_
  refine gs_aload hk_266 rfl rfl rfl ?_
  refine gs_iload hk_266 rfl rfl rfl ?_
  refine gs_push (x := 1) hk_266 rfl (by decide) rfl ?_
  refine gs_bin (z := Int32.ofNat (i + 1)) hk_266 rfl la_add rfl ?_
  refine gs_sald (z := (i + 1)) (x := a1) hk_266 rfl (by omega) hl ha1 rfl ?_
  refine gs_aload hk_266 rfl rfl rfl ?_
  refine gs_iload hk_266 rfl rfl rfl ?_
  refine gs_push (x := 2) hk_266 rfl (by decide) rfl ?_
  refine gs_bin (z := Int32.ofNat (i + 2)) hk_266 rfl la_add rfl ?_
  refine gs_sald (z := (i + 2)) (x := a2) hk_266 rfl (by omega) hl ha2 rfl ?_
  refine gs_aload hk_266 rfl rfl rfl ?_
  refine gs_call (as := [.ref (0 + 1), .int a1, .int a2, .ref (1133 + 1)]) (rest := []) hk_266 rfl (Or.inr (Or.inr (Or.inl rfl))) rfl rfl rfl (Nat.not_lt.mpr (Nat.le_of_ble_eq_true rfl)) (e_up g1 (by decide : 300 ≤ 399)) rfl ?_
  refine gs_istore (L2 := [.ref 0, .ref (0 + 1), .ref (1076 + 1), .ref (1133 + 1), .int (Int32.ofNat i), .int 1, u6]) hk_266 rfl (Nat.le_of_ble_eq_true rfl) rfl rfl ?_
  refine gs_aload hk_266 rfl rfl rfl ?_
  refine gs_aload hk_266 rfl rfl rfl ?_
  refine gs_iload hk_266 rfl rfl rfl ?_
  refine gs_push (x := 1) hk_266 rfl (by decide) rfl ?_
  refine gs_bin (z := Int32.ofNat (i + 1)) hk_266 rfl la_add rfl ?_
  refine gs_sald (z := (i + 1)) (x := a1) hk_266 rfl (by omega) hl ha1 rfl ?_
  refine gs_aload hk_266 rfl rfl rfl ?_
  refine gs_iload hk_266 rfl rfl rfl ?_
  refine gs_push (x := 2) hk_266 rfl (by decide) rfl ?_
  refine gs_bin (z := Int32.ofNat (i + 2)) hk_266 rfl la_add rfl ?_
  refine gs_sald (z := (i + 2)) (x := a2) hk_266 rfl (by omega) hl ha2 rfl ?_
  refine gs_call (as := [.ref (1076 + 1), .int a1, .int a2]) (rest := []) hk_266 rfl (Or.inr (Or.inr (Or.inr ⟨Or.inl rfl, la_rcv la_1076⟩))) rfl rfl rfl (Nat.not_lt.mpr (Nat.le_of_ble_eq_true rfl)) (e_up g2 (by decide : 2 ≤ 399)) rfl ?_
  refine gs_istore (L2 := [.ref 0, .ref (0 + 1), .ref (1076 + 1), .ref (1133 + 1), .int (Int32.ofNat i), .int 1, .int v]) hk_266 rfl (Nat.le_of_ble_eq_true rfl) rfl rfl ?_
  refine gs_aload hk_266 rfl rfl rfl ?_
  refine gs_call (as := [.ref (1076 + 1)]) (rest := []) hk_266 rfl (Or.inr (Or.inr (Or.inr ⟨Or.inl rfl, la_rcv la_1076⟩))) rfl rfl rfl (Nat.not_lt.mpr (Nat.le_of_ble_eq_true rfl)) (e_up g3 (by decide : 0 ≤ 399)) rfl ?_
  refine gs_iload hk_266 rfl rfl rfl ?_
  refine gs_icT hk_266 rfl (jc_T0 rfl) ?_
  refine gs_iload hk_266 rfl rfl rfl ?_
  refine gs_ifT hk_266 rfl rfl ?_
  refine gs_goto hk_266 rfl ?_
  refine gs_iinc (y := Int32.ofNat (i + 4)) (L2 := [.ref 0, .ref (0 + 1), .ref (1076 + 1), .ref (1133 + 1), .int (Int32.ofNat (i + 4)), .int 1, .int v]) hk_266 rfl rfl (Option.some.inj la_add) rfl rfl ?_
  refine gs_goto hk_266 rfl ?_
  exact hm
set_option maxRecDepth 20000 in
theorem la_c6_x0 {X : List Int32} {n i : Nat} {h h1 h2 : Hp} {a1 a2 v : Int32} (hi : i + 4 ≤ X.length) (hl : X.length ≤ 2048) (hop : X.getD i 0 &&& 31 = 6) (ha1 : X.getD (i + 1) 0 = a1) (ha2 : X.getD (i + 2) 0 = a2) (hC : p_103 h a1 a2 = some (.inr 0, h1)) (hM : p_173 (h1) a1 a2 = some (v, h2)) (hT : v_145 h2 = 2) (hK : la_at X n (i + 4) h2) : la_at X (n + 1) i h := by
  intro ca cb ce u5 u6
  obtain ⟨e1, g1⟩ := lw_253_x0 (X := X) hC ca cb ce
  obtain ⟨e2, g2⟩ := p_173_ok (X := X) hM (ca + 1) (cb + 6) e1
  obtain ⟨e3, g3⟩ := v_145_ok (X := X) (h := h2) (ca + 1) (cb + 6) e2
  rw [hT] at g3
  obtain ⟨m, hm, hc1, hc2⟩ := hK (ca + 1) (cb + 6) e3 (.int 2) (.int v)
  refine ⟨m, ?_, by omega, by omega⟩
  show j_Go X (399 + 1) 266 (13, [.ref 0, .ref (0 + 1), .ref (1076 + 1), .ref (1133 + 1), .int (Int32.ofNat i), u5, u6], []) _ _
  refine gs_iload hk_266 rfl rfl rfl ?_
  refine gs_aload hk_266 rfl rfl rfl ?_
  refine gs_alen hk_266 rfl rfl ?_
  refine gs_push (x := 4) hk_266 rfl (by decide) rfl ?_
  refine gs_bin (z := Int32.ofNat X.length - 4) hk_266 rfl rfl rfl ?_
  refine gs_icF hk_266 rfl (la_goF hi hl) rfl ?_
  refine gs_aload hk_266 rfl rfl rfl ?_
  refine gs_iload hk_266 rfl rfl rfl ?_
  refine gs_sald (z := i) (x := X.getD i 0) hk_266 rfl (by omega) hl rfl rfl ?_
  refine gs_push (x := 31) hk_266 rfl (by decide) rfl ?_
  refine gs_bin (z := 6) hk_266 rfl (la_sw hop) rfl ?_
  refine gs_sw (j := 309) hk_266 rfl rfl ?_
  refine gs_aload hk_266 rfl rfl rfl ?_
  refine gs_aload hk_266 rfl rfl rfl ?_
  refine gs_iload hk_266 rfl rfl rfl ?_
  refine gs_push (x := 1) hk_266 rfl (by decide) rfl ?_
  refine gs_bin (z := Int32.ofNat (i + 1)) hk_266 rfl la_add rfl ?_
  refine gs_sald (z := (i + 1)) (x := a1) hk_266 rfl (by omega) hl ha1 rfl ?_
  refine gs_aload hk_266 rfl rfl rfl ?_
  refine gs_iload hk_266 rfl rfl rfl ?_
  refine gs_push (x := 2) hk_266 rfl (by decide) rfl ?_
  refine gs_bin (z := Int32.ofNat (i + 2)) hk_266 rfl la_add rfl ?_
  refine gs_sald (z := (i + 2)) (x := a2) hk_266 rfl (by omega) hl ha2 rfl ?_
  refine gs_aload hk_266 rfl rfl rfl ?_
  refine gs_call (as := [.ref (0 + 1), .int a1, .int a2, .ref (1133 + 1)]) (rest := []) hk_266 rfl (Or.inr (Or.inr (Or.inl rfl))) rfl rfl rfl (Nat.not_lt.mpr (Nat.le_of_ble_eq_true rfl)) (e_up g1 (by decide : 300 ≤ 399)) rfl ?_
  refine gs_istore (L2 := [.ref 0, .ref (0 + 1), .ref (1076 + 1), .ref (1133 + 1), .int (Int32.ofNat i), .int 2, u6]) hk_266 rfl (Nat.le_of_ble_eq_true rfl) rfl rfl ?_
  refine gs_aload hk_266 rfl rfl rfl ?_
  refine gs_aload hk_266 rfl rfl rfl ?_
  refine gs_iload hk_266 rfl rfl rfl ?_
  refine gs_push (x := 1) hk_266 rfl (by decide) rfl ?_
  refine gs_bin (z := Int32.ofNat (i + 1)) hk_266 rfl la_add rfl ?_
  refine gs_sald (z := (i + 1)) (x := a1) hk_266 rfl (by omega) hl ha1 rfl ?_
  refine gs_aload hk_266 rfl rfl rfl ?_
  refine gs_iload hk_266 rfl rfl rfl ?_
  refine gs_push (x := 2) hk_266 rfl (by decide) rfl ?_
  refine gs_bin (z := Int32.ofNat (i + 2)) hk_266 rfl la_add rfl ?_
  refine gs_sald (z := (i + 2)) (x := a2) hk_266 rfl (by omega) hl ha2 rfl ?_
  refine gs_call (as := [.ref (1076 + 1), .int a1, .int a2]) (rest := []) hk_266 rfl (Or.inr (Or.inr (Or.inr ⟨Or.inl rfl, la_rcv la_1076⟩))) rfl rfl rfl (Nat.not_lt.mpr (Nat.le_of_ble_eq_true rfl)) (e_up g2 (by decide : 2 ≤ 399)) rfl ?_
  refine gs_istore (L2 := [.ref 0, .ref (0 + 1), .ref (1076 + 1), .ref (1133 + 1), .int (Int32.ofNat i), .int 2, .int v]) hk_266 rfl (Nat.le_of_ble_eq_true rfl) rfl rfl ?_
  refine gs_aload hk_266 rfl rfl rfl ?_
  refine gs_call (as := [.ref (1076 + 1)]) (rest := []) hk_266 rfl (Or.inr (Or.inr (Or.inr ⟨Or.inl rfl, la_rcv la_1076⟩))) rfl rfl rfl (Nat.not_lt.mpr (Nat.le_of_ble_eq_true rfl)) (e_up g3 (by decide : 0 ≤ 399)) rfl ?_
  refine gs_iload hk_266 rfl rfl rfl ?_
  refine gs_icT hk_266 rfl (jc_T0 rfl) ?_
  refine gs_iload hk_266 rfl rfl rfl ?_
  refine gs_ifT hk_266 rfl rfl ?_
  refine gs_goto hk_266 rfl ?_
  refine gs_iinc (y := Int32.ofNat (i + 4)) (L2 := [.ref 0, .ref (0 + 1), .ref (1076 + 1), .ref (1133 + 1), .int (Int32.ofNat (i + 4)), .int 2, .int v]) hk_266 rfl rfl (Option.some.inj la_add) rfl rfl ?_
  refine gs_goto hk_266 rfl ?_
  exact hm
set_option maxRecDepth 20000 in
theorem la_c7_n {X : List Int32} {n i : Nat} {h h1 h2 : Hp} {a1 a2 v : Int32} (hi : i + 4 ≤ X.length) (hl : X.length ≤ 2048) (hop : X.getD i 0 &&& 31 = 7) (ha1 : X.getD (i + 1) 0 = a1) (ha2 : X.getD (i + 2) 0 = a2) (hC : p_104 h a1 a2 = some (.inl v, h1)) (hM : p_174 (w_up h1 1133 0 v) a1 a2 = some (v, h2)) (hT : v_145 h2 = 0) (hO : h2 1133 0 = v) (hK : la_at X n (i + 4) h2) : la_at X (n + 1) i h := by
  intro ca cb ce u5 u6
  obtain ⟨e1, g1⟩ := lw_254_n (X := X) hC ca cb ce
  obtain ⟨e2, g2⟩ := p_174_ok (X := X) hM ca cb e1
  obtain ⟨e3, g3⟩ := v_145_ok (X := X) (h := h2) ca cb e2
  rw [hT] at g3
  obtain ⟨m, hm, hc1, hc2⟩ := hK ca cb e3 (.int 0) (.int v)
  refine ⟨m, ?_, by omega, by omega⟩
  show j_Go X (399 + 1) 266 (13, [.ref 0, .ref (0 + 1), .ref (1076 + 1), .ref (1133 + 1), .int (Int32.ofNat i), u5, u6], []) _ _
  refine gs_iload hk_266 rfl rfl rfl ?_
  refine gs_aload hk_266 rfl rfl rfl ?_
  refine gs_alen hk_266 rfl rfl ?_
  refine gs_push (x := 4) hk_266 rfl (by decide) rfl ?_
  refine gs_bin (z := Int32.ofNat X.length - 4) hk_266 rfl rfl rfl ?_
  refine gs_icF hk_266 rfl (la_goF hi hl) rfl ?_
  refine gs_aload hk_266 rfl rfl rfl ?_
  refine gs_iload hk_266 rfl rfl rfl ?_
  refine gs_sald (z := i) (x := X.getD i 0) hk_266 rfl (by omega) hl rfl rfl ?_
  refine gs_push (x := 31) hk_266 rfl (by decide) rfl ?_
  refine gs_bin (z := 7) hk_266 rfl (la_sw hop) rfl ?_
  refine gs_sw (j := 357) hk_266 rfl rfl ?_
  refine gs_aload hk_266 rfl rfl rfl ?_
  refine gs_aload hk_266 rfl rfl rfl ?_
  refine gs_iload hk_266 rfl rfl rfl ?_
  refine gs_push (x := 1) hk_266 rfl (by decide) rfl ?_
  refine gs_bin (z := Int32.ofNat (i + 1)) hk_266 rfl la_add rfl ?_
  refine gs_sald (z := (i + 1)) (x := a1) hk_266 rfl (by omega) hl ha1 rfl ?_
  refine gs_aload hk_266 rfl rfl rfl ?_
  refine gs_iload hk_266 rfl rfl rfl ?_
  refine gs_push (x := 2) hk_266 rfl (by decide) rfl ?_
  refine gs_bin (z := Int32.ofNat (i + 2)) hk_266 rfl la_add rfl ?_
  refine gs_sald (z := (i + 2)) (x := a2) hk_266 rfl (by omega) hl ha2 rfl ?_
  refine gs_aload hk_266 rfl rfl rfl ?_
  refine gs_call (as := [.ref (0 + 1), .int a1, .int a2, .ref (1133 + 1)]) (rest := []) hk_266 rfl (Or.inr (Or.inr (Or.inl rfl))) rfl rfl rfl (Nat.not_lt.mpr (Nat.le_of_ble_eq_true rfl)) (e_up g1 (by decide : 300 ≤ 399)) rfl ?_
  refine gs_istore (L2 := [.ref 0, .ref (0 + 1), .ref (1076 + 1), .ref (1133 + 1), .int (Int32.ofNat i), .int 0, u6]) hk_266 rfl (Nat.le_of_ble_eq_true rfl) rfl rfl ?_
  refine gs_aload hk_266 rfl rfl rfl ?_
  refine gs_aload hk_266 rfl rfl rfl ?_
  refine gs_iload hk_266 rfl rfl rfl ?_
  refine gs_push (x := 1) hk_266 rfl (by decide) rfl ?_
  refine gs_bin (z := Int32.ofNat (i + 1)) hk_266 rfl la_add rfl ?_
  refine gs_sald (z := (i + 1)) (x := a1) hk_266 rfl (by omega) hl ha1 rfl ?_
  refine gs_aload hk_266 rfl rfl rfl ?_
  refine gs_iload hk_266 rfl rfl rfl ?_
  refine gs_push (x := 2) hk_266 rfl (by decide) rfl ?_
  refine gs_bin (z := Int32.ofNat (i + 2)) hk_266 rfl la_add rfl ?_
  refine gs_sald (z := (i + 2)) (x := a2) hk_266 rfl (by omega) hl ha2 rfl ?_
  refine gs_call (as := [.ref (1076 + 1), .int a1, .int a2]) (rest := []) hk_266 rfl (Or.inr (Or.inr (Or.inr ⟨Or.inl rfl, la_rcv la_1076⟩))) rfl rfl rfl (Nat.not_lt.mpr (Nat.le_of_ble_eq_true rfl)) (e_up g2 (by decide : 2 ≤ 399)) rfl ?_
  refine gs_istore (L2 := [.ref 0, .ref (0 + 1), .ref (1076 + 1), .ref (1133 + 1), .int (Int32.ofNat i), .int 0, .int v]) hk_266 rfl (Nat.le_of_ble_eq_true rfl) rfl rfl ?_
  refine gs_aload hk_266 rfl rfl rfl ?_
  refine gs_call (as := [.ref (1076 + 1)]) (rest := []) hk_266 rfl (Or.inr (Or.inr (Or.inr ⟨Or.inl rfl, la_rcv la_1076⟩))) rfl rfl rfl (Nat.not_lt.mpr (Nat.le_of_ble_eq_true rfl)) (e_up g3 (by decide : 0 ≤ 399)) rfl ?_
  refine gs_iload hk_266 rfl rfl rfl ?_
  refine gs_icT hk_266 rfl (jc_T0 rfl) ?_
  refine gs_iload hk_266 rfl rfl rfl ?_
  refine gs_ifF hk_266 rfl rfl rfl ?_
  refine gs_aload hk_266 rfl rfl rfl ?_
  refine gs_push (x := 0) hk_266 rfl (by decide) rfl ?_
  refine gs_lald (y := (v).toInt64) hk_266 rfl (by show (h2 1133 0).toInt64 = _; rw [hO]) rfl ?_
  refine gs_iload hk_266 rfl rfl rfl ?_
  refine gs_i2l hk_266 rfl rfl ?_
  refine gs_lcmp hk_266 rfl rfl ?_
  refine gs_ifT hk_266 rfl rfl ?_
  refine gs_goto hk_266 rfl ?_
  refine gs_iinc (y := Int32.ofNat (i + 4)) (L2 := [.ref 0, .ref (0 + 1), .ref (1076 + 1), .ref (1133 + 1), .int (Int32.ofNat (i + 4)), .int 0, .int v]) hk_266 rfl rfl (Option.some.inj la_add) rfl rfl ?_
  refine gs_goto hk_266 rfl ?_
  exact hm
set_option maxRecDepth 20000 in
theorem la_c7_x2 {X : List Int32} {n i : Nat} {h h1 h2 : Hp} {a1 a2 v : Int32} (hi : i + 4 ≤ X.length) (hl : X.length ≤ 2048) (hop : X.getD i 0 &&& 31 = 7) (ha1 : X.getD (i + 1) 0 = a1) (ha2 : X.getD (i + 2) 0 = a2) (hC : p_104 h a1 a2 = some (.inr 2, h1)) (hM : p_174 (h1) a1 a2 = some (v, h2)) (hT : v_145 h2 = 1) (hK : la_at X n (i + 4) h2) : la_at X (n + 1) i h := by
  intro ca cb ce u5 u6
  obtain ⟨e1, g1⟩ := lw_254_x2 (X := X) hC ca cb ce
  obtain ⟨e2, g2⟩ := p_174_ok (X := X) hM (ca + 1) (cb + 6) e1
  obtain ⟨e3, g3⟩ := v_145_ok (X := X) (h := h2) (ca + 1) (cb + 6) e2
  rw [hT] at g3
  obtain ⟨m, hm, hc1, hc2⟩ := hK (ca + 1) (cb + 6) e3 (.int 1) (.int v)
  refine ⟨m, ?_, by omega, by omega⟩
  show j_Go X (399 + 1) 266 (13, [.ref 0, .ref (0 + 1), .ref (1076 + 1), .ref (1133 + 1), .int (Int32.ofNat i), u5, u6], []) _ _
  refine gs_iload hk_266 rfl rfl rfl ?_
  refine gs_aload hk_266 rfl rfl rfl ?_
  refine gs_alen hk_266 rfl rfl ?_
  refine gs_push (x := 4) hk_266 rfl (by decide) rfl ?_
  refine gs_bin (z := Int32.ofNat X.length - 4) hk_266 rfl rfl rfl ?_
  refine gs_icF hk_266 rfl (la_goF hi hl) rfl ?_
  refine gs_aload hk_266 rfl rfl rfl ?_
  refine gs_iload hk_266 rfl rfl rfl ?_
  refine gs_sald (z := i) (x := X.getD i 0) hk_266 rfl (by omega) hl rfl rfl ?_
  refine gs_push (x := 31) hk_266 rfl (by decide) rfl ?_
  refine gs_bin (z := 7) hk_266 rfl (la_sw hop) rfl ?_
  refine gs_sw (j := 357) hk_266 rfl rfl ?_
  refine gs_aload hk_266 rfl rfl rfl ?_
  refine gs_aload hk_266 rfl rfl rfl ?_
  refine gs_iload hk_266 rfl rfl rfl ?_
  refine gs_push (x := 1) hk_266 rfl (by decide) rfl ?_
  refine gs_bin (z := Int32.ofNat (i + 1)) hk_266 rfl la_add rfl ?_
  refine gs_sald (z := (i + 1)) (x := a1) hk_266 rfl (by omega) hl ha1 rfl ?_
  refine gs_aload hk_266 rfl rfl rfl ?_
  refine gs_iload hk_266 rfl rfl rfl ?_
  refine gs_push (x := 2) hk_266 rfl (by decide) rfl ?_
  refine gs_bin (z := Int32.ofNat (i + 2)) hk_266 rfl la_add rfl ?_
  refine gs_sald (z := (i + 2)) (x := a2) hk_266 rfl (by omega) hl ha2 rfl ?_
  refine gs_aload hk_266 rfl rfl rfl ?_
  refine gs_call (as := [.ref (0 + 1), .int a1, .int a2, .ref (1133 + 1)]) (rest := []) hk_266 rfl (Or.inr (Or.inr (Or.inl rfl))) rfl rfl rfl (Nat.not_lt.mpr (Nat.le_of_ble_eq_true rfl)) (e_up g1 (by decide : 300 ≤ 399)) rfl ?_
  refine gs_istore (L2 := [.ref 0, .ref (0 + 1), .ref (1076 + 1), .ref (1133 + 1), .int (Int32.ofNat i), .int 1, u6]) hk_266 rfl (Nat.le_of_ble_eq_true rfl) rfl rfl ?_
  refine gs_aload hk_266 rfl rfl rfl ?_
  refine gs_aload hk_266 rfl rfl rfl ?_
  refine gs_iload hk_266 rfl rfl rfl ?_
  refine gs_push (x := 1) hk_266 rfl (by decide) rfl ?_
  refine gs_bin (z := Int32.ofNat (i + 1)) hk_266 rfl la_add rfl ?_
  refine gs_sald (z := (i + 1)) (x := a1) hk_266 rfl (by omega) hl ha1 rfl ?_
  refine gs_aload hk_266 rfl rfl rfl ?_
  refine gs_iload hk_266 rfl rfl rfl ?_
  refine gs_push (x := 2) hk_266 rfl (by decide) rfl ?_
  refine gs_bin (z := Int32.ofNat (i + 2)) hk_266 rfl la_add rfl ?_
  refine gs_sald (z := (i + 2)) (x := a2) hk_266 rfl (by omega) hl ha2 rfl ?_
  refine gs_call (as := [.ref (1076 + 1), .int a1, .int a2]) (rest := []) hk_266 rfl (Or.inr (Or.inr (Or.inr ⟨Or.inl rfl, la_rcv la_1076⟩))) rfl rfl rfl (Nat.not_lt.mpr (Nat.le_of_ble_eq_true rfl)) (e_up g2 (by decide : 2 ≤ 399)) rfl ?_
  refine gs_istore (L2 := [.ref 0, .ref (0 + 1), .ref (1076 + 1), .ref (1133 + 1), .int (Int32.ofNat i), .int 1, .int v]) hk_266 rfl (Nat.le_of_ble_eq_true rfl) rfl rfl ?_
  refine gs_aload hk_266 rfl rfl rfl ?_
  refine gs_call (as := [.ref (1076 + 1)]) (rest := []) hk_266 rfl (Or.inr (Or.inr (Or.inr ⟨Or.inl rfl, la_rcv la_1076⟩))) rfl rfl rfl (Nat.not_lt.mpr (Nat.le_of_ble_eq_true rfl)) (e_up g3 (by decide : 0 ≤ 399)) rfl ?_
  refine gs_iload hk_266 rfl rfl rfl ?_
  refine gs_icT hk_266 rfl (jc_T0 rfl) ?_
  refine gs_iload hk_266 rfl rfl rfl ?_
  refine gs_ifT hk_266 rfl rfl ?_
  refine gs_goto hk_266 rfl ?_
  refine gs_iinc (y := Int32.ofNat (i + 4)) (L2 := [.ref 0, .ref (0 + 1), .ref (1076 + 1), .ref (1133 + 1), .int (Int32.ofNat (i + 4)), .int 1, .int v]) hk_266 rfl rfl (Option.some.inj la_add) rfl rfl ?_
  refine gs_goto hk_266 rfl ?_
  exact hm
set_option maxRecDepth 20000 in
theorem la_c7_x0 {X : List Int32} {n i : Nat} {h h1 h2 : Hp} {a1 a2 v : Int32} (hi : i + 4 ≤ X.length) (hl : X.length ≤ 2048) (hop : X.getD i 0 &&& 31 = 7) (ha1 : X.getD (i + 1) 0 = a1) (ha2 : X.getD (i + 2) 0 = a2) (hC : p_104 h a1 a2 = some (.inr 0, h1)) (hM : p_174 (h1) a1 a2 = some (v, h2)) (hT : v_145 h2 = 2) (hK : la_at X n (i + 4) h2) : la_at X (n + 1) i h := by
  intro ca cb ce u5 u6
  obtain ⟨e1, g1⟩ := lw_254_x0 (X := X) hC ca cb ce
  obtain ⟨e2, g2⟩ := p_174_ok (X := X) hM (ca + 1) (cb + 6) e1
  obtain ⟨e3, g3⟩ := v_145_ok (X := X) (h := h2) (ca + 1) (cb + 6) e2
  rw [hT] at g3
  obtain ⟨m, hm, hc1, hc2⟩ := hK (ca + 1) (cb + 6) e3 (.int 2) (.int v)
  refine ⟨m, ?_, by omega, by omega⟩
  show j_Go X (399 + 1) 266 (13, [.ref 0, .ref (0 + 1), .ref (1076 + 1), .ref (1133 + 1), .int (Int32.ofNat i), u5, u6], []) _ _
  refine gs_iload hk_266 rfl rfl rfl ?_
  refine gs_aload hk_266 rfl rfl rfl ?_
  refine gs_alen hk_266 rfl rfl ?_
  refine gs_push (x := 4) hk_266 rfl (by decide) rfl ?_
  refine gs_bin (z := Int32.ofNat X.length - 4) hk_266 rfl rfl rfl ?_
  refine gs_icF hk_266 rfl (la_goF hi hl) rfl ?_
  refine gs_aload hk_266 rfl rfl rfl ?_
  refine gs_iload hk_266 rfl rfl rfl ?_
  refine gs_sald (z := i) (x := X.getD i 0) hk_266 rfl (by omega) hl rfl rfl ?_
  refine gs_push (x := 31) hk_266 rfl (by decide) rfl ?_
  refine gs_bin (z := 7) hk_266 rfl (la_sw hop) rfl ?_
  refine gs_sw (j := 357) hk_266 rfl rfl ?_
  refine gs_aload hk_266 rfl rfl rfl ?_
  refine gs_aload hk_266 rfl rfl rfl ?_
  refine gs_iload hk_266 rfl rfl rfl ?_
  refine gs_push (x := 1) hk_266 rfl (by decide) rfl ?_
  refine gs_bin (z := Int32.ofNat (i + 1)) hk_266 rfl la_add rfl ?_
  refine gs_sald (z := (i + 1)) (x := a1) hk_266 rfl (by omega) hl ha1 rfl ?_
  refine gs_aload hk_266 rfl rfl rfl ?_
  refine gs_iload hk_266 rfl rfl rfl ?_
  refine gs_push (x := 2) hk_266 rfl (by decide) rfl ?_
  refine gs_bin (z := Int32.ofNat (i + 2)) hk_266 rfl la_add rfl ?_
  refine gs_sald (z := (i + 2)) (x := a2) hk_266 rfl (by omega) hl ha2 rfl ?_
  refine gs_aload hk_266 rfl rfl rfl ?_
  refine gs_call (as := [.ref (0 + 1), .int a1, .int a2, .ref (1133 + 1)]) (rest := []) hk_266 rfl (Or.inr (Or.inr (Or.inl rfl))) rfl rfl rfl (Nat.not_lt.mpr (Nat.le_of_ble_eq_true rfl)) (e_up g1 (by decide : 300 ≤ 399)) rfl ?_
  refine gs_istore (L2 := [.ref 0, .ref (0 + 1), .ref (1076 + 1), .ref (1133 + 1), .int (Int32.ofNat i), .int 2, u6]) hk_266 rfl (Nat.le_of_ble_eq_true rfl) rfl rfl ?_
  refine gs_aload hk_266 rfl rfl rfl ?_
  refine gs_aload hk_266 rfl rfl rfl ?_
  refine gs_iload hk_266 rfl rfl rfl ?_
  refine gs_push (x := 1) hk_266 rfl (by decide) rfl ?_
  refine gs_bin (z := Int32.ofNat (i + 1)) hk_266 rfl la_add rfl ?_
  refine gs_sald (z := (i + 1)) (x := a1) hk_266 rfl (by omega) hl ha1 rfl ?_
  refine gs_aload hk_266 rfl rfl rfl ?_
  refine gs_iload hk_266 rfl rfl rfl ?_
  refine gs_push (x := 2) hk_266 rfl (by decide) rfl ?_
  refine gs_bin (z := Int32.ofNat (i + 2)) hk_266 rfl la_add rfl ?_
  refine gs_sald (z := (i + 2)) (x := a2) hk_266 rfl (by omega) hl ha2 rfl ?_
  refine gs_call (as := [.ref (1076 + 1), .int a1, .int a2]) (rest := []) hk_266 rfl (Or.inr (Or.inr (Or.inr ⟨Or.inl rfl, la_rcv la_1076⟩))) rfl rfl rfl (Nat.not_lt.mpr (Nat.le_of_ble_eq_true rfl)) (e_up g2 (by decide : 2 ≤ 399)) rfl ?_
  refine gs_istore (L2 := [.ref 0, .ref (0 + 1), .ref (1076 + 1), .ref (1133 + 1), .int (Int32.ofNat i), .int 2, .int v]) hk_266 rfl (Nat.le_of_ble_eq_true rfl) rfl rfl ?_
  refine gs_aload hk_266 rfl rfl rfl ?_
  refine gs_call (as := [.ref (1076 + 1)]) (rest := []) hk_266 rfl (Or.inr (Or.inr (Or.inr ⟨Or.inl rfl, la_rcv la_1076⟩))) rfl rfl rfl (Nat.not_lt.mpr (Nat.le_of_ble_eq_true rfl)) (e_up g3 (by decide : 0 ≤ 399)) rfl ?_
  refine gs_iload hk_266 rfl rfl rfl ?_
  refine gs_icT hk_266 rfl (jc_T0 rfl) ?_
  refine gs_iload hk_266 rfl rfl rfl ?_
  refine gs_ifT hk_266 rfl rfl ?_
  refine gs_goto hk_266 rfl ?_
  refine gs_iinc (y := Int32.ofNat (i + 4)) (L2 := [.ref 0, .ref (0 + 1), .ref (1076 + 1), .ref (1133 + 1), .int (Int32.ofNat (i + 4)), .int 2, .int v]) hk_266 rfl rfl (Option.some.inj la_add) rfl rfl ?_
  refine gs_goto hk_266 rfl ?_
  exact hm
set_option maxRecDepth 20000 in
theorem la_c8_n {X : List Int32} {n i : Nat} {h h1 h2 : Hp} {v : Int32} (hi : i + 4 ≤ X.length) (hl : X.length ≤ 2048) (hop : X.getD i 0 &&& 31 = 8) (hC : p_105 h = some (v, h1)) (hM : p_177 (h1) = some (v, h2)) (hK : la_at X n (i + 4) h2) : la_at X (n + 1) i h := by
  intro ca cb ce u5 u6
  obtain ⟨e1, g1⟩ := p_105_ok (X := X) hC ca cb ce
  obtain ⟨e2, g2⟩ := p_177_ok (X := X) hM ca cb e1
  obtain ⟨m, hm, hc1, hc2⟩ := hK ca cb e2 (u5) (u6)
  refine ⟨m, ?_, by omega, by omega⟩
  show j_Go X (399 + 1) 266 (13, [.ref 0, .ref (0 + 1), .ref (1076 + 1), .ref (1133 + 1), .int (Int32.ofNat i), u5, u6], []) _ _
  refine gs_iload hk_266 rfl rfl rfl ?_
  refine gs_aload hk_266 rfl rfl rfl ?_
  refine gs_alen hk_266 rfl rfl ?_
  refine gs_push (x := 4) hk_266 rfl (by decide) rfl ?_
  refine gs_bin (z := Int32.ofNat X.length - 4) hk_266 rfl rfl rfl ?_
  refine gs_icF hk_266 rfl (la_goF hi hl) rfl ?_
  refine gs_aload hk_266 rfl rfl rfl ?_
  refine gs_iload hk_266 rfl rfl rfl ?_
  refine gs_sald (z := i) (x := X.getD i 0) hk_266 rfl (by omega) hl rfl rfl ?_
  refine gs_push (x := 31) hk_266 rfl (by decide) rfl ?_
  refine gs_bin (z := 8) hk_266 rfl (la_sw hop) rfl ?_
  refine gs_sw (j := 402) hk_266 rfl rfl ?_
  refine gs_aload hk_266 rfl rfl rfl ?_
  refine gs_call (as := [.ref (0 + 1)]) (rest := []) hk_266 rfl (Or.inr (Or.inr (Or.inr ⟨Or.inl rfl, la_rcv wc_0⟩))) rfl rfl rfl (Nat.not_lt.mpr (Nat.le_of_ble_eq_true rfl)) (e_up g1 (by decide : 7 ≤ 399)) rfl ?_
  refine gs_aload hk_266 rfl rfl rfl ?_
  refine gs_call (as := [.ref (1076 + 1)]) (rest := [.int v]) hk_266 rfl (Or.inr (Or.inr (Or.inr ⟨Or.inl rfl, la_rcv la_1076⟩))) rfl rfl rfl (Nat.not_lt.mpr (Nat.le_of_ble_eq_true rfl)) (e_up g2 (by decide : 14 ≤ 399)) rfl ?_
  refine gs_icT hk_266 rfl (jc_T0 rfl) ?_
  refine gs_iinc (y := Int32.ofNat (i + 4)) (L2 := [.ref 0, .ref (0 + 1), .ref (1076 + 1), .ref (1133 + 1), .int (Int32.ofNat (i + 4)), u5, u6]) hk_266 rfl rfl (Option.some.inj la_add) rfl rfl ?_
  refine gs_goto hk_266 rfl ?_
  exact hm
set_option maxRecDepth 20000 in
theorem la_c9_n {X : List Int32} {n i : Nat} {h h2 : Hp} {a1 v : Int32} (hi : i + 4 ≤ X.length) (hl : X.length ≤ 2048) (hop : X.getD i 0 &&& 31 = 9) (ha1 : X.getD (i + 1) 0 = a1) (hC : p_106 h a1 = some (.inl v)) (hM : p_178 (w_up h 1133 0 v) a1 = some (v, h2)) (hT : v_145 h2 = 0) (hO : h2 1133 0 = v) (hK : la_at X n (i + 4) h2) : la_at X (n + 1) i h := by
  intro ca cb ce u5 u6
  obtain ⟨e1, g1⟩ := lw_255_n (X := X) hC ca cb ce
  obtain ⟨e2, g2⟩ := p_178_ok (X := X) hM ca cb e1
  obtain ⟨e3, g3⟩ := v_145_ok (X := X) (h := h2) ca cb e2
  rw [hT] at g3
  obtain ⟨m, hm, hc1, hc2⟩ := hK ca cb e3 (.int 0) (.int v)
  refine ⟨m, ?_, by omega, by omega⟩
  show j_Go X (399 + 1) 266 (13, [.ref 0, .ref (0 + 1), .ref (1076 + 1), .ref (1133 + 1), .int (Int32.ofNat i), u5, u6], []) _ _
  refine gs_iload hk_266 rfl rfl rfl ?_
  refine gs_aload hk_266 rfl rfl rfl ?_
  refine gs_alen hk_266 rfl rfl ?_
  refine gs_push (x := 4) hk_266 rfl (by decide) rfl ?_
  refine gs_bin (z := Int32.ofNat X.length - 4) hk_266 rfl rfl rfl ?_
  refine gs_icF hk_266 rfl (la_goF hi hl) rfl ?_
  refine gs_aload hk_266 rfl rfl rfl ?_
  refine gs_iload hk_266 rfl rfl rfl ?_
  refine gs_sald (z := i) (x := X.getD i 0) hk_266 rfl (by omega) hl rfl rfl ?_
  refine gs_push (x := 31) hk_266 rfl (by decide) rfl ?_
  refine gs_bin (z := 9) hk_266 rfl (la_sw hop) rfl ?_
  refine gs_sw (j := 409) hk_266 rfl rfl ?_
  refine gs_aload hk_266 rfl rfl rfl ?_
  refine gs_aload hk_266 rfl rfl rfl ?_
  refine gs_iload hk_266 rfl rfl rfl ?_
  refine gs_push (x := 1) hk_266 rfl (by decide) rfl ?_
  refine gs_bin (z := Int32.ofNat (i + 1)) hk_266 rfl la_add rfl ?_
  refine gs_sald (z := (i + 1)) (x := a1) hk_266 rfl (by omega) hl ha1 rfl ?_
  refine gs_aload hk_266 rfl rfl rfl ?_
  refine gs_call (as := [.ref (0 + 1), .int a1, .ref (1133 + 1)]) (rest := []) hk_266 rfl (Or.inr (Or.inr (Or.inl rfl))) rfl rfl rfl (Nat.not_lt.mpr (Nat.le_of_ble_eq_true rfl)) (e_up g1 (by decide : 300 ≤ 399)) rfl ?_
  refine gs_istore (L2 := [.ref 0, .ref (0 + 1), .ref (1076 + 1), .ref (1133 + 1), .int (Int32.ofNat i), .int 0, u6]) hk_266 rfl (Nat.le_of_ble_eq_true rfl) rfl rfl ?_
  refine gs_aload hk_266 rfl rfl rfl ?_
  refine gs_aload hk_266 rfl rfl rfl ?_
  refine gs_iload hk_266 rfl rfl rfl ?_
  refine gs_push (x := 1) hk_266 rfl (by decide) rfl ?_
  refine gs_bin (z := Int32.ofNat (i + 1)) hk_266 rfl la_add rfl ?_
  refine gs_sald (z := (i + 1)) (x := a1) hk_266 rfl (by omega) hl ha1 rfl ?_
  refine gs_call (as := [.ref (1076 + 1), .int a1]) (rest := []) hk_266 rfl (Or.inr (Or.inr (Or.inr ⟨Or.inl rfl, la_rcv la_1076⟩))) rfl rfl rfl (Nat.not_lt.mpr (Nat.le_of_ble_eq_true rfl)) (e_up g2 (by decide : 2 ≤ 399)) rfl ?_
  refine gs_istore (L2 := [.ref 0, .ref (0 + 1), .ref (1076 + 1), .ref (1133 + 1), .int (Int32.ofNat i), .int 0, .int v]) hk_266 rfl (Nat.le_of_ble_eq_true rfl) rfl rfl ?_
  refine gs_aload hk_266 rfl rfl rfl ?_
  refine gs_call (as := [.ref (1076 + 1)]) (rest := []) hk_266 rfl (Or.inr (Or.inr (Or.inr ⟨Or.inl rfl, la_rcv la_1076⟩))) rfl rfl rfl (Nat.not_lt.mpr (Nat.le_of_ble_eq_true rfl)) (e_up g3 (by decide : 0 ≤ 399)) rfl ?_
  refine gs_iload hk_266 rfl rfl rfl ?_
  refine gs_icT hk_266 rfl (jc_T0 rfl) ?_
  refine gs_iload hk_266 rfl rfl rfl ?_
  refine gs_ifF hk_266 rfl rfl rfl ?_
  refine gs_aload hk_266 rfl rfl rfl ?_
  refine gs_push (x := 0) hk_266 rfl (by decide) rfl ?_
  refine gs_lald (y := (v).toInt64) hk_266 rfl (by show (h2 1133 0).toInt64 = _; rw [hO]) rfl ?_
  refine gs_iload hk_266 rfl rfl rfl ?_
  refine gs_i2l hk_266 rfl rfl ?_
  refine gs_lcmp hk_266 rfl rfl ?_
  refine gs_ifT hk_266 rfl rfl ?_
  refine gs_goto hk_266 rfl ?_
  refine gs_iinc (y := Int32.ofNat (i + 4)) (L2 := [.ref 0, .ref (0 + 1), .ref (1076 + 1), .ref (1133 + 1), .int (Int32.ofNat (i + 4)), .int 0, .int v]) hk_266 rfl rfl (Option.some.inj la_add) rfl rfl ?_
  refine gs_goto hk_266 rfl ?_
  exact hm
set_option maxRecDepth 20000 in
theorem la_c9_x2 {X : List Int32} {n i : Nat} {h h2 : Hp} {a1 v : Int32} (hi : i + 4 ≤ X.length) (hl : X.length ≤ 2048) (hop : X.getD i 0 &&& 31 = 9) (ha1 : X.getD (i + 1) 0 = a1) (hC : p_106 h a1 = some (.inr 2)) (hM : p_178 (h) a1 = some (v, h2)) (hT : v_145 h2 = 1) (hK : la_at X n (i + 4) h2) : la_at X (n + 1) i h := by
  intro ca cb ce u5 u6
  obtain ⟨e1, g1⟩ := lw_255_x2 (X := X) hC ca cb ce
  obtain ⟨e2, g2⟩ := p_178_ok (X := X) hM (ca + 1) (cb + 6) e1
  obtain ⟨e3, g3⟩ := v_145_ok (X := X) (h := h2) (ca + 1) (cb + 6) e2
  rw [hT] at g3
  obtain ⟨m, hm, hc1, hc2⟩ := hK (ca + 1) (cb + 6) e3 (.int 1) (.int v)
  refine ⟨m, ?_, by omega, by omega⟩
  show j_Go X (399 + 1) 266 (13, [.ref 0, .ref (0 + 1), .ref (1076 + 1), .ref (1133 + 1), .int (Int32.ofNat i), u5, u6], []) _ _
  refine gs_iload hk_266 rfl rfl rfl ?_
  refine gs_aload hk_266 rfl rfl rfl ?_
  refine gs_alen hk_266 rfl rfl ?_
  refine gs_push (x := 4) hk_266 rfl (by decide) rfl ?_
  refine gs_bin (z := Int32.ofNat X.length - 4) hk_266 rfl rfl rfl ?_
  refine gs_icF hk_266 rfl (la_goF hi hl) rfl ?_
  refine gs_aload hk_266 rfl rfl rfl ?_
  refine gs_iload hk_266 rfl rfl rfl ?_
  refine gs_sald (z := i) (x := X.getD i 0) hk_266 rfl (by omega) hl rfl rfl ?_
  refine gs_push (x := 31) hk_266 rfl (by decide) rfl ?_
  refine gs_bin (z := 9) hk_266 rfl (la_sw hop) rfl ?_
  refine gs_sw (j := 409) hk_266 rfl rfl ?_
  refine gs_aload hk_266 rfl rfl rfl ?_
  refine gs_aload hk_266 rfl rfl rfl ?_
  refine gs_iload hk_266 rfl rfl rfl ?_
  refine gs_push (x := 1) hk_266 rfl (by decide) rfl ?_
  refine gs_bin (z := Int32.ofNat (i + 1)) hk_266 rfl la_add rfl ?_
  refine gs_sald (z := (i + 1)) (x := a1) hk_266 rfl (by omega) hl ha1 rfl ?_
  refine gs_aload hk_266 rfl rfl rfl ?_
  refine gs_call (as := [.ref (0 + 1), .int a1, .ref (1133 + 1)]) (rest := []) hk_266 rfl (Or.inr (Or.inr (Or.inl rfl))) rfl rfl rfl (Nat.not_lt.mpr (Nat.le_of_ble_eq_true rfl)) (e_up g1 (by decide : 300 ≤ 399)) rfl ?_
  refine gs_istore (L2 := [.ref 0, .ref (0 + 1), .ref (1076 + 1), .ref (1133 + 1), .int (Int32.ofNat i), .int 1, u6]) hk_266 rfl (Nat.le_of_ble_eq_true rfl) rfl rfl ?_
  refine gs_aload hk_266 rfl rfl rfl ?_
  refine gs_aload hk_266 rfl rfl rfl ?_
  refine gs_iload hk_266 rfl rfl rfl ?_
  refine gs_push (x := 1) hk_266 rfl (by decide) rfl ?_
  refine gs_bin (z := Int32.ofNat (i + 1)) hk_266 rfl la_add rfl ?_
  refine gs_sald (z := (i + 1)) (x := a1) hk_266 rfl (by omega) hl ha1 rfl ?_
  refine gs_call (as := [.ref (1076 + 1), .int a1]) (rest := []) hk_266 rfl (Or.inr (Or.inr (Or.inr ⟨Or.inl rfl, la_rcv la_1076⟩))) rfl rfl rfl (Nat.not_lt.mpr (Nat.le_of_ble_eq_true rfl)) (e_up g2 (by decide : 2 ≤ 399)) rfl ?_
  refine gs_istore (L2 := [.ref 0, .ref (0 + 1), .ref (1076 + 1), .ref (1133 + 1), .int (Int32.ofNat i), .int 1, .int v]) hk_266 rfl (Nat.le_of_ble_eq_true rfl) rfl rfl ?_
  refine gs_aload hk_266 rfl rfl rfl ?_
  refine gs_call (as := [.ref (1076 + 1)]) (rest := []) hk_266 rfl (Or.inr (Or.inr (Or.inr ⟨Or.inl rfl, la_rcv la_1076⟩))) rfl rfl rfl (Nat.not_lt.mpr (Nat.le_of_ble_eq_true rfl)) (e_up g3 (by decide : 0 ≤ 399)) rfl ?_
  refine gs_iload hk_266 rfl rfl rfl ?_
  refine gs_icT hk_266 rfl (jc_T0 rfl) ?_
  refine gs_iload hk_266 rfl rfl rfl ?_
  refine gs_ifT hk_266 rfl rfl ?_
  refine gs_goto hk_266 rfl ?_
  refine gs_iinc (y := Int32.ofNat (i + 4)) (L2 := [.ref 0, .ref (0 + 1), .ref (1076 + 1), .ref (1133 + 1), .int (Int32.ofNat (i + 4)), .int 1, .int v]) hk_266 rfl rfl (Option.some.inj la_add) rfl rfl ?_
  refine gs_goto hk_266 rfl ?_
  exact hm
set_option maxRecDepth 20000 in
theorem la_c10_n {X : List Int32} {n i : Nat} {h h1 h2 : Hp} {a1 v : Int32} (hi : i + 4 ≤ X.length) (hl : X.length ≤ 2048) (hop : X.getD i 0 &&& 31 = 10) (ha1 : X.getD (i + 1) 0 = a1) (hC : p_107 h a1 = some (.inl v, h1)) (hM : p_226 (w_up h1 1133 0 v) a1 = some (v, h2)) (hT : v_145 h2 = 0) (hO : h2 1133 0 = v) (hK : la_at X n (i + 4) h2) : la_at X (n + 1) i h := by
  intro ca cb ce u5 u6
  obtain ⟨e1, g1⟩ := lw_256_n (X := X) hC ca cb ce
  obtain ⟨e2, g2⟩ := p_226_ok (X := X) hM ca cb e1
  obtain ⟨e3, g3⟩ := v_145_ok (X := X) (h := h2) ca cb e2
  rw [hT] at g3
  obtain ⟨m, hm, hc1, hc2⟩ := hK ca cb e3 (.int 0) (.int v)
  refine ⟨m, ?_, by omega, by omega⟩
  show j_Go X (399 + 1) 266 (13, [.ref 0, .ref (0 + 1), .ref (1076 + 1), .ref (1133 + 1), .int (Int32.ofNat i), u5, u6], []) _ _
  refine gs_iload hk_266 rfl rfl rfl ?_
  refine gs_aload hk_266 rfl rfl rfl ?_
  refine gs_alen hk_266 rfl rfl ?_
  refine gs_push (x := 4) hk_266 rfl (by decide) rfl ?_
  refine gs_bin (z := Int32.ofNat X.length - 4) hk_266 rfl rfl rfl ?_
  refine gs_icF hk_266 rfl (la_goF hi hl) rfl ?_
  refine gs_aload hk_266 rfl rfl rfl ?_
  refine gs_iload hk_266 rfl rfl rfl ?_
  refine gs_sald (z := i) (x := X.getD i 0) hk_266 rfl (by omega) hl rfl rfl ?_
  refine gs_push (x := 31) hk_266 rfl (by decide) rfl ?_
  refine gs_bin (z := 10) hk_266 rfl (la_sw hop) rfl ?_
  refine gs_sw (j := 444) hk_266 rfl rfl ?_
  refine gs_aload hk_266 rfl rfl rfl ?_
  refine gs_aload hk_266 rfl rfl rfl ?_
  refine gs_iload hk_266 rfl rfl rfl ?_
  refine gs_push (x := 1) hk_266 rfl (by decide) rfl ?_
  refine gs_bin (z := Int32.ofNat (i + 1)) hk_266 rfl la_add rfl ?_
  refine gs_sald (z := (i + 1)) (x := a1) hk_266 rfl (by omega) hl ha1 rfl ?_
  refine gs_aload hk_266 rfl rfl rfl ?_
  refine gs_call (as := [.ref (0 + 1), .int a1, .ref (1133 + 1)]) (rest := []) hk_266 rfl (Or.inr (Or.inr (Or.inl rfl))) rfl rfl rfl (Nat.not_lt.mpr (Nat.le_of_ble_eq_true rfl)) (e_up g1 (by decide : 300 ≤ 399)) rfl ?_
  refine gs_istore (L2 := [.ref 0, .ref (0 + 1), .ref (1076 + 1), .ref (1133 + 1), .int (Int32.ofNat i), .int 0, u6]) hk_266 rfl (Nat.le_of_ble_eq_true rfl) rfl rfl ?_
  refine gs_aload hk_266 rfl rfl rfl ?_
  refine gs_aload hk_266 rfl rfl rfl ?_
  refine gs_iload hk_266 rfl rfl rfl ?_
  refine gs_push (x := 1) hk_266 rfl (by decide) rfl ?_
  refine gs_bin (z := Int32.ofNat (i + 1)) hk_266 rfl la_add rfl ?_
  refine gs_sald (z := (i + 1)) (x := a1) hk_266 rfl (by omega) hl ha1 rfl ?_
  refine gs_call (as := [.ref (1076 + 1), .int a1]) (rest := []) hk_266 rfl (Or.inr (Or.inr (Or.inr ⟨Or.inl rfl, la_rcv la_1076⟩))) rfl rfl rfl (Nat.not_lt.mpr (Nat.le_of_ble_eq_true rfl)) (e_up g2 (by decide : 14 ≤ 399)) rfl ?_
  refine gs_istore (L2 := [.ref 0, .ref (0 + 1), .ref (1076 + 1), .ref (1133 + 1), .int (Int32.ofNat i), .int 0, .int v]) hk_266 rfl (Nat.le_of_ble_eq_true rfl) rfl rfl ?_
  refine gs_aload hk_266 rfl rfl rfl ?_
  refine gs_call (as := [.ref (1076 + 1)]) (rest := []) hk_266 rfl (Or.inr (Or.inr (Or.inr ⟨Or.inl rfl, la_rcv la_1076⟩))) rfl rfl rfl (Nat.not_lt.mpr (Nat.le_of_ble_eq_true rfl)) (e_up g3 (by decide : 0 ≤ 399)) rfl ?_
  refine gs_iload hk_266 rfl rfl rfl ?_
  refine gs_icT hk_266 rfl (jc_T0 rfl) ?_
  refine gs_iload hk_266 rfl rfl rfl ?_
  refine gs_ifF hk_266 rfl rfl rfl ?_
  refine gs_aload hk_266 rfl rfl rfl ?_
  refine gs_push (x := 0) hk_266 rfl (by decide) rfl ?_
  refine gs_lald (y := (v).toInt64) hk_266 rfl (by show (h2 1133 0).toInt64 = _; rw [hO]) rfl ?_
  refine gs_iload hk_266 rfl rfl rfl ?_
  refine gs_i2l hk_266 rfl rfl ?_
  refine gs_lcmp hk_266 rfl rfl ?_
  refine gs_ifT hk_266 rfl rfl ?_
  refine gs_goto hk_266 rfl ?_
  refine gs_iinc (y := Int32.ofNat (i + 4)) (L2 := [.ref 0, .ref (0 + 1), .ref (1076 + 1), .ref (1133 + 1), .int (Int32.ofNat (i + 4)), .int 0, .int v]) hk_266 rfl rfl (Option.some.inj la_add) rfl rfl ?_
  refine gs_goto hk_266 rfl ?_
  exact hm
set_option maxRecDepth 20000 in
theorem la_c10_x2 {X : List Int32} {n i : Nat} {h h1 h2 : Hp} {a1 v : Int32} (hi : i + 4 ≤ X.length) (hl : X.length ≤ 2048) (hop : X.getD i 0 &&& 31 = 10) (ha1 : X.getD (i + 1) 0 = a1) (hC : p_107 h a1 = some (.inr 2, h1)) (hM : p_226 (h1) a1 = some (v, h2)) (hT : v_145 h2 = 1) (hK : la_at X n (i + 4) h2) : la_at X (n + 1) i h := by
  intro ca cb ce u5 u6
  obtain ⟨e1, g1⟩ := lw_256_x2 (X := X) hC ca cb ce
  obtain ⟨e2, g2⟩ := p_226_ok (X := X) hM (ca + 1) (cb + 6) e1
  obtain ⟨e3, g3⟩ := v_145_ok (X := X) (h := h2) (ca + 1) (cb + 6) e2
  rw [hT] at g3
  obtain ⟨m, hm, hc1, hc2⟩ := hK (ca + 1) (cb + 6) e3 (.int 1) (.int v)
  refine ⟨m, ?_, by omega, by omega⟩
  show j_Go X (399 + 1) 266 (13, [.ref 0, .ref (0 + 1), .ref (1076 + 1), .ref (1133 + 1), .int (Int32.ofNat i), u5, u6], []) _ _
  refine gs_iload hk_266 rfl rfl rfl ?_
  refine gs_aload hk_266 rfl rfl rfl ?_
  refine gs_alen hk_266 rfl rfl ?_
  refine gs_push (x := 4) hk_266 rfl (by decide) rfl ?_
  refine gs_bin (z := Int32.ofNat X.length - 4) hk_266 rfl rfl rfl ?_
  refine gs_icF hk_266 rfl (la_goF hi hl) rfl ?_
  refine gs_aload hk_266 rfl rfl rfl ?_
  refine gs_iload hk_266 rfl rfl rfl ?_
  refine gs_sald (z := i) (x := X.getD i 0) hk_266 rfl (by omega) hl rfl rfl ?_
  refine gs_push (x := 31) hk_266 rfl (by decide) rfl ?_
  refine gs_bin (z := 10) hk_266 rfl (la_sw hop) rfl ?_
  refine gs_sw (j := 444) hk_266 rfl rfl ?_
  refine gs_aload hk_266 rfl rfl rfl ?_
  refine gs_aload hk_266 rfl rfl rfl ?_
  refine gs_iload hk_266 rfl rfl rfl ?_
  refine gs_push (x := 1) hk_266 rfl (by decide) rfl ?_
  refine gs_bin (z := Int32.ofNat (i + 1)) hk_266 rfl la_add rfl ?_
  refine gs_sald (z := (i + 1)) (x := a1) hk_266 rfl (by omega) hl ha1 rfl ?_
  refine gs_aload hk_266 rfl rfl rfl ?_
  refine gs_call (as := [.ref (0 + 1), .int a1, .ref (1133 + 1)]) (rest := []) hk_266 rfl (Or.inr (Or.inr (Or.inl rfl))) rfl rfl rfl (Nat.not_lt.mpr (Nat.le_of_ble_eq_true rfl)) (e_up g1 (by decide : 300 ≤ 399)) rfl ?_
  refine gs_istore (L2 := [.ref 0, .ref (0 + 1), .ref (1076 + 1), .ref (1133 + 1), .int (Int32.ofNat i), .int 1, u6]) hk_266 rfl (Nat.le_of_ble_eq_true rfl) rfl rfl ?_
  refine gs_aload hk_266 rfl rfl rfl ?_
  refine gs_aload hk_266 rfl rfl rfl ?_
  refine gs_iload hk_266 rfl rfl rfl ?_
  refine gs_push (x := 1) hk_266 rfl (by decide) rfl ?_
  refine gs_bin (z := Int32.ofNat (i + 1)) hk_266 rfl la_add rfl ?_
  refine gs_sald (z := (i + 1)) (x := a1) hk_266 rfl (by omega) hl ha1 rfl ?_
  refine gs_call (as := [.ref (1076 + 1), .int a1]) (rest := []) hk_266 rfl (Or.inr (Or.inr (Or.inr ⟨Or.inl rfl, la_rcv la_1076⟩))) rfl rfl rfl (Nat.not_lt.mpr (Nat.le_of_ble_eq_true rfl)) (e_up g2 (by decide : 14 ≤ 399)) rfl ?_
  refine gs_istore (L2 := [.ref 0, .ref (0 + 1), .ref (1076 + 1), .ref (1133 + 1), .int (Int32.ofNat i), .int 1, .int v]) hk_266 rfl (Nat.le_of_ble_eq_true rfl) rfl rfl ?_
  refine gs_aload hk_266 rfl rfl rfl ?_
  refine gs_call (as := [.ref (1076 + 1)]) (rest := []) hk_266 rfl (Or.inr (Or.inr (Or.inr ⟨Or.inl rfl, la_rcv la_1076⟩))) rfl rfl rfl (Nat.not_lt.mpr (Nat.le_of_ble_eq_true rfl)) (e_up g3 (by decide : 0 ≤ 399)) rfl ?_
  refine gs_iload hk_266 rfl rfl rfl ?_
  refine gs_icT hk_266 rfl (jc_T0 rfl) ?_
  refine gs_iload hk_266 rfl rfl rfl ?_
  refine gs_ifT hk_266 rfl rfl ?_
  refine gs_goto hk_266 rfl ?_
  refine gs_iinc (y := Int32.ofNat (i + 4)) (L2 := [.ref 0, .ref (0 + 1), .ref (1076 + 1), .ref (1133 + 1), .int (Int32.ofNat (i + 4)), .int 1, .int v]) hk_266 rfl rfl (Option.some.inj la_add) rfl rfl ?_
  refine gs_goto hk_266 rfl ?_
  exact hm
set_option maxRecDepth 20000 in
theorem la_c10_x1 {X : List Int32} {n i : Nat} {h h1 h2 : Hp} {a1 v : Int32} (hi : i + 4 ≤ X.length) (hl : X.length ≤ 2048) (hop : X.getD i 0 &&& 31 = 10) (ha1 : X.getD (i + 1) 0 = a1) (hC : p_107 h a1 = some (.inr 1, h1)) (hM : p_226 (h1) a1 = some (v, h2)) (hT : v_145 h2 = 2) (hK : la_at X n (i + 4) h2) : la_at X (n + 1) i h := by
  intro ca cb ce u5 u6
  obtain ⟨e1, g1⟩ := lw_256_x1 (X := X) hC ca cb ce
  obtain ⟨e2, g2⟩ := p_226_ok (X := X) hM (ca + 1) (cb + 6) e1
  obtain ⟨e3, g3⟩ := v_145_ok (X := X) (h := h2) (ca + 1) (cb + 6) e2
  rw [hT] at g3
  obtain ⟨m, hm, hc1, hc2⟩ := hK (ca + 1) (cb + 6) e3 (.int 2) (.int v)
  refine ⟨m, ?_, by omega, by omega⟩
  show j_Go X (399 + 1) 266 (13, [.ref 0, .ref (0 + 1), .ref (1076 + 1), .ref (1133 + 1), .int (Int32.ofNat i), u5, u6], []) _ _
  refine gs_iload hk_266 rfl rfl rfl ?_
  refine gs_aload hk_266 rfl rfl rfl ?_
  refine gs_alen hk_266 rfl rfl ?_
  refine gs_push (x := 4) hk_266 rfl (by decide) rfl ?_
  refine gs_bin (z := Int32.ofNat X.length - 4) hk_266 rfl rfl rfl ?_
  refine gs_icF hk_266 rfl (la_goF hi hl) rfl ?_
  refine gs_aload hk_266 rfl rfl rfl ?_
  refine gs_iload hk_266 rfl rfl rfl ?_
  refine gs_sald (z := i) (x := X.getD i 0) hk_266 rfl (by omega) hl rfl rfl ?_
  refine gs_push (x := 31) hk_266 rfl (by decide) rfl ?_
  refine gs_bin (z := 10) hk_266 rfl (la_sw hop) rfl ?_
  refine gs_sw (j := 444) hk_266 rfl rfl ?_
  refine gs_aload hk_266 rfl rfl rfl ?_
  refine gs_aload hk_266 rfl rfl rfl ?_
  refine gs_iload hk_266 rfl rfl rfl ?_
  refine gs_push (x := 1) hk_266 rfl (by decide) rfl ?_
  refine gs_bin (z := Int32.ofNat (i + 1)) hk_266 rfl la_add rfl ?_
  refine gs_sald (z := (i + 1)) (x := a1) hk_266 rfl (by omega) hl ha1 rfl ?_
  refine gs_aload hk_266 rfl rfl rfl ?_
  refine gs_call (as := [.ref (0 + 1), .int a1, .ref (1133 + 1)]) (rest := []) hk_266 rfl (Or.inr (Or.inr (Or.inl rfl))) rfl rfl rfl (Nat.not_lt.mpr (Nat.le_of_ble_eq_true rfl)) (e_up g1 (by decide : 300 ≤ 399)) rfl ?_
  refine gs_istore (L2 := [.ref 0, .ref (0 + 1), .ref (1076 + 1), .ref (1133 + 1), .int (Int32.ofNat i), .int 2, u6]) hk_266 rfl (Nat.le_of_ble_eq_true rfl) rfl rfl ?_
  refine gs_aload hk_266 rfl rfl rfl ?_
  refine gs_aload hk_266 rfl rfl rfl ?_
  refine gs_iload hk_266 rfl rfl rfl ?_
  refine gs_push (x := 1) hk_266 rfl (by decide) rfl ?_
  refine gs_bin (z := Int32.ofNat (i + 1)) hk_266 rfl la_add rfl ?_
  refine gs_sald (z := (i + 1)) (x := a1) hk_266 rfl (by omega) hl ha1 rfl ?_
  refine gs_call (as := [.ref (1076 + 1), .int a1]) (rest := []) hk_266 rfl (Or.inr (Or.inr (Or.inr ⟨Or.inl rfl, la_rcv la_1076⟩))) rfl rfl rfl (Nat.not_lt.mpr (Nat.le_of_ble_eq_true rfl)) (e_up g2 (by decide : 14 ≤ 399)) rfl ?_
  refine gs_istore (L2 := [.ref 0, .ref (0 + 1), .ref (1076 + 1), .ref (1133 + 1), .int (Int32.ofNat i), .int 2, .int v]) hk_266 rfl (Nat.le_of_ble_eq_true rfl) rfl rfl ?_
  refine gs_aload hk_266 rfl rfl rfl ?_
  refine gs_call (as := [.ref (1076 + 1)]) (rest := []) hk_266 rfl (Or.inr (Or.inr (Or.inr ⟨Or.inl rfl, la_rcv la_1076⟩))) rfl rfl rfl (Nat.not_lt.mpr (Nat.le_of_ble_eq_true rfl)) (e_up g3 (by decide : 0 ≤ 399)) rfl ?_
  refine gs_iload hk_266 rfl rfl rfl ?_
  refine gs_icT hk_266 rfl (jc_T0 rfl) ?_
  refine gs_iload hk_266 rfl rfl rfl ?_
  refine gs_ifT hk_266 rfl rfl ?_
  refine gs_goto hk_266 rfl ?_
  refine gs_iinc (y := Int32.ofNat (i + 4)) (L2 := [.ref 0, .ref (0 + 1), .ref (1076 + 1), .ref (1133 + 1), .int (Int32.ofNat (i + 4)), .int 2, .int v]) hk_266 rfl rfl (Option.some.inj la_add) rfl rfl ?_
  refine gs_goto hk_266 rfl ?_
  exact hm
set_option maxRecDepth 20000 in
theorem la_c11_n {X : List Int32} {n i : Nat} {h h1 h2 : Hp} {v : Int32} (hi : i + 4 ≤ X.length) (hl : X.length ≤ 2048) (hop : X.getD i 0 &&& 31 = 11) (hC : p_108 h = some (v, h1)) (hM : p_227 (h1) = some (v, h2)) (hK : la_at X n (i + 4) h2) : la_at X (n + 1) i h := by
  intro ca cb ce u5 u6
  obtain ⟨e1, g1⟩ := p_108_ok (X := X) hC ca cb ce
  obtain ⟨e2, g2⟩ := p_227_ok (X := X) hM ca cb e1
  obtain ⟨m, hm, hc1, hc2⟩ := hK ca cb e2 (u5) (u6)
  refine ⟨m, ?_, by omega, by omega⟩
  show j_Go X (399 + 1) 266 (13, [.ref 0, .ref (0 + 1), .ref (1076 + 1), .ref (1133 + 1), .int (Int32.ofNat i), u5, u6], []) _ _
  refine gs_iload hk_266 rfl rfl rfl ?_
  refine gs_aload hk_266 rfl rfl rfl ?_
  refine gs_alen hk_266 rfl rfl ?_
  refine gs_push (x := 4) hk_266 rfl (by decide) rfl ?_
  refine gs_bin (z := Int32.ofNat X.length - 4) hk_266 rfl rfl rfl ?_
  refine gs_icF hk_266 rfl (la_goF hi hl) rfl ?_
  refine gs_aload hk_266 rfl rfl rfl ?_
  refine gs_iload hk_266 rfl rfl rfl ?_
  refine gs_sald (z := i) (x := X.getD i 0) hk_266 rfl (by omega) hl rfl rfl ?_
  refine gs_push (x := 31) hk_266 rfl (by decide) rfl ?_
  refine gs_bin (z := 11) hk_266 rfl (la_sw hop) rfl ?_
  refine gs_sw (j := 479) hk_266 rfl rfl ?_
  refine gs_aload hk_266 rfl rfl rfl ?_
  refine gs_call (as := [.ref (0 + 1)]) (rest := []) hk_266 rfl (Or.inr (Or.inr (Or.inr ⟨Or.inl rfl, la_rcv wc_0⟩))) rfl rfl rfl (Nat.not_lt.mpr (Nat.le_of_ble_eq_true rfl)) (e_up g1 (by decide : 5 ≤ 399)) rfl ?_
  refine gs_aload hk_266 rfl rfl rfl ?_
  refine gs_call (as := [.ref (1076 + 1)]) (rest := [.int v]) hk_266 rfl (Or.inr (Or.inr (Or.inr ⟨Or.inl rfl, la_rcv la_1076⟩))) rfl rfl rfl (Nat.not_lt.mpr (Nat.le_of_ble_eq_true rfl)) (e_up g2 (by decide : 7 ≤ 399)) rfl ?_
  refine gs_icT hk_266 rfl (jc_T0 rfl) ?_
  refine gs_iinc (y := Int32.ofNat (i + 4)) (L2 := [.ref 0, .ref (0 + 1), .ref (1076 + 1), .ref (1133 + 1), .int (Int32.ofNat (i + 4)), u5, u6]) hk_266 rfl rfl (Option.some.inj la_add) rfl rfl ?_
  refine gs_goto hk_266 rfl ?_
  exact hm
set_option maxRecDepth 20000 in
theorem la_c12_n {X : List Int32} {n i : Nat} {h h1 h2 : Hp} {v : Int32} (hi : i + 4 ≤ X.length) (hl : X.length ≤ 2048) (hop : X.getD i 0 &&& 31 = 12) (hC : p_109 h = some (v, h1)) (hM : p_228 (h1) = some (v, h2)) (hK : la_at X n (i + 4) h2) : la_at X (n + 1) i h := by
  intro ca cb ce u5 u6
  obtain ⟨e1, g1⟩ := p_109_ok (X := X) hC ca cb ce
  obtain ⟨e2, g2⟩ := p_228_ok (X := X) hM ca cb e1
  obtain ⟨m, hm, hc1, hc2⟩ := hK ca cb e2 (u5) (u6)
  refine ⟨m, ?_, by omega, by omega⟩
  show j_Go X (399 + 1) 266 (13, [.ref 0, .ref (0 + 1), .ref (1076 + 1), .ref (1133 + 1), .int (Int32.ofNat i), u5, u6], []) _ _
  refine gs_iload hk_266 rfl rfl rfl ?_
  refine gs_aload hk_266 rfl rfl rfl ?_
  refine gs_alen hk_266 rfl rfl ?_
  refine gs_push (x := 4) hk_266 rfl (by decide) rfl ?_
  refine gs_bin (z := Int32.ofNat X.length - 4) hk_266 rfl rfl rfl ?_
  refine gs_icF hk_266 rfl (la_goF hi hl) rfl ?_
  refine gs_aload hk_266 rfl rfl rfl ?_
  refine gs_iload hk_266 rfl rfl rfl ?_
  refine gs_sald (z := i) (x := X.getD i 0) hk_266 rfl (by omega) hl rfl rfl ?_
  refine gs_push (x := 31) hk_266 rfl (by decide) rfl ?_
  refine gs_bin (z := 12) hk_266 rfl (la_sw hop) rfl ?_
  refine gs_sw (j := 486) hk_266 rfl rfl ?_
  refine gs_aload hk_266 rfl rfl rfl ?_
  refine gs_call (as := [.ref (0 + 1)]) (rest := []) hk_266 rfl (Or.inr (Or.inr (Or.inr ⟨Or.inl rfl, la_rcv wc_0⟩))) rfl rfl rfl (Nat.not_lt.mpr (Nat.le_of_ble_eq_true rfl)) (e_up g1 (by decide : 5 ≤ 399)) rfl ?_
  refine gs_aload hk_266 rfl rfl rfl ?_
  refine gs_call (as := [.ref (1076 + 1)]) (rest := [.int v]) hk_266 rfl (Or.inr (Or.inr (Or.inr ⟨Or.inl rfl, la_rcv la_1076⟩))) rfl rfl rfl (Nat.not_lt.mpr (Nat.le_of_ble_eq_true rfl)) (e_up g2 (by decide : 7 ≤ 399)) rfl ?_
  refine gs_icT hk_266 rfl (jc_T0 rfl) ?_
  refine gs_iinc (y := Int32.ofNat (i + 4)) (L2 := [.ref 0, .ref (0 + 1), .ref (1076 + 1), .ref (1133 + 1), .int (Int32.ofNat (i + 4)), u5, u6]) hk_266 rfl rfl (Option.some.inj la_add) rfl rfl ?_
  refine gs_goto hk_266 rfl ?_
  exact hm
set_option maxRecDepth 20000 in
theorem la_c13_n {X : List Int32} {n i : Nat} {h h1 h2 : Hp} {v : Int32} (hi : i + 4 ≤ X.length) (hl : X.length ≤ 2048) (hop : X.getD i 0 &&& 31 = 13) (hC : p_110 h = some (.inl v, h1)) (hM : p_231 (w_up h1 1133 0 v) = some (v, h2)) (hT : v_145 h2 = 0) (hO : h2 1133 0 = v) (hK : la_at X n (i + 4) h2) : la_at X (n + 1) i h := by
  intro ca cb ce u5 u6
  obtain ⟨e1, g1⟩ := lw_257_n (X := X) hC ca cb ce
  obtain ⟨e2, g2⟩ := p_231_ok (X := X) hM ca cb e1
  obtain ⟨e3, g3⟩ := v_145_ok (X := X) (h := h2) ca cb e2
  rw [hT] at g3
  obtain ⟨m, hm, hc1, hc2⟩ := hK ca cb e3 (.int 0) (.int v)
  refine ⟨m, ?_, by omega, by omega⟩
  show j_Go X (399 + 1) 266 (13, [.ref 0, .ref (0 + 1), .ref (1076 + 1), .ref (1133 + 1), .int (Int32.ofNat i), u5, u6], []) _ _
  refine gs_iload hk_266 rfl rfl rfl ?_
  refine gs_aload hk_266 rfl rfl rfl ?_
  refine gs_alen hk_266 rfl rfl ?_
  refine gs_push (x := 4) hk_266 rfl (by decide) rfl ?_
  refine gs_bin (z := Int32.ofNat X.length - 4) hk_266 rfl rfl rfl ?_
  refine gs_icF hk_266 rfl (la_goF hi hl) rfl ?_
  refine gs_aload hk_266 rfl rfl rfl ?_
  refine gs_iload hk_266 rfl rfl rfl ?_
  refine gs_sald (z := i) (x := X.getD i 0) hk_266 rfl (by omega) hl rfl rfl ?_
  refine gs_push (x := 31) hk_266 rfl (by decide) rfl ?_
  refine gs_bin (z := 13) hk_266 rfl (la_sw hop) rfl ?_
  refine gs_sw (j := 493) hk_266 rfl rfl ?_
  refine gs_aload hk_266 rfl rfl rfl ?_
  refine gs_aload hk_266 rfl rfl rfl ?_
  refine gs_call (as := [.ref (0 + 1), .ref (1133 + 1)]) (rest := []) hk_266 rfl (Or.inr (Or.inr (Or.inl rfl))) rfl rfl rfl (Nat.not_lt.mpr (Nat.le_of_ble_eq_true rfl)) (e_up g1 (by decide : 300 ≤ 399)) rfl ?_
  refine gs_istore (L2 := [.ref 0, .ref (0 + 1), .ref (1076 + 1), .ref (1133 + 1), .int (Int32.ofNat i), .int 0, u6]) hk_266 rfl (Nat.le_of_ble_eq_true rfl) rfl rfl ?_
  refine gs_aload hk_266 rfl rfl rfl ?_
  refine gs_call (as := [.ref (1076 + 1)]) (rest := []) hk_266 rfl (Or.inr (Or.inr (Or.inr ⟨Or.inl rfl, la_rcv la_1076⟩))) rfl rfl rfl (Nat.not_lt.mpr (Nat.le_of_ble_eq_true rfl)) (e_up g2 (by decide : 12 ≤ 399)) rfl ?_
  refine gs_istore (L2 := [.ref 0, .ref (0 + 1), .ref (1076 + 1), .ref (1133 + 1), .int (Int32.ofNat i), .int 0, .int v]) hk_266 rfl (Nat.le_of_ble_eq_true rfl) rfl rfl ?_
  refine gs_aload hk_266 rfl rfl rfl ?_
  refine gs_call (as := [.ref (1076 + 1)]) (rest := []) hk_266 rfl (Or.inr (Or.inr (Or.inr ⟨Or.inl rfl, la_rcv la_1076⟩))) rfl rfl rfl (Nat.not_lt.mpr (Nat.le_of_ble_eq_true rfl)) (e_up g3 (by decide : 0 ≤ 399)) rfl ?_
  refine gs_iload hk_266 rfl rfl rfl ?_
  refine gs_icT hk_266 rfl (jc_T0 rfl) ?_
  refine gs_iload hk_266 rfl rfl rfl ?_
  refine gs_ifF hk_266 rfl rfl rfl ?_
  refine gs_aload hk_266 rfl rfl rfl ?_
  refine gs_push (x := 0) hk_266 rfl (by decide) rfl ?_
  refine gs_lald (y := (v).toInt64) hk_266 rfl (by show (h2 1133 0).toInt64 = _; rw [hO]) rfl ?_
  refine gs_iload hk_266 rfl rfl rfl ?_
  refine gs_i2l hk_266 rfl rfl ?_
  refine gs_lcmp hk_266 rfl rfl ?_
  refine gs_ifT hk_266 rfl rfl ?_
  refine gs_goto hk_266 rfl ?_
  refine gs_iinc (y := Int32.ofNat (i + 4)) (L2 := [.ref 0, .ref (0 + 1), .ref (1076 + 1), .ref (1133 + 1), .int (Int32.ofNat (i + 4)), .int 0, .int v]) hk_266 rfl rfl (Option.some.inj la_add) rfl rfl ?_
  refine gs_goto hk_266 rfl ?_
  exact hm
set_option maxRecDepth 20000 in
theorem la_c13_x1 {X : List Int32} {n i : Nat} {h h1 h2 : Hp} {v : Int32} (hi : i + 4 ≤ X.length) (hl : X.length ≤ 2048) (hop : X.getD i 0 &&& 31 = 13) (hC : p_110 h = some (.inr 1, h1)) (hM : p_231 (h1) = some (v, h2)) (hT : v_145 h2 = 1) (hK : la_at X n (i + 4) h2) : la_at X (n + 1) i h := by
  intro ca cb ce u5 u6
  obtain ⟨e1, g1⟩ := lw_257_x1 (X := X) hC ca cb ce
  obtain ⟨e2, g2⟩ := p_231_ok (X := X) hM (ca + 1) (cb + 6) e1
  obtain ⟨e3, g3⟩ := v_145_ok (X := X) (h := h2) (ca + 1) (cb + 6) e2
  rw [hT] at g3
  obtain ⟨m, hm, hc1, hc2⟩ := hK (ca + 1) (cb + 6) e3 (.int 1) (.int v)
  refine ⟨m, ?_, by omega, by omega⟩
  show j_Go X (399 + 1) 266 (13, [.ref 0, .ref (0 + 1), .ref (1076 + 1), .ref (1133 + 1), .int (Int32.ofNat i), u5, u6], []) _ _
  refine gs_iload hk_266 rfl rfl rfl ?_
  refine gs_aload hk_266 rfl rfl rfl ?_
  refine gs_alen hk_266 rfl rfl ?_
  refine gs_push (x := 4) hk_266 rfl (by decide) rfl ?_
  refine gs_bin (z := Int32.ofNat X.length - 4) hk_266 rfl rfl rfl ?_
  refine gs_icF hk_266 rfl (la_goF hi hl) rfl ?_
  refine gs_aload hk_266 rfl rfl rfl ?_
  refine gs_iload hk_266 rfl rfl rfl ?_
  refine gs_sald (z := i) (x := X.getD i 0) hk_266 rfl (by omega) hl rfl rfl ?_
  refine gs_push (x := 31) hk_266 rfl (by decide) rfl ?_
  refine gs_bin (z := 13) hk_266 rfl (la_sw hop) rfl ?_
  refine gs_sw (j := 493) hk_266 rfl rfl ?_
  refine gs_aload hk_266 rfl rfl rfl ?_
  refine gs_aload hk_266 rfl rfl rfl ?_
  refine gs_call (as := [.ref (0 + 1), .ref (1133 + 1)]) (rest := []) hk_266 rfl (Or.inr (Or.inr (Or.inl rfl))) rfl rfl rfl (Nat.not_lt.mpr (Nat.le_of_ble_eq_true rfl)) (e_up g1 (by decide : 300 ≤ 399)) rfl ?_
  refine gs_istore (L2 := [.ref 0, .ref (0 + 1), .ref (1076 + 1), .ref (1133 + 1), .int (Int32.ofNat i), .int 1, u6]) hk_266 rfl (Nat.le_of_ble_eq_true rfl) rfl rfl ?_
  refine gs_aload hk_266 rfl rfl rfl ?_
  refine gs_call (as := [.ref (1076 + 1)]) (rest := []) hk_266 rfl (Or.inr (Or.inr (Or.inr ⟨Or.inl rfl, la_rcv la_1076⟩))) rfl rfl rfl (Nat.not_lt.mpr (Nat.le_of_ble_eq_true rfl)) (e_up g2 (by decide : 12 ≤ 399)) rfl ?_
  refine gs_istore (L2 := [.ref 0, .ref (0 + 1), .ref (1076 + 1), .ref (1133 + 1), .int (Int32.ofNat i), .int 1, .int v]) hk_266 rfl (Nat.le_of_ble_eq_true rfl) rfl rfl ?_
  refine gs_aload hk_266 rfl rfl rfl ?_
  refine gs_call (as := [.ref (1076 + 1)]) (rest := []) hk_266 rfl (Or.inr (Or.inr (Or.inr ⟨Or.inl rfl, la_rcv la_1076⟩))) rfl rfl rfl (Nat.not_lt.mpr (Nat.le_of_ble_eq_true rfl)) (e_up g3 (by decide : 0 ≤ 399)) rfl ?_
  refine gs_iload hk_266 rfl rfl rfl ?_
  refine gs_icT hk_266 rfl (jc_T0 rfl) ?_
  refine gs_iload hk_266 rfl rfl rfl ?_
  refine gs_ifT hk_266 rfl rfl ?_
  refine gs_goto hk_266 rfl ?_
  refine gs_iinc (y := Int32.ofNat (i + 4)) (L2 := [.ref 0, .ref (0 + 1), .ref (1076 + 1), .ref (1133 + 1), .int (Int32.ofNat (i + 4)), .int 1, .int v]) hk_266 rfl rfl (Option.some.inj la_add) rfl rfl ?_
  refine gs_goto hk_266 rfl ?_
  exact hm
set_option maxRecDepth 20000 in
theorem la_c14_n {X : List Int32} {n i : Nat} {h h1 h2 : Hp} {a1 v : Int32} (hi : i + 4 ≤ X.length) (hl : X.length ≤ 2048) (hop : X.getD i 0 &&& 31 = 14) (ha1 : X.getD (i + 1) 0 = a1) (hC : p_111 h a1 = some (.inl v, h1)) (hM : p_232 (w_up h1 1133 0 v) a1 = some (v, h2)) (hT : v_145 h2 = 0) (hO : h2 1133 0 = v) (hK : la_at X n (i + 4) h2) : la_at X (n + 1) i h := by
  intro ca cb ce u5 u6
  obtain ⟨e1, g1⟩ := lw_258_n (X := X) hC ca cb ce
  obtain ⟨e2, g2⟩ := p_232_ok (X := X) hM ca cb e1
  obtain ⟨e3, g3⟩ := v_145_ok (X := X) (h := h2) ca cb e2
  rw [hT] at g3
  obtain ⟨m, hm, hc1, hc2⟩ := hK ca cb e3 (.int 0) (.int v)
  refine ⟨m, ?_, by omega, by omega⟩
  show j_Go X (399 + 1) 266 (13, [.ref 0, .ref (0 + 1), .ref (1076 + 1), .ref (1133 + 1), .int (Int32.ofNat i), u5, u6], []) _ _
  refine gs_iload hk_266 rfl rfl rfl ?_
  refine gs_aload hk_266 rfl rfl rfl ?_
  refine gs_alen hk_266 rfl rfl ?_
  refine gs_push (x := 4) hk_266 rfl (by decide) rfl ?_
  refine gs_bin (z := Int32.ofNat X.length - 4) hk_266 rfl rfl rfl ?_
  refine gs_icF hk_266 rfl (la_goF hi hl) rfl ?_
  refine gs_aload hk_266 rfl rfl rfl ?_
  refine gs_iload hk_266 rfl rfl rfl ?_
  refine gs_sald (z := i) (x := X.getD i 0) hk_266 rfl (by omega) hl rfl rfl ?_
  refine gs_push (x := 31) hk_266 rfl (by decide) rfl ?_
  refine gs_bin (z := 14) hk_266 rfl (la_sw hop) rfl ?_
  refine gs_sw (j := 518) hk_266 rfl rfl ?_
  refine gs_aload hk_266 rfl rfl rfl ?_
  refine gs_aload hk_266 rfl rfl rfl ?_
  refine gs_iload hk_266 rfl rfl rfl ?_
  refine gs_push (x := 1) hk_266 rfl (by decide) rfl ?_
  refine gs_bin (z := Int32.ofNat (i + 1)) hk_266 rfl la_add rfl ?_
  refine gs_sald (z := (i + 1)) (x := a1) hk_266 rfl (by omega) hl ha1 rfl ?_
  refine gs_aload hk_266 rfl rfl rfl ?_
  refine gs_call (as := [.ref (0 + 1), .int a1, .ref (1133 + 1)]) (rest := []) hk_266 rfl (Or.inr (Or.inr (Or.inl rfl))) rfl rfl rfl (Nat.not_lt.mpr (Nat.le_of_ble_eq_true rfl)) (e_up g1 (by decide : 300 ≤ 399)) rfl ?_
  refine gs_istore (L2 := [.ref 0, .ref (0 + 1), .ref (1076 + 1), .ref (1133 + 1), .int (Int32.ofNat i), .int 0, u6]) hk_266 rfl (Nat.le_of_ble_eq_true rfl) rfl rfl ?_
  refine gs_aload hk_266 rfl rfl rfl ?_
  refine gs_aload hk_266 rfl rfl rfl ?_
  refine gs_iload hk_266 rfl rfl rfl ?_
  refine gs_push (x := 1) hk_266 rfl (by decide) rfl ?_
  refine gs_bin (z := Int32.ofNat (i + 1)) hk_266 rfl la_add rfl ?_
  refine gs_sald (z := (i + 1)) (x := a1) hk_266 rfl (by omega) hl ha1 rfl ?_
  refine gs_call (as := [.ref (1076 + 1), .int a1]) (rest := []) hk_266 rfl (Or.inr (Or.inr (Or.inr ⟨Or.inl rfl, la_rcv la_1076⟩))) rfl rfl rfl (Nat.not_lt.mpr (Nat.le_of_ble_eq_true rfl)) (e_up g2 (by decide : 7 ≤ 399)) rfl ?_
  refine gs_istore (L2 := [.ref 0, .ref (0 + 1), .ref (1076 + 1), .ref (1133 + 1), .int (Int32.ofNat i), .int 0, .int v]) hk_266 rfl (Nat.le_of_ble_eq_true rfl) rfl rfl ?_
  refine gs_aload hk_266 rfl rfl rfl ?_
  refine gs_call (as := [.ref (1076 + 1)]) (rest := []) hk_266 rfl (Or.inr (Or.inr (Or.inr ⟨Or.inl rfl, la_rcv la_1076⟩))) rfl rfl rfl (Nat.not_lt.mpr (Nat.le_of_ble_eq_true rfl)) (e_up g3 (by decide : 0 ≤ 399)) rfl ?_
  refine gs_iload hk_266 rfl rfl rfl ?_
  refine gs_icT hk_266 rfl (jc_T0 rfl) ?_
  refine gs_iload hk_266 rfl rfl rfl ?_
  refine gs_ifF hk_266 rfl rfl rfl ?_
  refine gs_aload hk_266 rfl rfl rfl ?_
  refine gs_push (x := 0) hk_266 rfl (by decide) rfl ?_
  refine gs_lald (y := (v).toInt64) hk_266 rfl (by show (h2 1133 0).toInt64 = _; rw [hO]) rfl ?_
  refine gs_iload hk_266 rfl rfl rfl ?_
  refine gs_i2l hk_266 rfl rfl ?_
  refine gs_lcmp hk_266 rfl rfl ?_
  refine gs_ifT hk_266 rfl rfl ?_
  refine gs_goto hk_266 rfl ?_
  refine gs_iinc (y := Int32.ofNat (i + 4)) (L2 := [.ref 0, .ref (0 + 1), .ref (1076 + 1), .ref (1133 + 1), .int (Int32.ofNat (i + 4)), .int 0, .int v]) hk_266 rfl rfl (Option.some.inj la_add) rfl rfl ?_
  refine gs_goto hk_266 rfl ?_
  exact hm
set_option maxRecDepth 20000 in
theorem la_c14_x2 {X : List Int32} {n i : Nat} {h h1 h2 : Hp} {a1 v : Int32} (hi : i + 4 ≤ X.length) (hl : X.length ≤ 2048) (hop : X.getD i 0 &&& 31 = 14) (ha1 : X.getD (i + 1) 0 = a1) (hC : p_111 h a1 = some (.inr 2, h1)) (hM : p_232 (h1) a1 = some (v, h2)) (hT : v_145 h2 = 1) (hK : la_at X n (i + 4) h2) : la_at X (n + 1) i h := by
  intro ca cb ce u5 u6
  obtain ⟨e1, g1⟩ := lw_258_x2 (X := X) hC ca cb ce
  obtain ⟨e2, g2⟩ := p_232_ok (X := X) hM (ca + 1) (cb + 6) e1
  obtain ⟨e3, g3⟩ := v_145_ok (X := X) (h := h2) (ca + 1) (cb + 6) e2
  rw [hT] at g3
  obtain ⟨m, hm, hc1, hc2⟩ := hK (ca + 1) (cb + 6) e3 (.int 1) (.int v)
  refine ⟨m, ?_, by omega, by omega⟩
  show j_Go X (399 + 1) 266 (13, [.ref 0, .ref (0 + 1), .ref (1076 + 1), .ref (1133 + 1), .int (Int32.ofNat i), u5, u6], []) _ _
  refine gs_iload hk_266 rfl rfl rfl ?_
  refine gs_aload hk_266 rfl rfl rfl ?_
  refine gs_alen hk_266 rfl rfl ?_
  refine gs_push (x := 4) hk_266 rfl (by decide) rfl ?_
  refine gs_bin (z := Int32.ofNat X.length - 4) hk_266 rfl rfl rfl ?_
  refine gs_icF hk_266 rfl (la_goF hi hl) rfl ?_
  refine gs_aload hk_266 rfl rfl rfl ?_
  refine gs_iload hk_266 rfl rfl rfl ?_
  refine gs_sald (z := i) (x := X.getD i 0) hk_266 rfl (by omega) hl rfl rfl ?_
  refine gs_push (x := 31) hk_266 rfl (by decide) rfl ?_
  refine gs_bin (z := 14) hk_266 rfl (la_sw hop) rfl ?_
  refine gs_sw (j := 518) hk_266 rfl rfl ?_
  refine gs_aload hk_266 rfl rfl rfl ?_
  refine gs_aload hk_266 rfl rfl rfl ?_
  refine gs_iload hk_266 rfl rfl rfl ?_
  refine gs_push (x := 1) hk_266 rfl (by decide) rfl ?_
  refine gs_bin (z := Int32.ofNat (i + 1)) hk_266 rfl la_add rfl ?_
  refine gs_sald (z := (i + 1)) (x := a1) hk_266 rfl (by omega) hl ha1 rfl ?_
  refine gs_aload hk_266 rfl rfl rfl ?_
  refine gs_call (as := [.ref (0 + 1), .int a1, .ref (1133 + 1)]) (rest := []) hk_266 rfl (Or.inr (Or.inr (Or.inl rfl))) rfl rfl rfl (Nat.not_lt.mpr (Nat.le_of_ble_eq_true rfl)) (e_up g1 (by decide : 300 ≤ 399)) rfl ?_
  refine gs_istore (L2 := [.ref 0, .ref (0 + 1), .ref (1076 + 1), .ref (1133 + 1), .int (Int32.ofNat i), .int 1, u6]) hk_266 rfl (Nat.le_of_ble_eq_true rfl) rfl rfl ?_
  refine gs_aload hk_266 rfl rfl rfl ?_
  refine gs_aload hk_266 rfl rfl rfl ?_
  refine gs_iload hk_266 rfl rfl rfl ?_
  refine gs_push (x := 1) hk_266 rfl (by decide) rfl ?_
  refine gs_bin (z := Int32.ofNat (i + 1)) hk_266 rfl la_add rfl ?_
  refine gs_sald (z := (i + 1)) (x := a1) hk_266 rfl (by omega) hl ha1 rfl ?_
  refine gs_call (as := [.ref (1076 + 1), .int a1]) (rest := []) hk_266 rfl (Or.inr (Or.inr (Or.inr ⟨Or.inl rfl, la_rcv la_1076⟩))) rfl rfl rfl (Nat.not_lt.mpr (Nat.le_of_ble_eq_true rfl)) (e_up g2 (by decide : 7 ≤ 399)) rfl ?_
  refine gs_istore (L2 := [.ref 0, .ref (0 + 1), .ref (1076 + 1), .ref (1133 + 1), .int (Int32.ofNat i), .int 1, .int v]) hk_266 rfl (Nat.le_of_ble_eq_true rfl) rfl rfl ?_
  refine gs_aload hk_266 rfl rfl rfl ?_
  refine gs_call (as := [.ref (1076 + 1)]) (rest := []) hk_266 rfl (Or.inr (Or.inr (Or.inr ⟨Or.inl rfl, la_rcv la_1076⟩))) rfl rfl rfl (Nat.not_lt.mpr (Nat.le_of_ble_eq_true rfl)) (e_up g3 (by decide : 0 ≤ 399)) rfl ?_
  refine gs_iload hk_266 rfl rfl rfl ?_
  refine gs_icT hk_266 rfl (jc_T0 rfl) ?_
  refine gs_iload hk_266 rfl rfl rfl ?_
  refine gs_ifT hk_266 rfl rfl ?_
  refine gs_goto hk_266 rfl ?_
  refine gs_iinc (y := Int32.ofNat (i + 4)) (L2 := [.ref 0, .ref (0 + 1), .ref (1076 + 1), .ref (1133 + 1), .int (Int32.ofNat (i + 4)), .int 1, .int v]) hk_266 rfl rfl (Option.some.inj la_add) rfl rfl ?_
  refine gs_goto hk_266 rfl ?_
  exact hm
set_option maxRecDepth 20000 in
theorem la_c15_n {X : List Int32} {n i : Nat} {h h2 : Hp} {a1 v : Int32} (hi : i + 4 ≤ X.length) (hl : X.length ≤ 2048) (hop : X.getD i 0 &&& 31 = 15) (ha1 : X.getD (i + 1) 0 = a1) (hC : p_112 h a1 = some (.inl v)) (hM : p_233 (w_up h 1133 0 v) a1 = some (v, h2)) (hT : v_145 h2 = 0) (hO : h2 1133 0 = v) (hK : la_at X n (i + 4) h2) : la_at X (n + 1) i h := by
  intro ca cb ce u5 u6
  obtain ⟨e1, g1⟩ := lw_259_n (X := X) hC ca cb ce
  obtain ⟨e2, g2⟩ := p_233_ok (X := X) hM ca cb e1
  obtain ⟨e3, g3⟩ := v_145_ok (X := X) (h := h2) ca cb e2
  rw [hT] at g3
  obtain ⟨m, hm, hc1, hc2⟩ := hK ca cb e3 (.int 0) (.int v)
  refine ⟨m, ?_, by omega, by omega⟩
  show j_Go X (399 + 1) 266 (13, [.ref 0, .ref (0 + 1), .ref (1076 + 1), .ref (1133 + 1), .int (Int32.ofNat i), u5, u6], []) _ _
  refine gs_iload hk_266 rfl rfl rfl ?_
  refine gs_aload hk_266 rfl rfl rfl ?_
  refine gs_alen hk_266 rfl rfl ?_
  refine gs_push (x := 4) hk_266 rfl (by decide) rfl ?_
  refine gs_bin (z := Int32.ofNat X.length - 4) hk_266 rfl rfl rfl ?_
  refine gs_icF hk_266 rfl (la_goF hi hl) rfl ?_
  refine gs_aload hk_266 rfl rfl rfl ?_
  refine gs_iload hk_266 rfl rfl rfl ?_
  refine gs_sald (z := i) (x := X.getD i 0) hk_266 rfl (by omega) hl rfl rfl ?_
  refine gs_push (x := 31) hk_266 rfl (by decide) rfl ?_
  refine gs_bin (z := 15) hk_266 rfl (la_sw hop) rfl ?_
  refine gs_sw (j := 553) hk_266 rfl rfl ?_
  refine gs_aload hk_266 rfl rfl rfl ?_
  refine gs_aload hk_266 rfl rfl rfl ?_
  refine gs_iload hk_266 rfl rfl rfl ?_
  refine gs_push (x := 1) hk_266 rfl (by decide) rfl ?_
  refine gs_bin (z := Int32.ofNat (i + 1)) hk_266 rfl la_add rfl ?_
  refine gs_sald (z := (i + 1)) (x := a1) hk_266 rfl (by omega) hl ha1 rfl ?_
  refine gs_aload hk_266 rfl rfl rfl ?_
  refine gs_call (as := [.ref (0 + 1), .int a1, .ref (1133 + 1)]) (rest := []) hk_266 rfl (Or.inr (Or.inr (Or.inl rfl))) rfl rfl rfl (Nat.not_lt.mpr (Nat.le_of_ble_eq_true rfl)) (e_up g1 (by decide : 300 ≤ 399)) rfl ?_
  refine gs_istore (L2 := [.ref 0, .ref (0 + 1), .ref (1076 + 1), .ref (1133 + 1), .int (Int32.ofNat i), .int 0, u6]) hk_266 rfl (Nat.le_of_ble_eq_true rfl) rfl rfl ?_
  refine gs_aload hk_266 rfl rfl rfl ?_
  refine gs_aload hk_266 rfl rfl rfl ?_
  refine gs_iload hk_266 rfl rfl rfl ?_
  refine gs_push (x := 1) hk_266 rfl (by decide) rfl ?_
  refine gs_bin (z := Int32.ofNat (i + 1)) hk_266 rfl la_add rfl ?_
  refine gs_sald (z := (i + 1)) (x := a1) hk_266 rfl (by omega) hl ha1 rfl ?_
  refine gs_call (as := [.ref (1076 + 1), .int a1]) (rest := []) hk_266 rfl (Or.inr (Or.inr (Or.inr ⟨Or.inl rfl, la_rcv la_1076⟩))) rfl rfl rfl (Nat.not_lt.mpr (Nat.le_of_ble_eq_true rfl)) (e_up g2 (by decide : 5 ≤ 399)) rfl ?_
  refine gs_istore (L2 := [.ref 0, .ref (0 + 1), .ref (1076 + 1), .ref (1133 + 1), .int (Int32.ofNat i), .int 0, .int v]) hk_266 rfl (Nat.le_of_ble_eq_true rfl) rfl rfl ?_
  refine gs_aload hk_266 rfl rfl rfl ?_
  refine gs_call (as := [.ref (1076 + 1)]) (rest := []) hk_266 rfl (Or.inr (Or.inr (Or.inr ⟨Or.inl rfl, la_rcv la_1076⟩))) rfl rfl rfl (Nat.not_lt.mpr (Nat.le_of_ble_eq_true rfl)) (e_up g3 (by decide : 0 ≤ 399)) rfl ?_
  refine gs_iload hk_266 rfl rfl rfl ?_
  refine gs_icT hk_266 rfl (jc_T0 rfl) ?_
  refine gs_iload hk_266 rfl rfl rfl ?_
  refine gs_ifF hk_266 rfl rfl rfl ?_
  refine gs_aload hk_266 rfl rfl rfl ?_
  refine gs_push (x := 0) hk_266 rfl (by decide) rfl ?_
  refine gs_lald (y := (v).toInt64) hk_266 rfl (by show (h2 1133 0).toInt64 = _; rw [hO]) rfl ?_
  refine gs_iload hk_266 rfl rfl rfl ?_
  refine gs_i2l hk_266 rfl rfl ?_
  refine gs_lcmp hk_266 rfl rfl ?_
  refine gs_ifT hk_266 rfl rfl ?_
  refine gs_goto hk_266 rfl ?_
  refine gs_iinc (y := Int32.ofNat (i + 4)) (L2 := [.ref 0, .ref (0 + 1), .ref (1076 + 1), .ref (1133 + 1), .int (Int32.ofNat (i + 4)), .int 0, .int v]) hk_266 rfl rfl (Option.some.inj la_add) rfl rfl ?_
  refine gs_goto hk_266 rfl ?_
  exact hm
set_option maxRecDepth 20000 in
theorem la_c15_x2 {X : List Int32} {n i : Nat} {h h2 : Hp} {a1 v : Int32} (hi : i + 4 ≤ X.length) (hl : X.length ≤ 2048) (hop : X.getD i 0 &&& 31 = 15) (ha1 : X.getD (i + 1) 0 = a1) (hC : p_112 h a1 = some (.inr 2)) (hM : p_233 (h) a1 = some (v, h2)) (hT : v_145 h2 = 1) (hK : la_at X n (i + 4) h2) : la_at X (n + 1) i h := by
  intro ca cb ce u5 u6
  obtain ⟨e1, g1⟩ := lw_259_x2 (X := X) hC ca cb ce
  obtain ⟨e2, g2⟩ := p_233_ok (X := X) hM (ca + 1) (cb + 6) e1
  obtain ⟨e3, g3⟩ := v_145_ok (X := X) (h := h2) (ca + 1) (cb + 6) e2
  rw [hT] at g3
  obtain ⟨m, hm, hc1, hc2⟩ := hK (ca + 1) (cb + 6) e3 (.int 1) (.int v)
  refine ⟨m, ?_, by omega, by omega⟩
  show j_Go X (399 + 1) 266 (13, [.ref 0, .ref (0 + 1), .ref (1076 + 1), .ref (1133 + 1), .int (Int32.ofNat i), u5, u6], []) _ _
  refine gs_iload hk_266 rfl rfl rfl ?_
  refine gs_aload hk_266 rfl rfl rfl ?_
  refine gs_alen hk_266 rfl rfl ?_
  refine gs_push (x := 4) hk_266 rfl (by decide) rfl ?_
  refine gs_bin (z := Int32.ofNat X.length - 4) hk_266 rfl rfl rfl ?_
  refine gs_icF hk_266 rfl (la_goF hi hl) rfl ?_
  refine gs_aload hk_266 rfl rfl rfl ?_
  refine gs_iload hk_266 rfl rfl rfl ?_
  refine gs_sald (z := i) (x := X.getD i 0) hk_266 rfl (by omega) hl rfl rfl ?_
  refine gs_push (x := 31) hk_266 rfl (by decide) rfl ?_
  refine gs_bin (z := 15) hk_266 rfl (la_sw hop) rfl ?_
  refine gs_sw (j := 553) hk_266 rfl rfl ?_
  refine gs_aload hk_266 rfl rfl rfl ?_
  refine gs_aload hk_266 rfl rfl rfl ?_
  refine gs_iload hk_266 rfl rfl rfl ?_
  refine gs_push (x := 1) hk_266 rfl (by decide) rfl ?_
  refine gs_bin (z := Int32.ofNat (i + 1)) hk_266 rfl la_add rfl ?_
  refine gs_sald (z := (i + 1)) (x := a1) hk_266 rfl (by omega) hl ha1 rfl ?_
  refine gs_aload hk_266 rfl rfl rfl ?_
  refine gs_call (as := [.ref (0 + 1), .int a1, .ref (1133 + 1)]) (rest := []) hk_266 rfl (Or.inr (Or.inr (Or.inl rfl))) rfl rfl rfl (Nat.not_lt.mpr (Nat.le_of_ble_eq_true rfl)) (e_up g1 (by decide : 300 ≤ 399)) rfl ?_
  refine gs_istore (L2 := [.ref 0, .ref (0 + 1), .ref (1076 + 1), .ref (1133 + 1), .int (Int32.ofNat i), .int 1, u6]) hk_266 rfl (Nat.le_of_ble_eq_true rfl) rfl rfl ?_
  refine gs_aload hk_266 rfl rfl rfl ?_
  refine gs_aload hk_266 rfl rfl rfl ?_
  refine gs_iload hk_266 rfl rfl rfl ?_
  refine gs_push (x := 1) hk_266 rfl (by decide) rfl ?_
  refine gs_bin (z := Int32.ofNat (i + 1)) hk_266 rfl la_add rfl ?_
  refine gs_sald (z := (i + 1)) (x := a1) hk_266 rfl (by omega) hl ha1 rfl ?_
  refine gs_call (as := [.ref (1076 + 1), .int a1]) (rest := []) hk_266 rfl (Or.inr (Or.inr (Or.inr ⟨Or.inl rfl, la_rcv la_1076⟩))) rfl rfl rfl (Nat.not_lt.mpr (Nat.le_of_ble_eq_true rfl)) (e_up g2 (by decide : 5 ≤ 399)) rfl ?_
  refine gs_istore (L2 := [.ref 0, .ref (0 + 1), .ref (1076 + 1), .ref (1133 + 1), .int (Int32.ofNat i), .int 1, .int v]) hk_266 rfl (Nat.le_of_ble_eq_true rfl) rfl rfl ?_
  refine gs_aload hk_266 rfl rfl rfl ?_
  refine gs_call (as := [.ref (1076 + 1)]) (rest := []) hk_266 rfl (Or.inr (Or.inr (Or.inr ⟨Or.inl rfl, la_rcv la_1076⟩))) rfl rfl rfl (Nat.not_lt.mpr (Nat.le_of_ble_eq_true rfl)) (e_up g3 (by decide : 0 ≤ 399)) rfl ?_
  refine gs_iload hk_266 rfl rfl rfl ?_
  refine gs_icT hk_266 rfl (jc_T0 rfl) ?_
  refine gs_iload hk_266 rfl rfl rfl ?_
  refine gs_ifT hk_266 rfl rfl ?_
  refine gs_goto hk_266 rfl ?_
  refine gs_iinc (y := Int32.ofNat (i + 4)) (L2 := [.ref 0, .ref (0 + 1), .ref (1076 + 1), .ref (1133 + 1), .int (Int32.ofNat (i + 4)), .int 1, .int v]) hk_266 rfl rfl (Option.some.inj la_add) rfl rfl ?_
  refine gs_goto hk_266 rfl ?_
  exact hm
set_option maxRecDepth 20000 in
theorem la_c16_n {X : List Int32} {n i : Nat} {h h2 : Hp} {a1 v : Int32} (hi : i + 4 ≤ X.length) (hl : X.length ≤ 2048) (hop : X.getD i 0 &&& 31 = 16) (ha1 : X.getD (i + 1) 0 = a1) (hC : p_113 h a1 = some (.inl v)) (hM : p_234 (w_up h 1133 0 v) a1 = some (v, h2)) (hT : v_145 h2 = 0) (hO : h2 1133 0 = v) (hK : la_at X n (i + 4) h2) : la_at X (n + 1) i h := by
  intro ca cb ce u5 u6
  obtain ⟨e1, g1⟩ := lw_260_n (X := X) hC ca cb ce
  obtain ⟨e2, g2⟩ := p_234_ok (X := X) hM ca cb e1
  obtain ⟨e3, g3⟩ := v_145_ok (X := X) (h := h2) ca cb e2
  rw [hT] at g3
  obtain ⟨m, hm, hc1, hc2⟩ := hK ca cb e3 (.int 0) (.int v)
  refine ⟨m, ?_, by omega, by omega⟩
  show j_Go X (399 + 1) 266 (13, [.ref 0, .ref (0 + 1), .ref (1076 + 1), .ref (1133 + 1), .int (Int32.ofNat i), u5, u6], []) _ _
  refine gs_iload hk_266 rfl rfl rfl ?_
  refine gs_aload hk_266 rfl rfl rfl ?_
  refine gs_alen hk_266 rfl rfl ?_
  refine gs_push (x := 4) hk_266 rfl (by decide) rfl ?_
  refine gs_bin (z := Int32.ofNat X.length - 4) hk_266 rfl rfl rfl ?_
  refine gs_icF hk_266 rfl (la_goF hi hl) rfl ?_
  refine gs_aload hk_266 rfl rfl rfl ?_
  refine gs_iload hk_266 rfl rfl rfl ?_
  refine gs_sald (z := i) (x := X.getD i 0) hk_266 rfl (by omega) hl rfl rfl ?_
  refine gs_push (x := 31) hk_266 rfl (by decide) rfl ?_
  refine gs_bin (z := 16) hk_266 rfl (la_sw hop) rfl ?_
  refine gs_sw (j := 588) hk_266 rfl rfl ?_
  refine gs_aload hk_266 rfl rfl rfl ?_
  refine gs_aload hk_266 rfl rfl rfl ?_
  refine gs_iload hk_266 rfl rfl rfl ?_
  refine gs_push (x := 1) hk_266 rfl (by decide) rfl ?_
  refine gs_bin (z := Int32.ofNat (i + 1)) hk_266 rfl la_add rfl ?_
  refine gs_sald (z := (i + 1)) (x := a1) hk_266 rfl (by omega) hl ha1 rfl ?_
  refine gs_aload hk_266 rfl rfl rfl ?_
  refine gs_call (as := [.ref (0 + 1), .int a1, .ref (1133 + 1)]) (rest := []) hk_266 rfl (Or.inr (Or.inr (Or.inl rfl))) rfl rfl rfl (Nat.not_lt.mpr (Nat.le_of_ble_eq_true rfl)) (e_up g1 (by decide : 300 ≤ 399)) rfl ?_
  refine gs_istore (L2 := [.ref 0, .ref (0 + 1), .ref (1076 + 1), .ref (1133 + 1), .int (Int32.ofNat i), .int 0, u6]) hk_266 rfl (Nat.le_of_ble_eq_true rfl) rfl rfl ?_
  refine gs_aload hk_266 rfl rfl rfl ?_
  refine gs_aload hk_266 rfl rfl rfl ?_
  refine gs_iload hk_266 rfl rfl rfl ?_
  refine gs_push (x := 1) hk_266 rfl (by decide) rfl ?_
  refine gs_bin (z := Int32.ofNat (i + 1)) hk_266 rfl la_add rfl ?_
  refine gs_sald (z := (i + 1)) (x := a1) hk_266 rfl (by omega) hl ha1 rfl ?_
  refine gs_call (as := [.ref (1076 + 1), .int a1]) (rest := []) hk_266 rfl (Or.inr (Or.inr (Or.inr ⟨Or.inl rfl, la_rcv la_1076⟩))) rfl rfl rfl (Nat.not_lt.mpr (Nat.le_of_ble_eq_true rfl)) (e_up g2 (by decide : 6 ≤ 399)) rfl ?_
  refine gs_istore (L2 := [.ref 0, .ref (0 + 1), .ref (1076 + 1), .ref (1133 + 1), .int (Int32.ofNat i), .int 0, .int v]) hk_266 rfl (Nat.le_of_ble_eq_true rfl) rfl rfl ?_
  refine gs_aload hk_266 rfl rfl rfl ?_
  refine gs_call (as := [.ref (1076 + 1)]) (rest := []) hk_266 rfl (Or.inr (Or.inr (Or.inr ⟨Or.inl rfl, la_rcv la_1076⟩))) rfl rfl rfl (Nat.not_lt.mpr (Nat.le_of_ble_eq_true rfl)) (e_up g3 (by decide : 0 ≤ 399)) rfl ?_
  refine gs_iload hk_266 rfl rfl rfl ?_
  refine gs_icT hk_266 rfl (jc_T0 rfl) ?_
  refine gs_iload hk_266 rfl rfl rfl ?_
  refine gs_ifF hk_266 rfl rfl rfl ?_
  refine gs_aload hk_266 rfl rfl rfl ?_
  refine gs_push (x := 0) hk_266 rfl (by decide) rfl ?_
  refine gs_lald (y := (v).toInt64) hk_266 rfl (by show (h2 1133 0).toInt64 = _; rw [hO]) rfl ?_
  refine gs_iload hk_266 rfl rfl rfl ?_
  refine gs_i2l hk_266 rfl rfl ?_
  refine gs_lcmp hk_266 rfl rfl ?_
  refine gs_ifT hk_266 rfl rfl ?_
  refine gs_goto hk_266 rfl ?_
  refine gs_iinc (y := Int32.ofNat (i + 4)) (L2 := [.ref 0, .ref (0 + 1), .ref (1076 + 1), .ref (1133 + 1), .int (Int32.ofNat (i + 4)), .int 0, .int v]) hk_266 rfl rfl (Option.some.inj la_add) rfl rfl ?_
  refine gs_goto hk_266 rfl ?_
  exact hm
set_option maxRecDepth 20000 in
theorem la_c16_x2 {X : List Int32} {n i : Nat} {h h2 : Hp} {a1 v : Int32} (hi : i + 4 ≤ X.length) (hl : X.length ≤ 2048) (hop : X.getD i 0 &&& 31 = 16) (ha1 : X.getD (i + 1) 0 = a1) (hC : p_113 h a1 = some (.inr 2)) (hM : p_234 (h) a1 = some (v, h2)) (hT : v_145 h2 = 1) (hK : la_at X n (i + 4) h2) : la_at X (n + 1) i h := by
  intro ca cb ce u5 u6
  obtain ⟨e1, g1⟩ := lw_260_x2 (X := X) hC ca cb ce
  obtain ⟨e2, g2⟩ := p_234_ok (X := X) hM (ca + 1) (cb + 6) e1
  obtain ⟨e3, g3⟩ := v_145_ok (X := X) (h := h2) (ca + 1) (cb + 6) e2
  rw [hT] at g3
  obtain ⟨m, hm, hc1, hc2⟩ := hK (ca + 1) (cb + 6) e3 (.int 1) (.int v)
  refine ⟨m, ?_, by omega, by omega⟩
  show j_Go X (399 + 1) 266 (13, [.ref 0, .ref (0 + 1), .ref (1076 + 1), .ref (1133 + 1), .int (Int32.ofNat i), u5, u6], []) _ _
  refine gs_iload hk_266 rfl rfl rfl ?_
  refine gs_aload hk_266 rfl rfl rfl ?_
  refine gs_alen hk_266 rfl rfl ?_
  refine gs_push (x := 4) hk_266 rfl (by decide) rfl ?_
  refine gs_bin (z := Int32.ofNat X.length - 4) hk_266 rfl rfl rfl ?_
  refine gs_icF hk_266 rfl (la_goF hi hl) rfl ?_
  refine gs_aload hk_266 rfl rfl rfl ?_
  refine gs_iload hk_266 rfl rfl rfl ?_
  refine gs_sald (z := i) (x := X.getD i 0) hk_266 rfl (by omega) hl rfl rfl ?_
  refine gs_push (x := 31) hk_266 rfl (by decide) rfl ?_
  refine gs_bin (z := 16) hk_266 rfl (la_sw hop) rfl ?_
  refine gs_sw (j := 588) hk_266 rfl rfl ?_
  refine gs_aload hk_266 rfl rfl rfl ?_
  refine gs_aload hk_266 rfl rfl rfl ?_
  refine gs_iload hk_266 rfl rfl rfl ?_
  refine gs_push (x := 1) hk_266 rfl (by decide) rfl ?_
  refine gs_bin (z := Int32.ofNat (i + 1)) hk_266 rfl la_add rfl ?_
  refine gs_sald (z := (i + 1)) (x := a1) hk_266 rfl (by omega) hl ha1 rfl ?_
  refine gs_aload hk_266 rfl rfl rfl ?_
  refine gs_call (as := [.ref (0 + 1), .int a1, .ref (1133 + 1)]) (rest := []) hk_266 rfl (Or.inr (Or.inr (Or.inl rfl))) rfl rfl rfl (Nat.not_lt.mpr (Nat.le_of_ble_eq_true rfl)) (e_up g1 (by decide : 300 ≤ 399)) rfl ?_
  refine gs_istore (L2 := [.ref 0, .ref (0 + 1), .ref (1076 + 1), .ref (1133 + 1), .int (Int32.ofNat i), .int 1, u6]) hk_266 rfl (Nat.le_of_ble_eq_true rfl) rfl rfl ?_
  refine gs_aload hk_266 rfl rfl rfl ?_
  refine gs_aload hk_266 rfl rfl rfl ?_
  refine gs_iload hk_266 rfl rfl rfl ?_
  refine gs_push (x := 1) hk_266 rfl (by decide) rfl ?_
  refine gs_bin (z := Int32.ofNat (i + 1)) hk_266 rfl la_add rfl ?_
  refine gs_sald (z := (i + 1)) (x := a1) hk_266 rfl (by omega) hl ha1 rfl ?_
  refine gs_call (as := [.ref (1076 + 1), .int a1]) (rest := []) hk_266 rfl (Or.inr (Or.inr (Or.inr ⟨Or.inl rfl, la_rcv la_1076⟩))) rfl rfl rfl (Nat.not_lt.mpr (Nat.le_of_ble_eq_true rfl)) (e_up g2 (by decide : 6 ≤ 399)) rfl ?_
  refine gs_istore (L2 := [.ref 0, .ref (0 + 1), .ref (1076 + 1), .ref (1133 + 1), .int (Int32.ofNat i), .int 1, .int v]) hk_266 rfl (Nat.le_of_ble_eq_true rfl) rfl rfl ?_
  refine gs_aload hk_266 rfl rfl rfl ?_
  refine gs_call (as := [.ref (1076 + 1)]) (rest := []) hk_266 rfl (Or.inr (Or.inr (Or.inr ⟨Or.inl rfl, la_rcv la_1076⟩))) rfl rfl rfl (Nat.not_lt.mpr (Nat.le_of_ble_eq_true rfl)) (e_up g3 (by decide : 0 ≤ 399)) rfl ?_
  refine gs_iload hk_266 rfl rfl rfl ?_
  refine gs_icT hk_266 rfl (jc_T0 rfl) ?_
  refine gs_iload hk_266 rfl rfl rfl ?_
  refine gs_ifT hk_266 rfl rfl ?_
  refine gs_goto hk_266 rfl ?_
  refine gs_iinc (y := Int32.ofNat (i + 4)) (L2 := [.ref 0, .ref (0 + 1), .ref (1076 + 1), .ref (1133 + 1), .int (Int32.ofNat (i + 4)), .int 1, .int v]) hk_266 rfl rfl (Option.some.inj la_add) rfl rfl ?_
  refine gs_goto hk_266 rfl ?_
  exact hm
set_option maxRecDepth 20000 in
theorem la_c17_n {X : List Int32} {n i : Nat} {h h1 h2 : Hp} {a1 a2 v : Int32} (hi : i + 4 ≤ X.length) (hl : X.length ≤ 2048) (hop : X.getD i 0 &&& 31 = 17) (ha1 : X.getD (i + 1) 0 = a1) (ha2 : X.getD (i + 2) 0 = a2) (hC : p_114 h a1 a2 = some (.inl v, h1)) (hM : p_238 (w_up h1 1133 0 v) a1 a2 = some (v, h2)) (hT : v_145 h2 = 0) (hO : h2 1133 0 = v) (hK : la_at X n (i + 4) h2) : la_at X (n + 1) i h := by
  intro ca cb ce u5 u6
  obtain ⟨e1, g1⟩ := lw_261_n (X := X) hC ca cb ce
  obtain ⟨e2, g2⟩ := p_238_ok (X := X) hM ca cb e1
  obtain ⟨e3, g3⟩ := v_145_ok (X := X) (h := h2) ca cb e2
  rw [hT] at g3
  obtain ⟨m, hm, hc1, hc2⟩ := hK ca cb e3 (.int 0) (.int v)
  refine ⟨m, ?_, by omega, by omega⟩
  show j_Go X (399 + 1) 266 (13, [.ref 0, .ref (0 + 1), .ref (1076 + 1), .ref (1133 + 1), .int (Int32.ofNat i), u5, u6], []) _ _
  refine gs_iload hk_266 rfl rfl rfl ?_
  refine gs_aload hk_266 rfl rfl rfl ?_
  refine gs_alen hk_266 rfl rfl ?_
  refine gs_push (x := 4) hk_266 rfl (by decide) rfl ?_
  refine gs_bin (z := Int32.ofNat X.length - 4) hk_266 rfl rfl rfl ?_
  refine gs_icF hk_266 rfl (la_goF hi hl) rfl ?_
  refine gs_aload hk_266 rfl rfl rfl ?_
  refine gs_iload hk_266 rfl rfl rfl ?_
  refine gs_sald (z := i) (x := X.getD i 0) hk_266 rfl (by omega) hl rfl rfl ?_
  refine gs_push (x := 31) hk_266 rfl (by decide) rfl ?_
  refine gs_bin (z := 17) hk_266 rfl (la_sw hop) rfl ?_
  refine gs_sw (j := 623) hk_266 rfl rfl ?_
  refine gs_aload hk_266 rfl rfl rfl ?_
  refine gs_aload hk_266 rfl rfl rfl ?_
  refine gs_iload hk_266 rfl rfl rfl ?_
  refine gs_push (x := 1) hk_266 rfl (by decide) rfl ?_
  refine gs_bin (z := Int32.ofNat (i + 1)) hk_266 rfl la_add rfl ?_
  refine gs_sald (z := (i + 1)) (x := a1) hk_266 rfl (by omega) hl ha1 rfl ?_
  refine gs_aload hk_266 rfl rfl rfl ?_
  refine gs_iload hk_266 rfl rfl rfl ?_
  refine gs_push (x := 2) hk_266 rfl (by decide) rfl ?_
  refine gs_bin (z := Int32.ofNat (i + 2)) hk_266 rfl la_add rfl ?_
  refine gs_sald (z := (i + 2)) (x := a2) hk_266 rfl (by omega) hl ha2 rfl ?_
  refine gs_aload hk_266 rfl rfl rfl ?_
  refine gs_call (as := [.ref (0 + 1), .int a1, .int a2, .ref (1133 + 1)]) (rest := []) hk_266 rfl (Or.inr (Or.inr (Or.inl rfl))) rfl rfl rfl (Nat.not_lt.mpr (Nat.le_of_ble_eq_true rfl)) (e_up g1 (by decide : 300 ≤ 399)) rfl ?_
  refine gs_istore (L2 := [.ref 0, .ref (0 + 1), .ref (1076 + 1), .ref (1133 + 1), .int (Int32.ofNat i), .int 0, u6]) hk_266 rfl (Nat.le_of_ble_eq_true rfl) rfl rfl ?_
  refine gs_aload hk_266 rfl rfl rfl ?_
  refine gs_aload hk_266 rfl rfl rfl ?_
  refine gs_iload hk_266 rfl rfl rfl ?_
  refine gs_push (x := 1) hk_266 rfl (by decide) rfl ?_
  refine gs_bin (z := Int32.ofNat (i + 1)) hk_266 rfl la_add rfl ?_
  refine gs_sald (z := (i + 1)) (x := a1) hk_266 rfl (by omega) hl ha1 rfl ?_
  refine gs_aload hk_266 rfl rfl rfl ?_
  refine gs_iload hk_266 rfl rfl rfl ?_
  refine gs_push (x := 2) hk_266 rfl (by decide) rfl ?_
  refine gs_bin (z := Int32.ofNat (i + 2)) hk_266 rfl la_add rfl ?_
  refine gs_sald (z := (i + 2)) (x := a2) hk_266 rfl (by omega) hl ha2 rfl ?_
  refine gs_call (as := [.ref (1076 + 1), .int a1, .int a2]) (rest := []) hk_266 rfl (Or.inr (Or.inr (Or.inr ⟨Or.inl rfl, la_rcv la_1076⟩))) rfl rfl rfl (Nat.not_lt.mpr (Nat.le_of_ble_eq_true rfl)) (e_up g2 (by decide : 15 ≤ 399)) rfl ?_
  refine gs_istore (L2 := [.ref 0, .ref (0 + 1), .ref (1076 + 1), .ref (1133 + 1), .int (Int32.ofNat i), .int 0, .int v]) hk_266 rfl (Nat.le_of_ble_eq_true rfl) rfl rfl ?_
  refine gs_aload hk_266 rfl rfl rfl ?_
  refine gs_call (as := [.ref (1076 + 1)]) (rest := []) hk_266 rfl (Or.inr (Or.inr (Or.inr ⟨Or.inl rfl, la_rcv la_1076⟩))) rfl rfl rfl (Nat.not_lt.mpr (Nat.le_of_ble_eq_true rfl)) (e_up g3 (by decide : 0 ≤ 399)) rfl ?_
  refine gs_iload hk_266 rfl rfl rfl ?_
  refine gs_icT hk_266 rfl (jc_T0 rfl) ?_
  refine gs_iload hk_266 rfl rfl rfl ?_
  refine gs_ifF hk_266 rfl rfl rfl ?_
  refine gs_aload hk_266 rfl rfl rfl ?_
  refine gs_push (x := 0) hk_266 rfl (by decide) rfl ?_
  refine gs_lald (y := (v).toInt64) hk_266 rfl (by show (h2 1133 0).toInt64 = _; rw [hO]) rfl ?_
  refine gs_iload hk_266 rfl rfl rfl ?_
  refine gs_i2l hk_266 rfl rfl ?_
  refine gs_lcmp hk_266 rfl rfl ?_
  refine gs_ifT hk_266 rfl rfl ?_
  refine gs_goto hk_266 rfl ?_
  refine gs_iinc (y := Int32.ofNat (i + 4)) (L2 := [.ref 0, .ref (0 + 1), .ref (1076 + 1), .ref (1133 + 1), .int (Int32.ofNat (i + 4)), .int 0, .int v]) hk_266 rfl rfl (Option.some.inj la_add) rfl rfl ?_
  refine gs_goto hk_266 rfl ?_
  exact hm
set_option maxRecDepth 20000 in
theorem la_c17_x2 {X : List Int32} {n i : Nat} {h h1 h2 : Hp} {a1 a2 v : Int32} (hi : i + 4 ≤ X.length) (hl : X.length ≤ 2048) (hop : X.getD i 0 &&& 31 = 17) (ha1 : X.getD (i + 1) 0 = a1) (ha2 : X.getD (i + 2) 0 = a2) (hC : p_114 h a1 a2 = some (.inr 2, h1)) (hM : p_238 (h1) a1 a2 = some (v, h2)) (hT : v_145 h2 = 1) (hK : la_at X n (i + 4) h2) : la_at X (n + 1) i h := by
  intro ca cb ce u5 u6
  obtain ⟨e1, g1⟩ := lw_261_x2 (X := X) hC ca cb ce
  obtain ⟨e2, g2⟩ := p_238_ok (X := X) hM (ca + 1) (cb + 6) e1
  obtain ⟨e3, g3⟩ := v_145_ok (X := X) (h := h2) (ca + 1) (cb + 6) e2
  rw [hT] at g3
  obtain ⟨m, hm, hc1, hc2⟩ := hK (ca + 1) (cb + 6) e3 (.int 1) (.int v)
  refine ⟨m, ?_, by omega, by omega⟩
  show j_Go X (399 + 1) 266 (13, [.ref 0, .ref (0 + 1), .ref (1076 + 1), .ref (1133 + 1), .int (Int32.ofNat i), u5, u6], []) _ _
  refine gs_iload hk_266 rfl rfl rfl ?_
  refine gs_aload hk_266 rfl rfl rfl ?_
  refine gs_alen hk_266 rfl rfl ?_
  refine gs_push (x := 4) hk_266 rfl (by decide) rfl ?_
  refine gs_bin (z := Int32.ofNat X.length - 4) hk_266 rfl rfl rfl ?_
  refine gs_icF hk_266 rfl (la_goF hi hl) rfl ?_
  refine gs_aload hk_266 rfl rfl rfl ?_
  refine gs_iload hk_266 rfl rfl rfl ?_
  refine gs_sald (z := i) (x := X.getD i 0) hk_266 rfl (by omega) hl rfl rfl ?_
  refine gs_push (x := 31) hk_266 rfl (by decide) rfl ?_
  refine gs_bin (z := 17) hk_266 rfl (la_sw hop) rfl ?_
  refine gs_sw (j := 623) hk_266 rfl rfl ?_
  refine gs_aload hk_266 rfl rfl rfl ?_
  refine gs_aload hk_266 rfl rfl rfl ?_
  refine gs_iload hk_266 rfl rfl rfl ?_
  refine gs_push (x := 1) hk_266 rfl (by decide) rfl ?_
  refine gs_bin (z := Int32.ofNat (i + 1)) hk_266 rfl la_add rfl ?_
  refine gs_sald (z := (i + 1)) (x := a1) hk_266 rfl (by omega) hl ha1 rfl ?_
  refine gs_aload hk_266 rfl rfl rfl ?_
  refine gs_iload hk_266 rfl rfl rfl ?_
  refine gs_push (x := 2) hk_266 rfl (by decide) rfl ?_
  refine gs_bin (z := Int32.ofNat (i + 2)) hk_266 rfl la_add rfl ?_
  refine gs_sald (z := (i + 2)) (x := a2) hk_266 rfl (by omega) hl ha2 rfl ?_
  refine gs_aload hk_266 rfl rfl rfl ?_
  refine gs_call (as := [.ref (0 + 1), .int a1, .int a2, .ref (1133 + 1)]) (rest := []) hk_266 rfl (Or.inr (Or.inr (Or.inl rfl))) rfl rfl rfl (Nat.not_lt.mpr (Nat.le_of_ble_eq_true rfl)) (e_up g1 (by decide : 300 ≤ 399)) rfl ?_
  refine gs_istore (L2 := [.ref 0, .ref (0 + 1), .ref (1076 + 1), .ref (1133 + 1), .int (Int32.ofNat i), .int 1, u6]) hk_266 rfl (Nat.le_of_ble_eq_true rfl) rfl rfl ?_
  refine gs_aload hk_266 rfl rfl rfl ?_
  refine gs_aload hk_266 rfl rfl rfl ?_
  refine gs_iload hk_266 rfl rfl rfl ?_
  refine gs_push (x := 1) hk_266 rfl (by decide) rfl ?_
  refine gs_bin (z := Int32.ofNat (i + 1)) hk_266 rfl la_add rfl ?_
  refine gs_sald (z := (i + 1)) (x := a1) hk_266 rfl (by omega) hl ha1 rfl ?_
  refine gs_aload hk_266 rfl rfl rfl ?_
  refine gs_iload hk_266 rfl rfl rfl ?_
  refine gs_push (x := 2) hk_266 rfl (by decide) rfl ?_
  refine gs_bin (z := Int32.ofNat (i + 2)) hk_266 rfl la_add rfl ?_
  refine gs_sald (z := (i + 2)) (x := a2) hk_266 rfl (by omega) hl ha2 rfl ?_
  refine gs_call (as := [.ref (1076 + 1), .int a1, .int a2]) (rest := []) hk_266 rfl (Or.inr (Or.inr (Or.inr ⟨Or.inl rfl, la_rcv la_1076⟩))) rfl rfl rfl (Nat.not_lt.mpr (Nat.le_of_ble_eq_true rfl)) (e_up g2 (by decide : 15 ≤ 399)) rfl ?_
  refine gs_istore (L2 := [.ref 0, .ref (0 + 1), .ref (1076 + 1), .ref (1133 + 1), .int (Int32.ofNat i), .int 1, .int v]) hk_266 rfl (Nat.le_of_ble_eq_true rfl) rfl rfl ?_
  refine gs_aload hk_266 rfl rfl rfl ?_
  refine gs_call (as := [.ref (1076 + 1)]) (rest := []) hk_266 rfl (Or.inr (Or.inr (Or.inr ⟨Or.inl rfl, la_rcv la_1076⟩))) rfl rfl rfl (Nat.not_lt.mpr (Nat.le_of_ble_eq_true rfl)) (e_up g3 (by decide : 0 ≤ 399)) rfl ?_
  refine gs_iload hk_266 rfl rfl rfl ?_
  refine gs_icT hk_266 rfl (jc_T0 rfl) ?_
  refine gs_iload hk_266 rfl rfl rfl ?_
  refine gs_ifT hk_266 rfl rfl ?_
  refine gs_goto hk_266 rfl ?_
  refine gs_iinc (y := Int32.ofNat (i + 4)) (L2 := [.ref 0, .ref (0 + 1), .ref (1076 + 1), .ref (1133 + 1), .int (Int32.ofNat (i + 4)), .int 1, .int v]) hk_266 rfl rfl (Option.some.inj la_add) rfl rfl ?_
  refine gs_goto hk_266 rfl ?_
  exact hm
set_option maxRecDepth 20000 in
theorem la_c17_x1 {X : List Int32} {n i : Nat} {h h1 h2 : Hp} {a1 a2 v : Int32} (hi : i + 4 ≤ X.length) (hl : X.length ≤ 2048) (hop : X.getD i 0 &&& 31 = 17) (ha1 : X.getD (i + 1) 0 = a1) (ha2 : X.getD (i + 2) 0 = a2) (hC : p_114 h a1 a2 = some (.inr 1, h1)) (hM : p_238 (h1) a1 a2 = some (v, h2)) (hT : v_145 h2 = 2) (hK : la_at X n (i + 4) h2) : la_at X (n + 1) i h := by
  intro ca cb ce u5 u6
  obtain ⟨e1, g1⟩ := lw_261_x1 (X := X) hC ca cb ce
  obtain ⟨e2, g2⟩ := p_238_ok (X := X) hM (ca + 1) (cb + 6) e1
  obtain ⟨e3, g3⟩ := v_145_ok (X := X) (h := h2) (ca + 1) (cb + 6) e2
  rw [hT] at g3
  obtain ⟨m, hm, hc1, hc2⟩ := hK (ca + 1) (cb + 6) e3 (.int 2) (.int v)
  refine ⟨m, ?_, by omega, by omega⟩
  show j_Go X (399 + 1) 266 (13, [.ref 0, .ref (0 + 1), .ref (1076 + 1), .ref (1133 + 1), .int (Int32.ofNat i), u5, u6], []) _ _
  refine gs_iload hk_266 rfl rfl rfl ?_
  refine gs_aload hk_266 rfl rfl rfl ?_
  refine gs_alen hk_266 rfl rfl ?_
  refine gs_push (x := 4) hk_266 rfl (by decide) rfl ?_
  refine gs_bin (z := Int32.ofNat X.length - 4) hk_266 rfl rfl rfl ?_
  refine gs_icF hk_266 rfl (la_goF hi hl) rfl ?_
  refine gs_aload hk_266 rfl rfl rfl ?_
  refine gs_iload hk_266 rfl rfl rfl ?_
  refine gs_sald (z := i) (x := X.getD i 0) hk_266 rfl (by omega) hl rfl rfl ?_
  refine gs_push (x := 31) hk_266 rfl (by decide) rfl ?_
  refine gs_bin (z := 17) hk_266 rfl (la_sw hop) rfl ?_
  refine gs_sw (j := 623) hk_266 rfl rfl ?_
  refine gs_aload hk_266 rfl rfl rfl ?_
  refine gs_aload hk_266 rfl rfl rfl ?_
  refine gs_iload hk_266 rfl rfl rfl ?_
  refine gs_push (x := 1) hk_266 rfl (by decide) rfl ?_
  refine gs_bin (z := Int32.ofNat (i + 1)) hk_266 rfl la_add rfl ?_
  refine gs_sald (z := (i + 1)) (x := a1) hk_266 rfl (by omega) hl ha1 rfl ?_
  refine gs_aload hk_266 rfl rfl rfl ?_
  refine gs_iload hk_266 rfl rfl rfl ?_
  refine gs_push (x := 2) hk_266 rfl (by decide) rfl ?_
  refine gs_bin (z := Int32.ofNat (i + 2)) hk_266 rfl la_add rfl ?_
  refine gs_sald (z := (i + 2)) (x := a2) hk_266 rfl (by omega) hl ha2 rfl ?_
  refine gs_aload hk_266 rfl rfl rfl ?_
  refine gs_call (as := [.ref (0 + 1), .int a1, .int a2, .ref (1133 + 1)]) (rest := []) hk_266 rfl (Or.inr (Or.inr (Or.inl rfl))) rfl rfl rfl (Nat.not_lt.mpr (Nat.le_of_ble_eq_true rfl)) (e_up g1 (by decide : 300 ≤ 399)) rfl ?_
  refine gs_istore (L2 := [.ref 0, .ref (0 + 1), .ref (1076 + 1), .ref (1133 + 1), .int (Int32.ofNat i), .int 2, u6]) hk_266 rfl (Nat.le_of_ble_eq_true rfl) rfl rfl ?_
  refine gs_aload hk_266 rfl rfl rfl ?_
  refine gs_aload hk_266 rfl rfl rfl ?_
  refine gs_iload hk_266 rfl rfl rfl ?_
  refine gs_push (x := 1) hk_266 rfl (by decide) rfl ?_
  refine gs_bin (z := Int32.ofNat (i + 1)) hk_266 rfl la_add rfl ?_
  refine gs_sald (z := (i + 1)) (x := a1) hk_266 rfl (by omega) hl ha1 rfl ?_
  refine gs_aload hk_266 rfl rfl rfl ?_
  refine gs_iload hk_266 rfl rfl rfl ?_
  refine gs_push (x := 2) hk_266 rfl (by decide) rfl ?_
  refine gs_bin (z := Int32.ofNat (i + 2)) hk_266 rfl la_add rfl ?_
  refine gs_sald (z := (i + 2)) (x := a2) hk_266 rfl (by omega) hl ha2 rfl ?_
  refine gs_call (as := [.ref (1076 + 1), .int a1, .int a2]) (rest := []) hk_266 rfl (Or.inr (Or.inr (Or.inr ⟨Or.inl rfl, la_rcv la_1076⟩))) rfl rfl rfl (Nat.not_lt.mpr (Nat.le_of_ble_eq_true rfl)) (e_up g2 (by decide : 15 ≤ 399)) rfl ?_
  refine gs_istore (L2 := [.ref 0, .ref (0 + 1), .ref (1076 + 1), .ref (1133 + 1), .int (Int32.ofNat i), .int 2, .int v]) hk_266 rfl (Nat.le_of_ble_eq_true rfl) rfl rfl ?_
  refine gs_aload hk_266 rfl rfl rfl ?_
  refine gs_call (as := [.ref (1076 + 1)]) (rest := []) hk_266 rfl (Or.inr (Or.inr (Or.inr ⟨Or.inl rfl, la_rcv la_1076⟩))) rfl rfl rfl (Nat.not_lt.mpr (Nat.le_of_ble_eq_true rfl)) (e_up g3 (by decide : 0 ≤ 399)) rfl ?_
  refine gs_iload hk_266 rfl rfl rfl ?_
  refine gs_icT hk_266 rfl (jc_T0 rfl) ?_
  refine gs_iload hk_266 rfl rfl rfl ?_
  refine gs_ifT hk_266 rfl rfl ?_
  refine gs_goto hk_266 rfl ?_
  refine gs_iinc (y := Int32.ofNat (i + 4)) (L2 := [.ref 0, .ref (0 + 1), .ref (1076 + 1), .ref (1133 + 1), .int (Int32.ofNat (i + 4)), .int 2, .int v]) hk_266 rfl rfl (Option.some.inj la_add) rfl rfl ?_
  refine gs_goto hk_266 rfl ?_
  exact hm
set_option maxRecDepth 20000 in
theorem la_c18_n {X : List Int32} {n i : Nat} {h h1 h2 : Hp} {a1 a2 v : Int32} (hi : i + 4 ≤ X.length) (hl : X.length ≤ 2048) (hop : X.getD i 0 &&& 31 = 18) (ha1 : X.getD (i + 1) 0 = a1) (ha2 : X.getD (i + 2) 0 = a2) (hC : p_115 h a1 a2 = some (.inl v, h1)) (hM : p_241 (w_up h1 1133 0 v) a1 a2 = some (v, h2)) (hT : v_145 h2 = 0) (hO : h2 1133 0 = v) (hK : la_at X n (i + 4) h2) : la_at X (n + 1) i h := by
  intro ca cb ce u5 u6
  obtain ⟨e1, g1⟩ := lw_262_n (X := X) hC ca cb ce
  obtain ⟨e2, g2⟩ := p_241_ok (X := X) hM ca cb e1
  obtain ⟨e3, g3⟩ := v_145_ok (X := X) (h := h2) ca cb e2
  rw [hT] at g3
  obtain ⟨m, hm, hc1, hc2⟩ := hK ca cb e3 (.int 0) (.int v)
  refine ⟨m, ?_, by omega, by omega⟩
  show j_Go X (399 + 1) 266 (13, [.ref 0, .ref (0 + 1), .ref (1076 + 1), .ref (1133 + 1), .int (Int32.ofNat i), u5, u6], []) _ _
  refine gs_iload hk_266 rfl rfl rfl ?_
  refine gs_aload hk_266 rfl rfl rfl ?_
  refine gs_alen hk_266 rfl rfl ?_
  refine gs_push (x := 4) hk_266 rfl (by decide) rfl ?_
  refine gs_bin (z := Int32.ofNat X.length - 4) hk_266 rfl rfl rfl ?_
  refine gs_icF hk_266 rfl (la_goF hi hl) rfl ?_
  refine gs_aload hk_266 rfl rfl rfl ?_
  refine gs_iload hk_266 rfl rfl rfl ?_
  refine gs_sald (z := i) (x := X.getD i 0) hk_266 rfl (by omega) hl rfl rfl ?_
  refine gs_push (x := 31) hk_266 rfl (by decide) rfl ?_
  refine gs_bin (z := 18) hk_266 rfl (la_sw hop) rfl ?_
  refine gs_sw (j := 668) hk_266 rfl rfl ?_
  refine gs_aload hk_266 rfl rfl rfl ?_
  refine gs_aload hk_266 rfl rfl rfl ?_
  refine gs_iload hk_266 rfl rfl rfl ?_
  refine gs_push (x := 1) hk_266 rfl (by decide) rfl ?_
  refine gs_bin (z := Int32.ofNat (i + 1)) hk_266 rfl la_add rfl ?_
  refine gs_sald (z := (i + 1)) (x := a1) hk_266 rfl (by omega) hl ha1 rfl ?_
  refine gs_aload hk_266 rfl rfl rfl ?_
  refine gs_iload hk_266 rfl rfl rfl ?_
  refine gs_push (x := 2) hk_266 rfl (by decide) rfl ?_
  refine gs_bin (z := Int32.ofNat (i + 2)) hk_266 rfl la_add rfl ?_
  refine gs_sald (z := (i + 2)) (x := a2) hk_266 rfl (by omega) hl ha2 rfl ?_
  refine gs_aload hk_266 rfl rfl rfl ?_
  refine gs_call (as := [.ref (0 + 1), .int a1, .int a2, .ref (1133 + 1)]) (rest := []) hk_266 rfl (Or.inr (Or.inr (Or.inl rfl))) rfl rfl rfl (Nat.not_lt.mpr (Nat.le_of_ble_eq_true rfl)) (e_up g1 (by decide : 300 ≤ 399)) rfl ?_
  refine gs_istore (L2 := [.ref 0, .ref (0 + 1), .ref (1076 + 1), .ref (1133 + 1), .int (Int32.ofNat i), .int 0, u6]) hk_266 rfl (Nat.le_of_ble_eq_true rfl) rfl rfl ?_
  refine gs_aload hk_266 rfl rfl rfl ?_
  refine gs_aload hk_266 rfl rfl rfl ?_
  refine gs_iload hk_266 rfl rfl rfl ?_
  refine gs_push (x := 1) hk_266 rfl (by decide) rfl ?_
  refine gs_bin (z := Int32.ofNat (i + 1)) hk_266 rfl la_add rfl ?_
  refine gs_sald (z := (i + 1)) (x := a1) hk_266 rfl (by omega) hl ha1 rfl ?_
  refine gs_aload hk_266 rfl rfl rfl ?_
  refine gs_iload hk_266 rfl rfl rfl ?_
  refine gs_push (x := 2) hk_266 rfl (by decide) rfl ?_
  refine gs_bin (z := Int32.ofNat (i + 2)) hk_266 rfl la_add rfl ?_
  refine gs_sald (z := (i + 2)) (x := a2) hk_266 rfl (by omega) hl ha2 rfl ?_
  refine gs_call (as := [.ref (1076 + 1), .int a1, .int a2]) (rest := []) hk_266 rfl (Or.inr (Or.inr (Or.inr ⟨Or.inl rfl, la_rcv la_1076⟩))) rfl rfl rfl (Nat.not_lt.mpr (Nat.le_of_ble_eq_true rfl)) (e_up g2 (by decide : 11 ≤ 399)) rfl ?_
  refine gs_istore (L2 := [.ref 0, .ref (0 + 1), .ref (1076 + 1), .ref (1133 + 1), .int (Int32.ofNat i), .int 0, .int v]) hk_266 rfl (Nat.le_of_ble_eq_true rfl) rfl rfl ?_
  refine gs_aload hk_266 rfl rfl rfl ?_
  refine gs_call (as := [.ref (1076 + 1)]) (rest := []) hk_266 rfl (Or.inr (Or.inr (Or.inr ⟨Or.inl rfl, la_rcv la_1076⟩))) rfl rfl rfl (Nat.not_lt.mpr (Nat.le_of_ble_eq_true rfl)) (e_up g3 (by decide : 0 ≤ 399)) rfl ?_
  refine gs_iload hk_266 rfl rfl rfl ?_
  refine gs_icT hk_266 rfl (jc_T0 rfl) ?_
  refine gs_iload hk_266 rfl rfl rfl ?_
  refine gs_ifF hk_266 rfl rfl rfl ?_
  refine gs_aload hk_266 rfl rfl rfl ?_
  refine gs_push (x := 0) hk_266 rfl (by decide) rfl ?_
  refine gs_lald (y := (v).toInt64) hk_266 rfl (by show (h2 1133 0).toInt64 = _; rw [hO]) rfl ?_
  refine gs_iload hk_266 rfl rfl rfl ?_
  refine gs_i2l hk_266 rfl rfl ?_
  refine gs_lcmp hk_266 rfl rfl ?_
  refine gs_ifT hk_266 rfl rfl ?_
  refine gs_goto hk_266 rfl ?_
  refine gs_iinc (y := Int32.ofNat (i + 4)) (L2 := [.ref 0, .ref (0 + 1), .ref (1076 + 1), .ref (1133 + 1), .int (Int32.ofNat (i + 4)), .int 0, .int v]) hk_266 rfl rfl (Option.some.inj la_add) rfl rfl ?_
  refine gs_goto hk_266 rfl ?_
  exact hm
set_option maxRecDepth 20000 in
theorem la_c18_x2 {X : List Int32} {n i : Nat} {h h1 h2 : Hp} {a1 a2 v : Int32} (hi : i + 4 ≤ X.length) (hl : X.length ≤ 2048) (hop : X.getD i 0 &&& 31 = 18) (ha1 : X.getD (i + 1) 0 = a1) (ha2 : X.getD (i + 2) 0 = a2) (hC : p_115 h a1 a2 = some (.inr 2, h1)) (hM : p_241 (h1) a1 a2 = some (v, h2)) (hT : v_145 h2 = 1) (hK : la_at X n (i + 4) h2) : la_at X (n + 1) i h := by
  intro ca cb ce u5 u6
  obtain ⟨e1, g1⟩ := lw_262_x2 (X := X) hC ca cb ce
  obtain ⟨e2, g2⟩ := p_241_ok (X := X) hM (ca + 1) (cb + 6) e1
  obtain ⟨e3, g3⟩ := v_145_ok (X := X) (h := h2) (ca + 1) (cb + 6) e2
  rw [hT] at g3
  obtain ⟨m, hm, hc1, hc2⟩ := hK (ca + 1) (cb + 6) e3 (.int 1) (.int v)
  refine ⟨m, ?_, by omega, by omega⟩
  show j_Go X (399 + 1) 266 (13, [.ref 0, .ref (0 + 1), .ref (1076 + 1), .ref (1133 + 1), .int (Int32.ofNat i), u5, u6], []) _ _
  refine gs_iload hk_266 rfl rfl rfl ?_
  refine gs_aload hk_266 rfl rfl rfl ?_
  refine gs_alen hk_266 rfl rfl ?_
  refine gs_push (x := 4) hk_266 rfl (by decide) rfl ?_
  refine gs_bin (z := Int32.ofNat X.length - 4) hk_266 rfl rfl rfl ?_
  refine gs_icF hk_266 rfl (la_goF hi hl) rfl ?_
  refine gs_aload hk_266 rfl rfl rfl ?_
  refine gs_iload hk_266 rfl rfl rfl ?_
  refine gs_sald (z := i) (x := X.getD i 0) hk_266 rfl (by omega) hl rfl rfl ?_
  refine gs_push (x := 31) hk_266 rfl (by decide) rfl ?_
  refine gs_bin (z := 18) hk_266 rfl (la_sw hop) rfl ?_
  refine gs_sw (j := 668) hk_266 rfl rfl ?_
  refine gs_aload hk_266 rfl rfl rfl ?_
  refine gs_aload hk_266 rfl rfl rfl ?_
  refine gs_iload hk_266 rfl rfl rfl ?_
  refine gs_push (x := 1) hk_266 rfl (by decide) rfl ?_
  refine gs_bin (z := Int32.ofNat (i + 1)) hk_266 rfl la_add rfl ?_
  refine gs_sald (z := (i + 1)) (x := a1) hk_266 rfl (by omega) hl ha1 rfl ?_
  refine gs_aload hk_266 rfl rfl rfl ?_
  refine gs_iload hk_266 rfl rfl rfl ?_
  refine gs_push (x := 2) hk_266 rfl (by decide) rfl ?_
  refine gs_bin (z := Int32.ofNat (i + 2)) hk_266 rfl la_add rfl ?_
  refine gs_sald (z := (i + 2)) (x := a2) hk_266 rfl (by omega) hl ha2 rfl ?_
  refine gs_aload hk_266 rfl rfl rfl ?_
  refine gs_call (as := [.ref (0 + 1), .int a1, .int a2, .ref (1133 + 1)]) (rest := []) hk_266 rfl (Or.inr (Or.inr (Or.inl rfl))) rfl rfl rfl (Nat.not_lt.mpr (Nat.le_of_ble_eq_true rfl)) (e_up g1 (by decide : 300 ≤ 399)) rfl ?_
  refine gs_istore (L2 := [.ref 0, .ref (0 + 1), .ref (1076 + 1), .ref (1133 + 1), .int (Int32.ofNat i), .int 1, u6]) hk_266 rfl (Nat.le_of_ble_eq_true rfl) rfl rfl ?_
  refine gs_aload hk_266 rfl rfl rfl ?_
  refine gs_aload hk_266 rfl rfl rfl ?_
  refine gs_iload hk_266 rfl rfl rfl ?_
  refine gs_push (x := 1) hk_266 rfl (by decide) rfl ?_
  refine gs_bin (z := Int32.ofNat (i + 1)) hk_266 rfl la_add rfl ?_
  refine gs_sald (z := (i + 1)) (x := a1) hk_266 rfl (by omega) hl ha1 rfl ?_
  refine gs_aload hk_266 rfl rfl rfl ?_
  refine gs_iload hk_266 rfl rfl rfl ?_
  refine gs_push (x := 2) hk_266 rfl (by decide) rfl ?_
  refine gs_bin (z := Int32.ofNat (i + 2)) hk_266 rfl la_add rfl ?_
  refine gs_sald (z := (i + 2)) (x := a2) hk_266 rfl (by omega) hl ha2 rfl ?_
  refine gs_call (as := [.ref (1076 + 1), .int a1, .int a2]) (rest := []) hk_266 rfl (Or.inr (Or.inr (Or.inr ⟨Or.inl rfl, la_rcv la_1076⟩))) rfl rfl rfl (Nat.not_lt.mpr (Nat.le_of_ble_eq_true rfl)) (e_up g2 (by decide : 11 ≤ 399)) rfl ?_
  refine gs_istore (L2 := [.ref 0, .ref (0 + 1), .ref (1076 + 1), .ref (1133 + 1), .int (Int32.ofNat i), .int 1, .int v]) hk_266 rfl (Nat.le_of_ble_eq_true rfl) rfl rfl ?_
  refine gs_aload hk_266 rfl rfl rfl ?_
  refine gs_call (as := [.ref (1076 + 1)]) (rest := []) hk_266 rfl (Or.inr (Or.inr (Or.inr ⟨Or.inl rfl, la_rcv la_1076⟩))) rfl rfl rfl (Nat.not_lt.mpr (Nat.le_of_ble_eq_true rfl)) (e_up g3 (by decide : 0 ≤ 399)) rfl ?_
  refine gs_iload hk_266 rfl rfl rfl ?_
  refine gs_icT hk_266 rfl (jc_T0 rfl) ?_
  refine gs_iload hk_266 rfl rfl rfl ?_
  refine gs_ifT hk_266 rfl rfl ?_
  refine gs_goto hk_266 rfl ?_
  refine gs_iinc (y := Int32.ofNat (i + 4)) (L2 := [.ref 0, .ref (0 + 1), .ref (1076 + 1), .ref (1133 + 1), .int (Int32.ofNat (i + 4)), .int 1, .int v]) hk_266 rfl rfl (Option.some.inj la_add) rfl rfl ?_
  refine gs_goto hk_266 rfl ?_
  exact hm
set_option maxRecDepth 20000 in
theorem la_c18_x1 {X : List Int32} {n i : Nat} {h h1 h2 : Hp} {a1 a2 v : Int32} (hi : i + 4 ≤ X.length) (hl : X.length ≤ 2048) (hop : X.getD i 0 &&& 31 = 18) (ha1 : X.getD (i + 1) 0 = a1) (ha2 : X.getD (i + 2) 0 = a2) (hC : p_115 h a1 a2 = some (.inr 1, h1)) (hM : p_241 (h1) a1 a2 = some (v, h2)) (hT : v_145 h2 = 2) (hK : la_at X n (i + 4) h2) : la_at X (n + 1) i h := by
  intro ca cb ce u5 u6
  obtain ⟨e1, g1⟩ := lw_262_x1 (X := X) hC ca cb ce
  obtain ⟨e2, g2⟩ := p_241_ok (X := X) hM (ca + 1) (cb + 6) e1
  obtain ⟨e3, g3⟩ := v_145_ok (X := X) (h := h2) (ca + 1) (cb + 6) e2
  rw [hT] at g3
  obtain ⟨m, hm, hc1, hc2⟩ := hK (ca + 1) (cb + 6) e3 (.int 2) (.int v)
  refine ⟨m, ?_, by omega, by omega⟩
  show j_Go X (399 + 1) 266 (13, [.ref 0, .ref (0 + 1), .ref (1076 + 1), .ref (1133 + 1), .int (Int32.ofNat i), u5, u6], []) _ _
  refine gs_iload hk_266 rfl rfl rfl ?_
  refine gs_aload hk_266 rfl rfl rfl ?_
  refine gs_alen hk_266 rfl rfl ?_
  refine gs_push (x := 4) hk_266 rfl (by decide) rfl ?_
  refine gs_bin (z := Int32.ofNat X.length - 4) hk_266 rfl rfl rfl ?_
  refine gs_icF hk_266 rfl (la_goF hi hl) rfl ?_
  refine gs_aload hk_266 rfl rfl rfl ?_
  refine gs_iload hk_266 rfl rfl rfl ?_
  refine gs_sald (z := i) (x := X.getD i 0) hk_266 rfl (by omega) hl rfl rfl ?_
  refine gs_push (x := 31) hk_266 rfl (by decide) rfl ?_
  refine gs_bin (z := 18) hk_266 rfl (la_sw hop) rfl ?_
  refine gs_sw (j := 668) hk_266 rfl rfl ?_
  refine gs_aload hk_266 rfl rfl rfl ?_
  refine gs_aload hk_266 rfl rfl rfl ?_
  refine gs_iload hk_266 rfl rfl rfl ?_
  refine gs_push (x := 1) hk_266 rfl (by decide) rfl ?_
  refine gs_bin (z := Int32.ofNat (i + 1)) hk_266 rfl la_add rfl ?_
  refine gs_sald (z := (i + 1)) (x := a1) hk_266 rfl (by omega) hl ha1 rfl ?_
  refine gs_aload hk_266 rfl rfl rfl ?_
  refine gs_iload hk_266 rfl rfl rfl ?_
  refine gs_push (x := 2) hk_266 rfl (by decide) rfl ?_
  refine gs_bin (z := Int32.ofNat (i + 2)) hk_266 rfl la_add rfl ?_
  refine gs_sald (z := (i + 2)) (x := a2) hk_266 rfl (by omega) hl ha2 rfl ?_
  refine gs_aload hk_266 rfl rfl rfl ?_
  refine gs_call (as := [.ref (0 + 1), .int a1, .int a2, .ref (1133 + 1)]) (rest := []) hk_266 rfl (Or.inr (Or.inr (Or.inl rfl))) rfl rfl rfl (Nat.not_lt.mpr (Nat.le_of_ble_eq_true rfl)) (e_up g1 (by decide : 300 ≤ 399)) rfl ?_
  refine gs_istore (L2 := [.ref 0, .ref (0 + 1), .ref (1076 + 1), .ref (1133 + 1), .int (Int32.ofNat i), .int 2, u6]) hk_266 rfl (Nat.le_of_ble_eq_true rfl) rfl rfl ?_
  refine gs_aload hk_266 rfl rfl rfl ?_
  refine gs_aload hk_266 rfl rfl rfl ?_
  refine gs_iload hk_266 rfl rfl rfl ?_
  refine gs_push (x := 1) hk_266 rfl (by decide) rfl ?_
  refine gs_bin (z := Int32.ofNat (i + 1)) hk_266 rfl la_add rfl ?_
  refine gs_sald (z := (i + 1)) (x := a1) hk_266 rfl (by omega) hl ha1 rfl ?_
  refine gs_aload hk_266 rfl rfl rfl ?_
  refine gs_iload hk_266 rfl rfl rfl ?_
  refine gs_push (x := 2) hk_266 rfl (by decide) rfl ?_
  refine gs_bin (z := Int32.ofNat (i + 2)) hk_266 rfl la_add rfl ?_
  refine gs_sald (z := (i + 2)) (x := a2) hk_266 rfl (by omega) hl ha2 rfl ?_
  refine gs_call (as := [.ref (1076 + 1), .int a1, .int a2]) (rest := []) hk_266 rfl (Or.inr (Or.inr (Or.inr ⟨Or.inl rfl, la_rcv la_1076⟩))) rfl rfl rfl (Nat.not_lt.mpr (Nat.le_of_ble_eq_true rfl)) (e_up g2 (by decide : 11 ≤ 399)) rfl ?_
  refine gs_istore (L2 := [.ref 0, .ref (0 + 1), .ref (1076 + 1), .ref (1133 + 1), .int (Int32.ofNat i), .int 2, .int v]) hk_266 rfl (Nat.le_of_ble_eq_true rfl) rfl rfl ?_
  refine gs_aload hk_266 rfl rfl rfl ?_
  refine gs_call (as := [.ref (1076 + 1)]) (rest := []) hk_266 rfl (Or.inr (Or.inr (Or.inr ⟨Or.inl rfl, la_rcv la_1076⟩))) rfl rfl rfl (Nat.not_lt.mpr (Nat.le_of_ble_eq_true rfl)) (e_up g3 (by decide : 0 ≤ 399)) rfl ?_
  refine gs_iload hk_266 rfl rfl rfl ?_
  refine gs_icT hk_266 rfl (jc_T0 rfl) ?_
  refine gs_iload hk_266 rfl rfl rfl ?_
  refine gs_ifT hk_266 rfl rfl ?_
  refine gs_goto hk_266 rfl ?_
  refine gs_iinc (y := Int32.ofNat (i + 4)) (L2 := [.ref 0, .ref (0 + 1), .ref (1076 + 1), .ref (1133 + 1), .int (Int32.ofNat (i + 4)), .int 2, .int v]) hk_266 rfl rfl (Option.some.inj la_add) rfl rfl ?_
  refine gs_goto hk_266 rfl ?_
  exact hm
set_option maxRecDepth 20000 in
theorem la_c19_n {X : List Int32} {n i : Nat} {h h1 h2 : Hp} {a1 a2 v : Int32} (hi : i + 4 ≤ X.length) (hl : X.length ≤ 2048) (hop : X.getD i 0 &&& 31 = 19) (ha1 : X.getD (i + 1) 0 = a1) (ha2 : X.getD (i + 2) 0 = a2) (hC : p_116 h (la_i2c a1) a2 = some (.inl v, h1)) (hM : p_242 (w_up h1 1133 0 v) (la_i2c a1) a2 = some (v, h2)) (hT : v_145 h2 = 0) (hO : h2 1133 0 = v) (hK : la_at X n (i + 4) h2) : la_at X (n + 1) i h := by
  intro ca cb ce u5 u6
  obtain ⟨e1, g1⟩ := lw_263_n (X := X) hC ca cb ce
  obtain ⟨e2, g2⟩ := p_242_ok (X := X) hM ca cb e1
  obtain ⟨e3, g3⟩ := v_145_ok (X := X) (h := h2) ca cb e2
  rw [hT] at g3
  obtain ⟨m, hm, hc1, hc2⟩ := hK ca cb e3 (.int 0) (.int v)
  refine ⟨m, ?_, by omega, by omega⟩
  show j_Go X (399 + 1) 266 (13, [.ref 0, .ref (0 + 1), .ref (1076 + 1), .ref (1133 + 1), .int (Int32.ofNat i), u5, u6], []) _ _
  refine gs_iload hk_266 rfl rfl rfl ?_
  refine gs_aload hk_266 rfl rfl rfl ?_
  refine gs_alen hk_266 rfl rfl ?_
  refine gs_push (x := 4) hk_266 rfl (by decide) rfl ?_
  refine gs_bin (z := Int32.ofNat X.length - 4) hk_266 rfl rfl rfl ?_
  refine gs_icF hk_266 rfl (la_goF hi hl) rfl ?_
  refine gs_aload hk_266 rfl rfl rfl ?_
  refine gs_iload hk_266 rfl rfl rfl ?_
  refine gs_sald (z := i) (x := X.getD i 0) hk_266 rfl (by omega) hl rfl rfl ?_
  refine gs_push (x := 31) hk_266 rfl (by decide) rfl ?_
  refine gs_bin (z := 19) hk_266 rfl (la_sw hop) rfl ?_
  refine gs_sw (j := 713) hk_266 rfl rfl ?_
  refine gs_aload hk_266 rfl rfl rfl ?_
  refine gs_aload hk_266 rfl rfl rfl ?_
  refine gs_iload hk_266 rfl rfl rfl ?_
  refine gs_push (x := 1) hk_266 rfl (by decide) rfl ?_
  refine gs_bin (z := Int32.ofNat (i + 1)) hk_266 rfl la_add rfl ?_
  refine gs_sald (z := (i + 1)) (x := a1) hk_266 rfl (by omega) hl ha1 rfl ?_
  refine gs_un (z := la_i2c a1) hk_266 rfl rfl rfl ?_
  refine gs_aload hk_266 rfl rfl rfl ?_
  refine gs_iload hk_266 rfl rfl rfl ?_
  refine gs_push (x := 2) hk_266 rfl (by decide) rfl ?_
  refine gs_bin (z := Int32.ofNat (i + 2)) hk_266 rfl la_add rfl ?_
  refine gs_sald (z := (i + 2)) (x := a2) hk_266 rfl (by omega) hl ha2 rfl ?_
  refine gs_aload hk_266 rfl rfl rfl ?_
  refine gs_call (as := [.ref (0 + 1), .int (la_i2c a1), .int a2, .ref (1133 + 1)]) (rest := []) hk_266 rfl (Or.inr (Or.inr (Or.inl rfl))) rfl rfl rfl (Nat.not_lt.mpr (Nat.le_of_ble_eq_true rfl)) (e_up g1 (by decide : 300 ≤ 399)) rfl ?_
  refine gs_istore (L2 := [.ref 0, .ref (0 + 1), .ref (1076 + 1), .ref (1133 + 1), .int (Int32.ofNat i), .int 0, u6]) hk_266 rfl (Nat.le_of_ble_eq_true rfl) rfl rfl ?_
  refine gs_aload hk_266 rfl rfl rfl ?_
  refine gs_aload hk_266 rfl rfl rfl ?_
  refine gs_iload hk_266 rfl rfl rfl ?_
  refine gs_push (x := 1) hk_266 rfl (by decide) rfl ?_
  refine gs_bin (z := Int32.ofNat (i + 1)) hk_266 rfl la_add rfl ?_
  refine gs_sald (z := (i + 1)) (x := a1) hk_266 rfl (by omega) hl ha1 rfl ?_
  refine gs_un (z := la_i2c a1) hk_266 rfl rfl rfl ?_
  refine gs_aload hk_266 rfl rfl rfl ?_
  refine gs_iload hk_266 rfl rfl rfl ?_
  refine gs_push (x := 2) hk_266 rfl (by decide) rfl ?_
  refine gs_bin (z := Int32.ofNat (i + 2)) hk_266 rfl la_add rfl ?_
  refine gs_sald (z := (i + 2)) (x := a2) hk_266 rfl (by omega) hl ha2 rfl ?_
  refine gs_call (as := [.ref (1076 + 1), .int (la_i2c a1), .int a2]) (rest := []) hk_266 rfl (Or.inr (Or.inr (Or.inr ⟨Or.inl rfl, la_rcv la_1076⟩))) rfl rfl rfl (Nat.not_lt.mpr (Nat.le_of_ble_eq_true rfl)) (e_up g2 (by decide : 15 ≤ 399)) rfl ?_
  refine gs_istore (L2 := [.ref 0, .ref (0 + 1), .ref (1076 + 1), .ref (1133 + 1), .int (Int32.ofNat i), .int 0, .int v]) hk_266 rfl (Nat.le_of_ble_eq_true rfl) rfl rfl ?_
  refine gs_aload hk_266 rfl rfl rfl ?_
  refine gs_call (as := [.ref (1076 + 1)]) (rest := []) hk_266 rfl (Or.inr (Or.inr (Or.inr ⟨Or.inl rfl, la_rcv la_1076⟩))) rfl rfl rfl (Nat.not_lt.mpr (Nat.le_of_ble_eq_true rfl)) (e_up g3 (by decide : 0 ≤ 399)) rfl ?_
  refine gs_iload hk_266 rfl rfl rfl ?_
  refine gs_icT hk_266 rfl (jc_T0 rfl) ?_
  refine gs_iload hk_266 rfl rfl rfl ?_
  refine gs_ifF hk_266 rfl rfl rfl ?_
  refine gs_aload hk_266 rfl rfl rfl ?_
  refine gs_push (x := 0) hk_266 rfl (by decide) rfl ?_
  refine gs_lald (y := (v).toInt64) hk_266 rfl (by show (h2 1133 0).toInt64 = _; rw [hO]) rfl ?_
  refine gs_iload hk_266 rfl rfl rfl ?_
  refine gs_i2l hk_266 rfl rfl ?_
  refine gs_lcmp hk_266 rfl rfl ?_
  refine gs_ifT hk_266 rfl rfl ?_
  refine gs_goto hk_266 rfl ?_
  refine gs_iinc (y := Int32.ofNat (i + 4)) (L2 := [.ref 0, .ref (0 + 1), .ref (1076 + 1), .ref (1133 + 1), .int (Int32.ofNat (i + 4)), .int 0, .int v]) hk_266 rfl rfl (Option.some.inj la_add) rfl rfl ?_
  refine gs_goto hk_266 rfl ?_
  exact hm
set_option maxRecDepth 20000 in
theorem la_c19_x0 {X : List Int32} {n i : Nat} {h h1 h2 : Hp} {a1 a2 v : Int32} (hi : i + 4 ≤ X.length) (hl : X.length ≤ 2048) (hop : X.getD i 0 &&& 31 = 19) (ha1 : X.getD (i + 1) 0 = a1) (ha2 : X.getD (i + 2) 0 = a2) (hC : p_116 h (la_i2c a1) a2 = some (.inr 0, h1)) (hM : p_242 (h1) (la_i2c a1) a2 = some (v, h2)) (hT : v_145 h2 = 1) (hK : la_at X n (i + 4) h2) : la_at X (n + 1) i h := by
  intro ca cb ce u5 u6
  obtain ⟨e1, g1⟩ := lw_263_x0 (X := X) hC ca cb ce
  obtain ⟨e2, g2⟩ := p_242_ok (X := X) hM (ca + 1) (cb + 6) e1
  obtain ⟨e3, g3⟩ := v_145_ok (X := X) (h := h2) (ca + 1) (cb + 6) e2
  rw [hT] at g3
  obtain ⟨m, hm, hc1, hc2⟩ := hK (ca + 1) (cb + 6) e3 (.int 1) (.int v)
  refine ⟨m, ?_, by omega, by omega⟩
  show j_Go X (399 + 1) 266 (13, [.ref 0, .ref (0 + 1), .ref (1076 + 1), .ref (1133 + 1), .int (Int32.ofNat i), u5, u6], []) _ _
  refine gs_iload hk_266 rfl rfl rfl ?_
  refine gs_aload hk_266 rfl rfl rfl ?_
  refine gs_alen hk_266 rfl rfl ?_
  refine gs_push (x := 4) hk_266 rfl (by decide) rfl ?_
  refine gs_bin (z := Int32.ofNat X.length - 4) hk_266 rfl rfl rfl ?_
  refine gs_icF hk_266 rfl (la_goF hi hl) rfl ?_
  refine gs_aload hk_266 rfl rfl rfl ?_
  refine gs_iload hk_266 rfl rfl rfl ?_
  refine gs_sald (z := i) (x := X.getD i 0) hk_266 rfl (by omega) hl rfl rfl ?_
  refine gs_push (x := 31) hk_266 rfl (by decide) rfl ?_
  refine gs_bin (z := 19) hk_266 rfl (la_sw hop) rfl ?_
  refine gs_sw (j := 713) hk_266 rfl rfl ?_
  refine gs_aload hk_266 rfl rfl rfl ?_
  refine gs_aload hk_266 rfl rfl rfl ?_
  refine gs_iload hk_266 rfl rfl rfl ?_
  refine gs_push (x := 1) hk_266 rfl (by decide) rfl ?_
  refine gs_bin (z := Int32.ofNat (i + 1)) hk_266 rfl la_add rfl ?_
  refine gs_sald (z := (i + 1)) (x := a1) hk_266 rfl (by omega) hl ha1 rfl ?_
  refine gs_un (z := la_i2c a1) hk_266 rfl rfl rfl ?_
  refine gs_aload hk_266 rfl rfl rfl ?_
  refine gs_iload hk_266 rfl rfl rfl ?_
  refine gs_push (x := 2) hk_266 rfl (by decide) rfl ?_
  refine gs_bin (z := Int32.ofNat (i + 2)) hk_266 rfl la_add rfl ?_
  refine gs_sald (z := (i + 2)) (x := a2) hk_266 rfl (by omega) hl ha2 rfl ?_
  refine gs_aload hk_266 rfl rfl rfl ?_
  refine gs_call (as := [.ref (0 + 1), .int (la_i2c a1), .int a2, .ref (1133 + 1)]) (rest := []) hk_266 rfl (Or.inr (Or.inr (Or.inl rfl))) rfl rfl rfl (Nat.not_lt.mpr (Nat.le_of_ble_eq_true rfl)) (e_up g1 (by decide : 300 ≤ 399)) rfl ?_
  refine gs_istore (L2 := [.ref 0, .ref (0 + 1), .ref (1076 + 1), .ref (1133 + 1), .int (Int32.ofNat i), .int 1, u6]) hk_266 rfl (Nat.le_of_ble_eq_true rfl) rfl rfl ?_
  refine gs_aload hk_266 rfl rfl rfl ?_
  refine gs_aload hk_266 rfl rfl rfl ?_
  refine gs_iload hk_266 rfl rfl rfl ?_
  refine gs_push (x := 1) hk_266 rfl (by decide) rfl ?_
  refine gs_bin (z := Int32.ofNat (i + 1)) hk_266 rfl la_add rfl ?_
  refine gs_sald (z := (i + 1)) (x := a1) hk_266 rfl (by omega) hl ha1 rfl ?_
  refine gs_un (z := la_i2c a1) hk_266 rfl rfl rfl ?_
  refine gs_aload hk_266 rfl rfl rfl ?_
  refine gs_iload hk_266 rfl rfl rfl ?_
  refine gs_push (x := 2) hk_266 rfl (by decide) rfl ?_
  refine gs_bin (z := Int32.ofNat (i + 2)) hk_266 rfl la_add rfl ?_
  refine gs_sald (z := (i + 2)) (x := a2) hk_266 rfl (by omega) hl ha2 rfl ?_
  refine gs_call (as := [.ref (1076 + 1), .int (la_i2c a1), .int a2]) (rest := []) hk_266 rfl (Or.inr (Or.inr (Or.inr ⟨Or.inl rfl, la_rcv la_1076⟩))) rfl rfl rfl (Nat.not_lt.mpr (Nat.le_of_ble_eq_true rfl)) (e_up g2 (by decide : 15 ≤ 399)) rfl ?_
  refine gs_istore (L2 := [.ref 0, .ref (0 + 1), .ref (1076 + 1), .ref (1133 + 1), .int (Int32.ofNat i), .int 1, .int v]) hk_266 rfl (Nat.le_of_ble_eq_true rfl) rfl rfl ?_
  refine gs_aload hk_266 rfl rfl rfl ?_
  refine gs_call (as := [.ref (1076 + 1)]) (rest := []) hk_266 rfl (Or.inr (Or.inr (Or.inr ⟨Or.inl rfl, la_rcv la_1076⟩))) rfl rfl rfl (Nat.not_lt.mpr (Nat.le_of_ble_eq_true rfl)) (e_up g3 (by decide : 0 ≤ 399)) rfl ?_
  refine gs_iload hk_266 rfl rfl rfl ?_
  refine gs_icT hk_266 rfl (jc_T0 rfl) ?_
  refine gs_iload hk_266 rfl rfl rfl ?_
  refine gs_ifT hk_266 rfl rfl ?_
  refine gs_goto hk_266 rfl ?_
  refine gs_iinc (y := Int32.ofNat (i + 4)) (L2 := [.ref 0, .ref (0 + 1), .ref (1076 + 1), .ref (1133 + 1), .int (Int32.ofNat (i + 4)), .int 1, .int v]) hk_266 rfl rfl (Option.some.inj la_add) rfl rfl ?_
  refine gs_goto hk_266 rfl ?_
  exact hm
set_option maxRecDepth 20000 in
theorem la_c19_x1 {X : List Int32} {n i : Nat} {h h1 h2 : Hp} {a1 a2 v : Int32} (hi : i + 4 ≤ X.length) (hl : X.length ≤ 2048) (hop : X.getD i 0 &&& 31 = 19) (ha1 : X.getD (i + 1) 0 = a1) (ha2 : X.getD (i + 2) 0 = a2) (hC : p_116 h (la_i2c a1) a2 = some (.inr 1, h1)) (hM : p_242 (h1) (la_i2c a1) a2 = some (v, h2)) (hT : v_145 h2 = 2) (hK : la_at X n (i + 4) h2) : la_at X (n + 1) i h := by
  intro ca cb ce u5 u6
  obtain ⟨e1, g1⟩ := lw_263_x1 (X := X) hC ca cb ce
  obtain ⟨e2, g2⟩ := p_242_ok (X := X) hM (ca + 1) (cb + 6) e1
  obtain ⟨e3, g3⟩ := v_145_ok (X := X) (h := h2) (ca + 1) (cb + 6) e2
  rw [hT] at g3
  obtain ⟨m, hm, hc1, hc2⟩ := hK (ca + 1) (cb + 6) e3 (.int 2) (.int v)
  refine ⟨m, ?_, by omega, by omega⟩
  show j_Go X (399 + 1) 266 (13, [.ref 0, .ref (0 + 1), .ref (1076 + 1), .ref (1133 + 1), .int (Int32.ofNat i), u5, u6], []) _ _
  refine gs_iload hk_266 rfl rfl rfl ?_
  refine gs_aload hk_266 rfl rfl rfl ?_
  refine gs_alen hk_266 rfl rfl ?_
  refine gs_push (x := 4) hk_266 rfl (by decide) rfl ?_
  refine gs_bin (z := Int32.ofNat X.length - 4) hk_266 rfl rfl rfl ?_
  refine gs_icF hk_266 rfl (la_goF hi hl) rfl ?_
  refine gs_aload hk_266 rfl rfl rfl ?_
  refine gs_iload hk_266 rfl rfl rfl ?_
  refine gs_sald (z := i) (x := X.getD i 0) hk_266 rfl (by omega) hl rfl rfl ?_
  refine gs_push (x := 31) hk_266 rfl (by decide) rfl ?_
  refine gs_bin (z := 19) hk_266 rfl (la_sw hop) rfl ?_
  refine gs_sw (j := 713) hk_266 rfl rfl ?_
  refine gs_aload hk_266 rfl rfl rfl ?_
  refine gs_aload hk_266 rfl rfl rfl ?_
  refine gs_iload hk_266 rfl rfl rfl ?_
  refine gs_push (x := 1) hk_266 rfl (by decide) rfl ?_
  refine gs_bin (z := Int32.ofNat (i + 1)) hk_266 rfl la_add rfl ?_
  refine gs_sald (z := (i + 1)) (x := a1) hk_266 rfl (by omega) hl ha1 rfl ?_
  refine gs_un (z := la_i2c a1) hk_266 rfl rfl rfl ?_
  refine gs_aload hk_266 rfl rfl rfl ?_
  refine gs_iload hk_266 rfl rfl rfl ?_
  refine gs_push (x := 2) hk_266 rfl (by decide) rfl ?_
  refine gs_bin (z := Int32.ofNat (i + 2)) hk_266 rfl la_add rfl ?_
  refine gs_sald (z := (i + 2)) (x := a2) hk_266 rfl (by omega) hl ha2 rfl ?_
  refine gs_aload hk_266 rfl rfl rfl ?_
  refine gs_call (as := [.ref (0 + 1), .int (la_i2c a1), .int a2, .ref (1133 + 1)]) (rest := []) hk_266 rfl (Or.inr (Or.inr (Or.inl rfl))) rfl rfl rfl (Nat.not_lt.mpr (Nat.le_of_ble_eq_true rfl)) (e_up g1 (by decide : 300 ≤ 399)) rfl ?_
  refine gs_istore (L2 := [.ref 0, .ref (0 + 1), .ref (1076 + 1), .ref (1133 + 1), .int (Int32.ofNat i), .int 2, u6]) hk_266 rfl (Nat.le_of_ble_eq_true rfl) rfl rfl ?_
  refine gs_aload hk_266 rfl rfl rfl ?_
  refine gs_aload hk_266 rfl rfl rfl ?_
  refine gs_iload hk_266 rfl rfl rfl ?_
  refine gs_push (x := 1) hk_266 rfl (by decide) rfl ?_
  refine gs_bin (z := Int32.ofNat (i + 1)) hk_266 rfl la_add rfl ?_
  refine gs_sald (z := (i + 1)) (x := a1) hk_266 rfl (by omega) hl ha1 rfl ?_
  refine gs_un (z := la_i2c a1) hk_266 rfl rfl rfl ?_
  refine gs_aload hk_266 rfl rfl rfl ?_
  refine gs_iload hk_266 rfl rfl rfl ?_
  refine gs_push (x := 2) hk_266 rfl (by decide) rfl ?_
  refine gs_bin (z := Int32.ofNat (i + 2)) hk_266 rfl la_add rfl ?_
  refine gs_sald (z := (i + 2)) (x := a2) hk_266 rfl (by omega) hl ha2 rfl ?_
  refine gs_call (as := [.ref (1076 + 1), .int (la_i2c a1), .int a2]) (rest := []) hk_266 rfl (Or.inr (Or.inr (Or.inr ⟨Or.inl rfl, la_rcv la_1076⟩))) rfl rfl rfl (Nat.not_lt.mpr (Nat.le_of_ble_eq_true rfl)) (e_up g2 (by decide : 15 ≤ 399)) rfl ?_
  refine gs_istore (L2 := [.ref 0, .ref (0 + 1), .ref (1076 + 1), .ref (1133 + 1), .int (Int32.ofNat i), .int 2, .int v]) hk_266 rfl (Nat.le_of_ble_eq_true rfl) rfl rfl ?_
  refine gs_aload hk_266 rfl rfl rfl ?_
  refine gs_call (as := [.ref (1076 + 1)]) (rest := []) hk_266 rfl (Or.inr (Or.inr (Or.inr ⟨Or.inl rfl, la_rcv la_1076⟩))) rfl rfl rfl (Nat.not_lt.mpr (Nat.le_of_ble_eq_true rfl)) (e_up g3 (by decide : 0 ≤ 399)) rfl ?_
  refine gs_iload hk_266 rfl rfl rfl ?_
  refine gs_icT hk_266 rfl (jc_T0 rfl) ?_
  refine gs_iload hk_266 rfl rfl rfl ?_
  refine gs_ifT hk_266 rfl rfl ?_
  refine gs_goto hk_266 rfl ?_
  refine gs_iinc (y := Int32.ofNat (i + 4)) (L2 := [.ref 0, .ref (0 + 1), .ref (1076 + 1), .ref (1133 + 1), .int (Int32.ofNat (i + 4)), .int 2, .int v]) hk_266 rfl rfl (Option.some.inj la_add) rfl rfl ?_
  refine gs_goto hk_266 rfl ?_
  exact hm
set_option maxRecDepth 20000 in
theorem la_c20_n {X : List Int32} {n i : Nat} {h h1 h2 : Hp} {a1 v : Int32} (hi : i + 4 ≤ X.length) (hl : X.length ≤ 2048) (hop : X.getD i 0 &&& 31 = 20) (ha1 : X.getD (i + 1) 0 = a1) (hC : p_117 h a1 = some (.inl v, h1)) (hM : p_243 (w_up h1 1133 0 v) a1 = some (v, h2)) (hT : v_145 h2 = 0) (hO : h2 1133 0 = v) (hK : la_at X n (i + 4) h2) : la_at X (n + 1) i h := by
  intro ca cb ce u5 u6
  obtain ⟨e1, g1⟩ := lw_264_n (X := X) hC ca cb ce
  obtain ⟨e2, g2⟩ := p_243_ok (X := X) hM ca cb e1
  obtain ⟨e3, g3⟩ := v_145_ok (X := X) (h := h2) ca cb e2
  rw [hT] at g3
  obtain ⟨m, hm, hc1, hc2⟩ := hK ca cb e3 (.int 0) (.int v)
  refine ⟨m, ?_, by omega, by omega⟩
  show j_Go X (399 + 1) 266 (13, [.ref 0, .ref (0 + 1), .ref (1076 + 1), .ref (1133 + 1), .int (Int32.ofNat i), u5, u6], []) _ _
  refine gs_iload hk_266 rfl rfl rfl ?_
  refine gs_aload hk_266 rfl rfl rfl ?_
  refine gs_alen hk_266 rfl rfl ?_
  refine gs_push (x := 4) hk_266 rfl (by decide) rfl ?_
  refine gs_bin (z := Int32.ofNat X.length - 4) hk_266 rfl rfl rfl ?_
  refine gs_icF hk_266 rfl (la_goF hi hl) rfl ?_
  refine gs_aload hk_266 rfl rfl rfl ?_
  refine gs_iload hk_266 rfl rfl rfl ?_
  refine gs_sald (z := i) (x := X.getD i 0) hk_266 rfl (by omega) hl rfl rfl ?_
  refine gs_push (x := 31) hk_266 rfl (by decide) rfl ?_
  refine gs_bin (z := 20) hk_266 rfl (la_sw hop) rfl ?_
  refine gs_sw (j := 760) hk_266 rfl rfl ?_
  refine gs_aload hk_266 rfl rfl rfl ?_
  refine gs_aload hk_266 rfl rfl rfl ?_
  refine gs_iload hk_266 rfl rfl rfl ?_
  refine gs_push (x := 1) hk_266 rfl (by decide) rfl ?_
  refine gs_bin (z := Int32.ofNat (i + 1)) hk_266 rfl la_add rfl ?_
  refine gs_sald (z := (i + 1)) (x := a1) hk_266 rfl (by omega) hl ha1 rfl ?_
  refine gs_aload hk_266 rfl rfl rfl ?_
  refine gs_call (as := [.ref (0 + 1), .int a1, .ref (1133 + 1)]) (rest := []) hk_266 rfl (Or.inr (Or.inr (Or.inl rfl))) rfl rfl rfl (Nat.not_lt.mpr (Nat.le_of_ble_eq_true rfl)) (e_up g1 (by decide : 300 ≤ 399)) rfl ?_
  refine gs_istore (L2 := [.ref 0, .ref (0 + 1), .ref (1076 + 1), .ref (1133 + 1), .int (Int32.ofNat i), .int 0, u6]) hk_266 rfl (Nat.le_of_ble_eq_true rfl) rfl rfl ?_
  refine gs_aload hk_266 rfl rfl rfl ?_
  refine gs_aload hk_266 rfl rfl rfl ?_
  refine gs_iload hk_266 rfl rfl rfl ?_
  refine gs_push (x := 1) hk_266 rfl (by decide) rfl ?_
  refine gs_bin (z := Int32.ofNat (i + 1)) hk_266 rfl la_add rfl ?_
  refine gs_sald (z := (i + 1)) (x := a1) hk_266 rfl (by omega) hl ha1 rfl ?_
  refine gs_call (as := [.ref (1076 + 1), .int a1]) (rest := []) hk_266 rfl (Or.inr (Or.inr (Or.inr ⟨Or.inl rfl, la_rcv la_1076⟩))) rfl rfl rfl (Nat.not_lt.mpr (Nat.le_of_ble_eq_true rfl)) (e_up g2 (by decide : 15 ≤ 399)) rfl ?_
  refine gs_istore (L2 := [.ref 0, .ref (0 + 1), .ref (1076 + 1), .ref (1133 + 1), .int (Int32.ofNat i), .int 0, .int v]) hk_266 rfl (Nat.le_of_ble_eq_true rfl) rfl rfl ?_
  refine gs_aload hk_266 rfl rfl rfl ?_
  refine gs_call (as := [.ref (1076 + 1)]) (rest := []) hk_266 rfl (Or.inr (Or.inr (Or.inr ⟨Or.inl rfl, la_rcv la_1076⟩))) rfl rfl rfl (Nat.not_lt.mpr (Nat.le_of_ble_eq_true rfl)) (e_up g3 (by decide : 0 ≤ 399)) rfl ?_
  refine gs_iload hk_266 rfl rfl rfl ?_
  refine gs_icT hk_266 rfl (jc_T0 rfl) ?_
  refine gs_iload hk_266 rfl rfl rfl ?_
  refine gs_ifF hk_266 rfl rfl rfl ?_
  refine gs_aload hk_266 rfl rfl rfl ?_
  refine gs_push (x := 0) hk_266 rfl (by decide) rfl ?_
  refine gs_lald (y := (v).toInt64) hk_266 rfl (by show (h2 1133 0).toInt64 = _; rw [hO]) rfl ?_
  refine gs_iload hk_266 rfl rfl rfl ?_
  refine gs_i2l hk_266 rfl rfl ?_
  refine gs_lcmp hk_266 rfl rfl ?_
  refine gs_ifT hk_266 rfl rfl ?_
  refine gs_goto hk_266 rfl ?_
  refine gs_iinc (y := Int32.ofNat (i + 4)) (L2 := [.ref 0, .ref (0 + 1), .ref (1076 + 1), .ref (1133 + 1), .int (Int32.ofNat (i + 4)), .int 0, .int v]) hk_266 rfl rfl (Option.some.inj la_add) rfl rfl ?_
  refine gs_goto hk_266 rfl ?_
  exact hm
set_option maxRecDepth 20000 in
theorem la_c20_x2 {X : List Int32} {n i : Nat} {h h1 h2 : Hp} {a1 v : Int32} (hi : i + 4 ≤ X.length) (hl : X.length ≤ 2048) (hop : X.getD i 0 &&& 31 = 20) (ha1 : X.getD (i + 1) 0 = a1) (hC : p_117 h a1 = some (.inr 2, h1)) (hM : p_243 (h1) a1 = some (v, h2)) (hT : v_145 h2 = 1) (hK : la_at X n (i + 4) h2) : la_at X (n + 1) i h := by
  intro ca cb ce u5 u6
  obtain ⟨e1, g1⟩ := lw_264_x2 (X := X) hC ca cb ce
  obtain ⟨e2, g2⟩ := p_243_ok (X := X) hM (ca + 1) (cb + 6) e1
  obtain ⟨e3, g3⟩ := v_145_ok (X := X) (h := h2) (ca + 1) (cb + 6) e2
  rw [hT] at g3
  obtain ⟨m, hm, hc1, hc2⟩ := hK (ca + 1) (cb + 6) e3 (.int 1) (.int v)
  refine ⟨m, ?_, by omega, by omega⟩
  show j_Go X (399 + 1) 266 (13, [.ref 0, .ref (0 + 1), .ref (1076 + 1), .ref (1133 + 1), .int (Int32.ofNat i), u5, u6], []) _ _
  refine gs_iload hk_266 rfl rfl rfl ?_
  refine gs_aload hk_266 rfl rfl rfl ?_
  refine gs_alen hk_266 rfl rfl ?_
  refine gs_push (x := 4) hk_266 rfl (by decide) rfl ?_
  refine gs_bin (z := Int32.ofNat X.length - 4) hk_266 rfl rfl rfl ?_
  refine gs_icF hk_266 rfl (la_goF hi hl) rfl ?_
  refine gs_aload hk_266 rfl rfl rfl ?_
  refine gs_iload hk_266 rfl rfl rfl ?_
  refine gs_sald (z := i) (x := X.getD i 0) hk_266 rfl (by omega) hl rfl rfl ?_
  refine gs_push (x := 31) hk_266 rfl (by decide) rfl ?_
  refine gs_bin (z := 20) hk_266 rfl (la_sw hop) rfl ?_
  refine gs_sw (j := 760) hk_266 rfl rfl ?_
  refine gs_aload hk_266 rfl rfl rfl ?_
  refine gs_aload hk_266 rfl rfl rfl ?_
  refine gs_iload hk_266 rfl rfl rfl ?_
  refine gs_push (x := 1) hk_266 rfl (by decide) rfl ?_
  refine gs_bin (z := Int32.ofNat (i + 1)) hk_266 rfl la_add rfl ?_
  refine gs_sald (z := (i + 1)) (x := a1) hk_266 rfl (by omega) hl ha1 rfl ?_
  refine gs_aload hk_266 rfl rfl rfl ?_
  refine gs_call (as := [.ref (0 + 1), .int a1, .ref (1133 + 1)]) (rest := []) hk_266 rfl (Or.inr (Or.inr (Or.inl rfl))) rfl rfl rfl (Nat.not_lt.mpr (Nat.le_of_ble_eq_true rfl)) (e_up g1 (by decide : 300 ≤ 399)) rfl ?_
  refine gs_istore (L2 := [.ref 0, .ref (0 + 1), .ref (1076 + 1), .ref (1133 + 1), .int (Int32.ofNat i), .int 1, u6]) hk_266 rfl (Nat.le_of_ble_eq_true rfl) rfl rfl ?_
  refine gs_aload hk_266 rfl rfl rfl ?_
  refine gs_aload hk_266 rfl rfl rfl ?_
  refine gs_iload hk_266 rfl rfl rfl ?_
  refine gs_push (x := 1) hk_266 rfl (by decide) rfl ?_
  refine gs_bin (z := Int32.ofNat (i + 1)) hk_266 rfl la_add rfl ?_
  refine gs_sald (z := (i + 1)) (x := a1) hk_266 rfl (by omega) hl ha1 rfl ?_
  refine gs_call (as := [.ref (1076 + 1), .int a1]) (rest := []) hk_266 rfl (Or.inr (Or.inr (Or.inr ⟨Or.inl rfl, la_rcv la_1076⟩))) rfl rfl rfl (Nat.not_lt.mpr (Nat.le_of_ble_eq_true rfl)) (e_up g2 (by decide : 15 ≤ 399)) rfl ?_
  refine gs_istore (L2 := [.ref 0, .ref (0 + 1), .ref (1076 + 1), .ref (1133 + 1), .int (Int32.ofNat i), .int 1, .int v]) hk_266 rfl (Nat.le_of_ble_eq_true rfl) rfl rfl ?_
  refine gs_aload hk_266 rfl rfl rfl ?_
  refine gs_call (as := [.ref (1076 + 1)]) (rest := []) hk_266 rfl (Or.inr (Or.inr (Or.inr ⟨Or.inl rfl, la_rcv la_1076⟩))) rfl rfl rfl (Nat.not_lt.mpr (Nat.le_of_ble_eq_true rfl)) (e_up g3 (by decide : 0 ≤ 399)) rfl ?_
  refine gs_iload hk_266 rfl rfl rfl ?_
  refine gs_icT hk_266 rfl (jc_T0 rfl) ?_
  refine gs_iload hk_266 rfl rfl rfl ?_
  refine gs_ifT hk_266 rfl rfl ?_
  refine gs_goto hk_266 rfl ?_
  refine gs_iinc (y := Int32.ofNat (i + 4)) (L2 := [.ref 0, .ref (0 + 1), .ref (1076 + 1), .ref (1133 + 1), .int (Int32.ofNat (i + 4)), .int 1, .int v]) hk_266 rfl rfl (Option.some.inj la_add) rfl rfl ?_
  refine gs_goto hk_266 rfl ?_
  exact hm
set_option maxRecDepth 20000 in
theorem la_c21_n {X : List Int32} {n i : Nat} {h h2 : Hp} {a1 v : Int32} (hi : i + 4 ≤ X.length) (hl : X.length ≤ 2048) (hop : X.getD i 0 &&& 31 = 21) (ha1 : X.getD (i + 1) 0 = a1) (hC : p_118 h a1 = some (.inl v)) (hM : p_244 (w_up h 1133 0 v) a1 = some (v, h2)) (hT : v_145 h2 = 0) (hO : h2 1133 0 = v) (hK : la_at X n (i + 4) h2) : la_at X (n + 1) i h := by
  intro ca cb ce u5 u6
  obtain ⟨e1, g1⟩ := lw_265_n (X := X) hC ca cb ce
  obtain ⟨e2, g2⟩ := p_244_ok (X := X) hM ca cb e1
  obtain ⟨e3, g3⟩ := v_145_ok (X := X) (h := h2) ca cb e2
  rw [hT] at g3
  obtain ⟨m, hm, hc1, hc2⟩ := hK ca cb e3 (.int 0) (.int v)
  refine ⟨m, ?_, by omega, by omega⟩
  show j_Go X (399 + 1) 266 (13, [.ref 0, .ref (0 + 1), .ref (1076 + 1), .ref (1133 + 1), .int (Int32.ofNat i), u5, u6], []) _ _
  refine gs_iload hk_266 rfl rfl rfl ?_
  refine gs_aload hk_266 rfl rfl rfl ?_
  refine gs_alen hk_266 rfl rfl ?_
  refine gs_push (x := 4) hk_266 rfl (by decide) rfl ?_
  refine gs_bin (z := Int32.ofNat X.length - 4) hk_266 rfl rfl rfl ?_
  refine gs_icF hk_266 rfl (la_goF hi hl) rfl ?_
  refine gs_aload hk_266 rfl rfl rfl ?_
  refine gs_iload hk_266 rfl rfl rfl ?_
  refine gs_sald (z := i) (x := X.getD i 0) hk_266 rfl (by omega) hl rfl rfl ?_
  refine gs_push (x := 31) hk_266 rfl (by decide) rfl ?_
  refine gs_bin (z := 21) hk_266 rfl (la_sw hop) rfl ?_
  refine gs_sw (j := 795) hk_266 rfl rfl ?_
  refine gs_aload hk_266 rfl rfl rfl ?_
  refine gs_aload hk_266 rfl rfl rfl ?_
  refine gs_iload hk_266 rfl rfl rfl ?_
  refine gs_push (x := 1) hk_266 rfl (by decide) rfl ?_
  refine gs_bin (z := Int32.ofNat (i + 1)) hk_266 rfl la_add rfl ?_
  refine gs_sald (z := (i + 1)) (x := a1) hk_266 rfl (by omega) hl ha1 rfl ?_
  refine gs_aload hk_266 rfl rfl rfl ?_
  refine gs_call (as := [.ref (0 + 1), .int a1, .ref (1133 + 1)]) (rest := []) hk_266 rfl (Or.inr (Or.inr (Or.inl rfl))) rfl rfl rfl (Nat.not_lt.mpr (Nat.le_of_ble_eq_true rfl)) (e_up g1 (by decide : 300 ≤ 399)) rfl ?_
  refine gs_istore (L2 := [.ref 0, .ref (0 + 1), .ref (1076 + 1), .ref (1133 + 1), .int (Int32.ofNat i), .int 0, u6]) hk_266 rfl (Nat.le_of_ble_eq_true rfl) rfl rfl ?_
  refine gs_aload hk_266 rfl rfl rfl ?_
  refine gs_aload hk_266 rfl rfl rfl ?_
  refine gs_iload hk_266 rfl rfl rfl ?_
  refine gs_push (x := 1) hk_266 rfl (by decide) rfl ?_
  refine gs_bin (z := Int32.ofNat (i + 1)) hk_266 rfl la_add rfl ?_
  refine gs_sald (z := (i + 1)) (x := a1) hk_266 rfl (by omega) hl ha1 rfl ?_
  refine gs_call (as := [.ref (1076 + 1), .int a1]) (rest := []) hk_266 rfl (Or.inr (Or.inr (Or.inr ⟨Or.inl rfl, la_rcv la_1076⟩))) rfl rfl rfl (Nat.not_lt.mpr (Nat.le_of_ble_eq_true rfl)) (e_up g2 (by decide : 8 ≤ 399)) rfl ?_
  refine gs_istore (L2 := [.ref 0, .ref (0 + 1), .ref (1076 + 1), .ref (1133 + 1), .int (Int32.ofNat i), .int 0, .int v]) hk_266 rfl (Nat.le_of_ble_eq_true rfl) rfl rfl ?_
  refine gs_aload hk_266 rfl rfl rfl ?_
  refine gs_call (as := [.ref (1076 + 1)]) (rest := []) hk_266 rfl (Or.inr (Or.inr (Or.inr ⟨Or.inl rfl, la_rcv la_1076⟩))) rfl rfl rfl (Nat.not_lt.mpr (Nat.le_of_ble_eq_true rfl)) (e_up g3 (by decide : 0 ≤ 399)) rfl ?_
  refine gs_iload hk_266 rfl rfl rfl ?_
  refine gs_icT hk_266 rfl (jc_T0 rfl) ?_
  refine gs_iload hk_266 rfl rfl rfl ?_
  refine gs_ifF hk_266 rfl rfl rfl ?_
  refine gs_aload hk_266 rfl rfl rfl ?_
  refine gs_push (x := 0) hk_266 rfl (by decide) rfl ?_
  refine gs_lald (y := (v).toInt64) hk_266 rfl (by show (h2 1133 0).toInt64 = _; rw [hO]) rfl ?_
  refine gs_iload hk_266 rfl rfl rfl ?_
  refine gs_i2l hk_266 rfl rfl ?_
  refine gs_lcmp hk_266 rfl rfl ?_
  refine gs_ifT hk_266 rfl rfl ?_
  refine gs_goto hk_266 rfl ?_
  refine gs_iinc (y := Int32.ofNat (i + 4)) (L2 := [.ref 0, .ref (0 + 1), .ref (1076 + 1), .ref (1133 + 1), .int (Int32.ofNat (i + 4)), .int 0, .int v]) hk_266 rfl rfl (Option.some.inj la_add) rfl rfl ?_
  refine gs_goto hk_266 rfl ?_
  exact hm
set_option maxRecDepth 20000 in
theorem la_c21_x2 {X : List Int32} {n i : Nat} {h h2 : Hp} {a1 v : Int32} (hi : i + 4 ≤ X.length) (hl : X.length ≤ 2048) (hop : X.getD i 0 &&& 31 = 21) (ha1 : X.getD (i + 1) 0 = a1) (hC : p_118 h a1 = some (.inr 2)) (hM : p_244 (h) a1 = some (v, h2)) (hT : v_145 h2 = 1) (hK : la_at X n (i + 4) h2) : la_at X (n + 1) i h := by
  intro ca cb ce u5 u6
  obtain ⟨e1, g1⟩ := lw_265_x2 (X := X) hC ca cb ce
  obtain ⟨e2, g2⟩ := p_244_ok (X := X) hM (ca + 1) (cb + 6) e1
  obtain ⟨e3, g3⟩ := v_145_ok (X := X) (h := h2) (ca + 1) (cb + 6) e2
  rw [hT] at g3
  obtain ⟨m, hm, hc1, hc2⟩ := hK (ca + 1) (cb + 6) e3 (.int 1) (.int v)
  refine ⟨m, ?_, by omega, by omega⟩
  show j_Go X (399 + 1) 266 (13, [.ref 0, .ref (0 + 1), .ref (1076 + 1), .ref (1133 + 1), .int (Int32.ofNat i), u5, u6], []) _ _
  refine gs_iload hk_266 rfl rfl rfl ?_
  refine gs_aload hk_266 rfl rfl rfl ?_
  refine gs_alen hk_266 rfl rfl ?_
  refine gs_push (x := 4) hk_266 rfl (by decide) rfl ?_
  refine gs_bin (z := Int32.ofNat X.length - 4) hk_266 rfl rfl rfl ?_
  refine gs_icF hk_266 rfl (la_goF hi hl) rfl ?_
  refine gs_aload hk_266 rfl rfl rfl ?_
  refine gs_iload hk_266 rfl rfl rfl ?_
  refine gs_sald (z := i) (x := X.getD i 0) hk_266 rfl (by omega) hl rfl rfl ?_
  refine gs_push (x := 31) hk_266 rfl (by decide) rfl ?_
  refine gs_bin (z := 21) hk_266 rfl (la_sw hop) rfl ?_
  refine gs_sw (j := 795) hk_266 rfl rfl ?_
  refine gs_aload hk_266 rfl rfl rfl ?_
  refine gs_aload hk_266 rfl rfl rfl ?_
  refine gs_iload hk_266 rfl rfl rfl ?_
  refine gs_push (x := 1) hk_266 rfl (by decide) rfl ?_
  refine gs_bin (z := Int32.ofNat (i + 1)) hk_266 rfl la_add rfl ?_
  refine gs_sald (z := (i + 1)) (x := a1) hk_266 rfl (by omega) hl ha1 rfl ?_
  refine gs_aload hk_266 rfl rfl rfl ?_
  refine gs_call (as := [.ref (0 + 1), .int a1, .ref (1133 + 1)]) (rest := []) hk_266 rfl (Or.inr (Or.inr (Or.inl rfl))) rfl rfl rfl (Nat.not_lt.mpr (Nat.le_of_ble_eq_true rfl)) (e_up g1 (by decide : 300 ≤ 399)) rfl ?_
  refine gs_istore (L2 := [.ref 0, .ref (0 + 1), .ref (1076 + 1), .ref (1133 + 1), .int (Int32.ofNat i), .int 1, u6]) hk_266 rfl (Nat.le_of_ble_eq_true rfl) rfl rfl ?_
  refine gs_aload hk_266 rfl rfl rfl ?_
  refine gs_aload hk_266 rfl rfl rfl ?_
  refine gs_iload hk_266 rfl rfl rfl ?_
  refine gs_push (x := 1) hk_266 rfl (by decide) rfl ?_
  refine gs_bin (z := Int32.ofNat (i + 1)) hk_266 rfl la_add rfl ?_
  refine gs_sald (z := (i + 1)) (x := a1) hk_266 rfl (by omega) hl ha1 rfl ?_
  refine gs_call (as := [.ref (1076 + 1), .int a1]) (rest := []) hk_266 rfl (Or.inr (Or.inr (Or.inr ⟨Or.inl rfl, la_rcv la_1076⟩))) rfl rfl rfl (Nat.not_lt.mpr (Nat.le_of_ble_eq_true rfl)) (e_up g2 (by decide : 8 ≤ 399)) rfl ?_
  refine gs_istore (L2 := [.ref 0, .ref (0 + 1), .ref (1076 + 1), .ref (1133 + 1), .int (Int32.ofNat i), .int 1, .int v]) hk_266 rfl (Nat.le_of_ble_eq_true rfl) rfl rfl ?_
  refine gs_aload hk_266 rfl rfl rfl ?_
  refine gs_call (as := [.ref (1076 + 1)]) (rest := []) hk_266 rfl (Or.inr (Or.inr (Or.inr ⟨Or.inl rfl, la_rcv la_1076⟩))) rfl rfl rfl (Nat.not_lt.mpr (Nat.le_of_ble_eq_true rfl)) (e_up g3 (by decide : 0 ≤ 399)) rfl ?_
  refine gs_iload hk_266 rfl rfl rfl ?_
  refine gs_icT hk_266 rfl (jc_T0 rfl) ?_
  refine gs_iload hk_266 rfl rfl rfl ?_
  refine gs_ifT hk_266 rfl rfl ?_
  refine gs_goto hk_266 rfl ?_
  refine gs_iinc (y := Int32.ofNat (i + 4)) (L2 := [.ref 0, .ref (0 + 1), .ref (1076 + 1), .ref (1133 + 1), .int (Int32.ofNat (i + 4)), .int 1, .int v]) hk_266 rfl rfl (Option.some.inj la_add) rfl rfl ?_
  refine gs_goto hk_266 rfl ?_
  exact hm
set_option maxRecDepth 20000 in
theorem la_c22_n {X : List Int32} {n i : Nat} {h h2 : Hp} {v : Int32} (hi : i + 4 ≤ X.length) (hl : X.length ≤ 2048) (hop : X.getD i 0 &&& 31 = 22) (hC : v_119 h = v) (hM : p_245 (h) = some (v, h2)) (hK : la_at X n (i + 4) h2) : la_at X (n + 1) i h := by
  intro ca cb ce u5 u6
  obtain ⟨e1, g1⟩ := v_119_ok (X := X) (h := h) ca cb ce
  rw [hC] at g1
  obtain ⟨e2, g2⟩ := p_245_ok (X := X) hM ca cb e1
  obtain ⟨m, hm, hc1, hc2⟩ := hK ca cb e2 (u5) (u6)
  refine ⟨m, ?_, by omega, by omega⟩
  show j_Go X (399 + 1) 266 (13, [.ref 0, .ref (0 + 1), .ref (1076 + 1), .ref (1133 + 1), .int (Int32.ofNat i), u5, u6], []) _ _
  refine gs_iload hk_266 rfl rfl rfl ?_
  refine gs_aload hk_266 rfl rfl rfl ?_
  refine gs_alen hk_266 rfl rfl ?_
  refine gs_push (x := 4) hk_266 rfl (by decide) rfl ?_
  refine gs_bin (z := Int32.ofNat X.length - 4) hk_266 rfl rfl rfl ?_
  refine gs_icF hk_266 rfl (la_goF hi hl) rfl ?_
  refine gs_aload hk_266 rfl rfl rfl ?_
  refine gs_iload hk_266 rfl rfl rfl ?_
  refine gs_sald (z := i) (x := X.getD i 0) hk_266 rfl (by omega) hl rfl rfl ?_
  refine gs_push (x := 31) hk_266 rfl (by decide) rfl ?_
  refine gs_bin (z := 22) hk_266 rfl (la_sw hop) rfl ?_
  refine gs_sw (j := 830) hk_266 rfl rfl ?_
  refine gs_aload hk_266 rfl rfl rfl ?_
  refine gs_call (as := [.ref (0 + 1)]) (rest := []) hk_266 rfl (Or.inr (Or.inr (Or.inr ⟨Or.inl rfl, la_rcv wc_0⟩))) rfl rfl rfl (Nat.not_lt.mpr (Nat.le_of_ble_eq_true rfl)) (e_up g1 (by decide : 0 ≤ 399)) rfl ?_
  refine gs_aload hk_266 rfl rfl rfl ?_
  refine gs_call (as := [.ref (1076 + 1)]) (rest := [.int v]) hk_266 rfl (Or.inr (Or.inr (Or.inr ⟨Or.inl rfl, la_rcv la_1076⟩))) rfl rfl rfl (Nat.not_lt.mpr (Nat.le_of_ble_eq_true rfl)) (e_up g2 (by decide : 0 ≤ 399)) rfl ?_
  refine gs_icT hk_266 rfl (jc_T0 rfl) ?_
  refine gs_iinc (y := Int32.ofNat (i + 4)) (L2 := [.ref 0, .ref (0 + 1), .ref (1076 + 1), .ref (1133 + 1), .int (Int32.ofNat (i + 4)), u5, u6]) hk_266 rfl rfl (Option.some.inj la_add) rfl rfl ?_
  refine gs_goto hk_266 rfl ?_
  exact hm
set_option maxRecDepth 20000 in
theorem la_c23_n {X : List Int32} {n i : Nat} {h h2 : Hp} {v : Int32} (hi : i + 4 ≤ X.length) (hl : X.length ≤ 2048) (hop : X.getD i 0 &&& 31 = 23) (hC : v_120 h = v) (hM : p_246 (h) = some (v, h2)) (hK : la_at X n (i + 4) h2) : la_at X (n + 1) i h := by
  intro ca cb ce u5 u6
  obtain ⟨e1, g1⟩ := v_120_ok (X := X) (h := h) ca cb ce
  rw [hC] at g1
  obtain ⟨e2, g2⟩ := p_246_ok (X := X) hM ca cb e1
  obtain ⟨m, hm, hc1, hc2⟩ := hK ca cb e2 (u5) (u6)
  refine ⟨m, ?_, by omega, by omega⟩
  show j_Go X (399 + 1) 266 (13, [.ref 0, .ref (0 + 1), .ref (1076 + 1), .ref (1133 + 1), .int (Int32.ofNat i), u5, u6], []) _ _
  refine gs_iload hk_266 rfl rfl rfl ?_
  refine gs_aload hk_266 rfl rfl rfl ?_
  refine gs_alen hk_266 rfl rfl ?_
  refine gs_push (x := 4) hk_266 rfl (by decide) rfl ?_
  refine gs_bin (z := Int32.ofNat X.length - 4) hk_266 rfl rfl rfl ?_
  refine gs_icF hk_266 rfl (la_goF hi hl) rfl ?_
  refine gs_aload hk_266 rfl rfl rfl ?_
  refine gs_iload hk_266 rfl rfl rfl ?_
  refine gs_sald (z := i) (x := X.getD i 0) hk_266 rfl (by omega) hl rfl rfl ?_
  refine gs_push (x := 31) hk_266 rfl (by decide) rfl ?_
  refine gs_bin (z := 23) hk_266 rfl (la_sw hop) rfl ?_
  refine gs_sw (j := 837) hk_266 rfl rfl ?_
  refine gs_aload hk_266 rfl rfl rfl ?_
  refine gs_call (as := [.ref (0 + 1)]) (rest := []) hk_266 rfl (Or.inr (Or.inr (Or.inr ⟨Or.inl rfl, la_rcv wc_0⟩))) rfl rfl rfl (Nat.not_lt.mpr (Nat.le_of_ble_eq_true rfl)) (e_up g1 (by decide : 0 ≤ 399)) rfl ?_
  refine gs_aload hk_266 rfl rfl rfl ?_
  refine gs_call (as := [.ref (1076 + 1)]) (rest := [.int v]) hk_266 rfl (Or.inr (Or.inr (Or.inr ⟨Or.inl rfl, la_rcv la_1076⟩))) rfl rfl rfl (Nat.not_lt.mpr (Nat.le_of_ble_eq_true rfl)) (e_up g2 (by decide : 0 ≤ 399)) rfl ?_
  refine gs_icT hk_266 rfl (jc_T0 rfl) ?_
  refine gs_iinc (y := Int32.ofNat (i + 4)) (L2 := [.ref 0, .ref (0 + 1), .ref (1076 + 1), .ref (1133 + 1), .int (Int32.ofNat (i + 4)), u5, u6]) hk_266 rfl rfl (Option.some.inj la_add) rfl rfl ?_
  refine gs_goto hk_266 rfl ?_
  exact hm
set_option maxRecDepth 20000 in
theorem la_cd {X : List Int32} {n i : Nat} {h : Hp} (hi : i + 4 ≤ X.length) (hl : X.length ≤ 2048) (hop : (if X.getD i 0 &&& 31 < 0 then 844 else ([25, 72, 117, 162, 217, 252, 309, 357, 402, 409, 444, 479, 486, 493, 518, 553, 588, 623, 668, 713, 760, 795, 830, 837]).getD (X.getD i 0 &&& 31).toNatClampNeg 844) = 844) (hK : la_at X n (i + 4) h) : la_at X (n + 1) i h := by
  intro ca cb ce u5 u6
  obtain ⟨m, hm, hc1, hc2⟩ := hK ca cb ce u5 u6
  refine ⟨m, ?_, by omega, by omega⟩
  show j_Go X (399 + 1) 266 (13, [.ref 0, .ref (0 + 1), .ref (1076 + 1), .ref (1133 + 1), .int (Int32.ofNat i), u5, u6], []) _ _
  refine gs_iload hk_266 rfl rfl rfl ?_
  refine gs_aload hk_266 rfl rfl rfl ?_
  refine gs_alen hk_266 rfl rfl ?_
  refine gs_push (x := 4) hk_266 rfl (by decide) rfl ?_
  refine gs_bin (z := Int32.ofNat X.length - 4) hk_266 rfl rfl rfl ?_
  refine gs_icF hk_266 rfl (la_goF hi hl) rfl ?_
  refine gs_aload hk_266 rfl rfl rfl ?_
  refine gs_iload hk_266 rfl rfl rfl ?_
  refine gs_sald (z := i) (x := X.getD i 0) hk_266 rfl (by omega) hl rfl rfl ?_
  refine gs_push (x := 31) hk_266 rfl (by decide) rfl ?_
  refine gs_bin (z := X.getD i 0 &&& 31) hk_266 rfl rfl rfl ?_
  refine gs_sw (j := 844) hk_266 rfl hop ?_
  refine gs_iinc (y := Int32.ofNat (i + 4)) (L2 := [.ref 0, .ref (0 + 1), .ref (1076 + 1), .ref (1133 + 1), .int (Int32.ofNat (i + 4)), u5, u6]) hk_266 rfl rfl (Option.some.inj la_add) rfl rfl ?_
  refine gs_goto hk_266 rfl ?_
  exact hm
set_option maxRecDepth 20000 in
theorem la_end {X : List Int32} {n i : Nat} {h : Hp} (hi : X.length < i + 4) (hi2 : i ≤ X.length) (hl : X.length ≤ 2048) : la_at X n i h := by
  intro ca cb ce u5 u6
  refine ⟨w_mem ca cb ce h, ?_, Nat.le_add_right ca n, Nat.le_add_right cb (6 * n)⟩
  show j_Go X (399 + 1) 266 (13, [.ref 0, .ref (0 + 1), .ref (1076 + 1), .ref (1133 + 1), .int (Int32.ofNat i), u5, u6], []) _ _
  refine gs_iload hk_266 rfl rfl rfl ?_
  refine gs_aload hk_266 rfl rfl rfl ?_
  refine gs_alen hk_266 rfl rfl ?_
  refine gs_push (x := 4) hk_266 rfl (by decide) rfl ?_
  refine gs_bin (z := Int32.ofNat X.length - 4) hk_266 rfl rfl rfl ?_
  refine gs_icT hk_266 rfl (la_goT hi hi2 hl) ?_
  refine gs_push (x := 1) hk_266 rfl (by decide) rfl ?_
  exact gs_iret hk_266 rfl (Or.inr rfl) rfl
