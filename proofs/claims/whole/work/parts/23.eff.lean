/-! ===== the methods without loops that write, throw, or call such (printed by wip/whole/extract2.py) ===== -/
def j_thr (m : jM) : jM := (m.1 + 1, m.2.1 + 6, false, m.2.2.2)
theorem j_fld_putT {m : jM} {q q' t t' b b' : Nat} {u v : Value} (h : j_fld m q t b = some u) (ht : t ≠ t') : j_fld (j_put m q b v) q' t' b' = j_fld m q' t' b' := by
  by_cases hq : q = q'
  · subst hq
    obtain ⟨fs, h1, -⟩ := j_fldE h
    have hl := j_at_lt h1
    simp [j_fld, j_put, h1, j_at_up, hl, ht]
  · simp only [j_fld, j_at_put hq]
theorem j_arr_stoT {m : jM} {q q' t t' i : Nat} {vs : List Value} {v : Value} (h : j_arr m q t = some vs) (ht : t ≠ t') : j_arr (j_sto m q i v) q' t' = j_arr m q' t' := by
  by_cases hq : q = q'
  · subst hq
    have h1 := j_arrE h
    have hl := j_at_lt h1
    simp [j_arr, j_sto, j_put, h1, j_at_up, hl, ht]
  · exact j_arr_put hq
theorem j_evw {X : List Int32} {d k : Nat} {as : List Value} {m : jM} {o o2 : jO} (h : j_Ev X d k as m o) (e : o = o2) : j_Ev X d k as m o2 := e ▸ h
theorem j_b1 {x : Int32} (h : fits .boolean (.int x) = true) : x &&& 1 = x := by
  simp [fits] at h
  rcases h with rfl | rfl <;> rfl
theorem hk_6 : jP[6]? = some (jc_6, 1, [], []) := by rfl
theorem s_X0_forget_6 {X : List Int32} {d : Nat} {m : jM} {r0 : Nat} {v0 : Int32} {v1 : Int32} {v2 : Int32} (h0 : j_fld m r0 0 15 = some (.int v0)) (h1 : j_fld m r0 0 8 = some (.int v1)) (h2 : j_fld m r0 0 9 = some (.int v2)) : j_Ev X (d) 6 [.ref (r0 + 1)] m (.inl none, (j_put (j_put (j_put m r0 15 (.int 0)) r0 8 (.int 0)) r0 9 (.int 0))) := by
  refine e_of hk_6 ?_
  refine gs_aload hk_6 rfl rfl rfl ?_
  refine gs_push (x := 0) hk_6 rfl (by decide) rfl ?_
  refine gs_put hk_6 rfl h0 (by decide) rfl rfl ?_
  refine gs_aload hk_6 rfl rfl rfl ?_
  refine gs_push (x := 0) hk_6 rfl (by decide) rfl ?_
  refine gs_put hk_6 rfl ((j_fld_putN (Or.inr (by decide))).trans h1) rfl rfl rfl ?_
  refine gs_aload hk_6 rfl rfl rfl ?_
  refine gs_push (x := 0) hk_6 rfl (by decide) rfl ?_
  refine gs_put hk_6 rfl ((j_fld_putN (Or.inr (by decide))).trans ((j_fld_putN (Or.inr (by decide))).trans h2)) rfl rfl rfl ?_
  exact gs_ret hk_6 rfl rfl
theorem hk_8 : jP[8]? = some (jc_8, 2, [], []) := by rfl
theorem s_X1_clear_8 {X : List Int32} {d : Nat} {m : jM} {r0 : Nat} {p0 : Int32} {v0 : Int32} {v1 : Int32} {v2 : Int32} {v3 : Int32} {v4 : Int32} (h0 : j_fld m r0 1 3 = some (.int v0)) (h1 : j_fld m r0 1 4 = some (.int v1)) (h2 : j_fld m r0 1 5 = some (.int v2)) (h3 : j_fld m r0 1 6 = some (.int v3)) (h4 : j_fld m r0 1 7 = some (.int v4)) : j_Ev X (d) 8 [.ref (r0 + 1), .int p0] m (.inl none, (j_put (j_put (j_put (j_put (j_put m r0 3 (.int 0)) r0 4 (.int p0)) r0 5 (.int 0)) r0 6 (.int 0)) r0 7 (.int 0))) := by
  refine e_of hk_8 ?_
  refine gs_aload hk_8 rfl rfl rfl ?_
  refine gs_push (x := 0) hk_8 rfl (by decide) rfl ?_
  refine gs_put hk_8 rfl h0 rfl rfl rfl ?_
  refine gs_aload hk_8 rfl rfl rfl ?_
  refine gs_iload hk_8 rfl rfl rfl ?_
  refine gs_put hk_8 rfl ((j_fld_putN (Or.inr (by decide))).trans h1) rfl rfl rfl ?_
  refine gs_aload hk_8 rfl rfl rfl ?_
  refine gs_push (x := 0) hk_8 rfl (by decide) rfl ?_
  refine gs_put hk_8 rfl ((j_fld_putN (Or.inr (by decide))).trans ((j_fld_putN (Or.inr (by decide))).trans h2)) rfl rfl rfl ?_
  refine gs_aload hk_8 rfl rfl rfl ?_
  refine gs_push (x := 0) hk_8 rfl (by decide) rfl ?_
  refine gs_put hk_8 rfl ((j_fld_putN (Or.inr (by decide))).trans ((j_fld_putN (Or.inr (by decide))).trans ((j_fld_putN (Or.inr (by decide))).trans h3))) rfl rfl rfl ?_
  refine gs_aload hk_8 rfl rfl rfl ?_
  refine gs_push (x := 0) hk_8 rfl (by decide) rfl ?_
  refine gs_put hk_8 rfl ((j_fld_putN (Or.inr (by decide))).trans ((j_fld_putN (Or.inr (by decide))).trans ((j_fld_putN (Or.inr (by decide))).trans ((j_fld_putN (Or.inr (by decide))).trans h4)))) rfl rfl rfl ?_
  exact gs_ret hk_8 rfl rfl
theorem hk_10 : jP[10]? = some (jc_10, 4, [], []) := by rfl
theorem s_X1_add_10 {X : List Int32} {d : Nat} {m : jM} {r0 : Nat} {p0 : Int32} {p1 : Int32} {p2 : Int32} {v0 : Int32} {v1 : Nat} {l2 : List Value} {v4 : Nat} {l5 : List Value} {v8 : Nat} {l9 : List Value} (h0 : j_fld m r0 1 3 = some (.int v0)) (h1 : j_fld m r0 1 0 = some (.ref (v1 + 1))) (h2 : j_arr m v1 50 = some l2) (h3 : ¬ (j_cond 3 v0 41 = true) → ¬ (v0 < 0 ∨ l2.length ≤ v0.toNatClampNeg)) (h4 : j_fld m r0 1 1 = some (.ref (v4 + 1))) (h5 : j_arr m v4 50 = some l5) (h6 : v1 ≠ v4) (h7 : ¬ (j_cond 3 v0 41 = true) → ¬ (v0 < 0 ∨ l5.length ≤ v0.toNatClampNeg)) (h8 : j_fld m r0 1 2 = some (.ref (v8 + 1))) (h9 : j_arr m v8 50 = some l9) (h10 : v1 ≠ v8) (h11 : v4 ≠ v8) (h12 : ¬ (j_cond 3 v0 41 = true) → ¬ (v0 < 0 ∨ l9.length ≤ v0.toNatClampNeg)) : j_Ev X (d) 10 [.ref (r0 + 1), .int p0, .int p1, .int p2] m (if j_cond 3 v0 41 = true then (.inl none, m) else (.inl none, (j_put (j_sto (j_sto (j_sto m v1 v0.toNatClampNeg (.int (j_nar 50 p0))) v4 v0.toNatClampNeg (.int (j_nar 50 p1))) v8 v0.toNatClampNeg (.int (j_nar 50 p2))) r0 3 (.int (v0 + 1))))) := by
  refine e_of hk_10 ?_
  refine gs_aload hk_10 rfl rfl rfl ?_
  refine gs_get hk_10 rfl h0 rfl ?_
  refine gs_push (x := 41) hk_10 rfl (by decide) rfl ?_
  by_cases c1 : j_cond 3 v0 41 = true
  · rw [if_pos c1]
    refine gs_icT hk_10 rfl c1 ?_
    exact gs_ret hk_10 rfl rfl
  · rw [if_neg c1]
    refine gs_icF hk_10 rfl (j_bf c1) rfl ?_
    refine gs_aload hk_10 rfl rfl rfl ?_
    refine gs_get hk_10 rfl h1 rfl ?_
    refine gs_aload hk_10 rfl rfl rfl ?_
    refine gs_get hk_10 rfl h0 rfl ?_
    refine gs_iload hk_10 rfl rfl rfl ?_
    refine gs_ast hk_10 rfl h2 (h3 (by assumption)) rfl rfl ?_
    refine gs_aload hk_10 rfl rfl rfl ?_
    refine gs_get hk_10 rfl ((j_fld_sto h2 (by decide)).trans h4) rfl ?_
    refine gs_aload hk_10 rfl rfl rfl ?_
    refine gs_get hk_10 rfl ((j_fld_sto h2 (by decide)).trans h0) rfl ?_
    refine gs_iload hk_10 rfl rfl rfl ?_
    refine gs_ast hk_10 rfl ((j_arr_stoN h6).trans h5) (h7 (by assumption)) rfl rfl ?_
    refine gs_aload hk_10 rfl rfl rfl ?_
    refine gs_get hk_10 rfl ((j_fld_sto ((j_arr_stoN h6).trans h5) (by decide)).trans ((j_fld_sto h2 (by decide)).trans h8)) rfl ?_
    refine gs_aload hk_10 rfl rfl rfl ?_
    refine gs_get hk_10 rfl ((j_fld_sto ((j_arr_stoN h6).trans h5) (by decide)).trans ((j_fld_sto h2 (by decide)).trans h0)) rfl ?_
    refine gs_iload hk_10 rfl rfl rfl ?_
    refine gs_ast hk_10 rfl ((j_arr_stoN h11).trans ((j_arr_stoN h10).trans h9)) (h12 (by assumption)) rfl rfl ?_
    refine gs_aload hk_10 rfl rfl rfl ?_
    refine gs_dup hk_10 rfl rfl rfl ?_
    refine gs_get hk_10 rfl ((j_fld_sto ((j_arr_stoN h11).trans ((j_arr_stoN h10).trans h9)) (by decide)).trans ((j_fld_sto ((j_arr_stoN h6).trans h5) (by decide)).trans ((j_fld_sto h2 (by decide)).trans h0))) rfl ?_
    refine gs_push (x := 1) hk_10 rfl (by decide) rfl ?_
    refine gs_bin (z := (v0 + 1)) hk_10 rfl rfl rfl ?_
    refine gs_put hk_10 rfl ((j_fld_sto ((j_arr_stoN h11).trans ((j_arr_stoN h10).trans h9)) (by decide)).trans ((j_fld_sto ((j_arr_stoN h6).trans h5) (by decide)).trans ((j_fld_sto h2 (by decide)).trans h0))) rfl rfl rfl ?_
    exact gs_ret hk_10 rfl rfl
theorem hk_36 : jP[36]? = some (jc_36, 2, [], []) := by rfl
theorem s_X5_skip_36 {X : List Int32} {d : Nat} {m : jM} {r0 : Nat} {p0 : Int32} {v0 : Nat} {v1 : Int32} {v2 : Int32} {v3 : Nat} {l4 : List Value} (h0 : j_fld m r0 5 0 = some (.ref (v0 + 1))) (h1 : j_fld m r0 5 2 = some (.int v1)) (h2 : j_fld m v0 7 1 = some (.int v2)) (h3 : j_fld m v0 7 0 = some (.ref (v3 + 1))) (h4 : j_arr m v3 51 = some l4) (h5 : ¬ (j_cond 2 v1 0 = true) → ¬ (j_cond 3 v1 v2 = true) → ¬ (v1 < 0 ∨ l4.length ≤ v1.toNatClampNeg)) : j_Ev X (d + 1) 36 [.ref (r0 + 1), .int p0] m (if j_cond 0 (if j_cond 2 v1 0 = true then (-1) else (if j_cond 3 v1 v2 = true then (-1) else (j_iv (l4.getD v1.toNatClampNeg .null)))) p0 = true then (.inl (some (.int 1)), (j_put m r0 2 (.int (v1 + 1)))) else (.inl (some (.int 0)), m)) := by
  refine e_of hk_36 ?_
  refine gs_aload hk_36 rfl rfl rfl ?_
  refine gs_get hk_36 rfl h0 rfl ?_
  refine gs_aload hk_36 rfl rfl rfl ?_
  refine gs_get hk_36 rfl h1 rfl ?_
  refine gs_call (as := [.ref (v0 + 1), .int v1]) (rest := []) hk_36 rfl (Or.inr (Or.inr (Or.inr ⟨Or.inl rfl, j_recv_of h2⟩))) rfl rfl rfl (Nat.not_lt.mpr (Nat.le_of_ble_eq_true rfl)) (s_X7_at_58 h2 h3 h4 h5) rfl ?_
  refine gs_iload hk_36 rfl rfl rfl ?_
  by_cases c1 : j_cond 0 (if j_cond 2 v1 0 = true then (-1) else (if j_cond 3 v1 v2 = true then (-1) else (j_iv (l4.getD v1.toNatClampNeg .null)))) p0 = true
  · rw [if_pos c1]
    refine gs_icT hk_36 rfl c1 ?_
    refine gs_aload hk_36 rfl rfl rfl ?_
    refine gs_dup hk_36 rfl rfl rfl ?_
    refine gs_get hk_36 rfl h1 rfl ?_
    refine gs_push (x := 1) hk_36 rfl (by decide) rfl ?_
    refine gs_bin (z := (v1 + 1)) hk_36 rfl rfl rfl ?_
    refine gs_put hk_36 rfl h1 rfl rfl rfl ?_
    refine gs_push (x := 1) hk_36 rfl (by decide) rfl ?_
    exact gs_iret hk_36 rfl (Or.inr (by decide)) rfl
  · rw [if_neg c1]
    refine gs_icF hk_36 rfl (j_bf c1) rfl ?_
    refine gs_push (x := 0) hk_36 rfl (by decide) rfl ?_
    exact gs_iret hk_36 rfl (Or.inr (by decide)) rfl
theorem hk_37 : jP[37]? = some (jc_37, 2, [], []) := by rfl
theorem s_X5_readName_37 {X : List Int32} {d : Nat} {m : jM} {r0 : Nat} {v0 : Nat} {v1 : Int32} {v2 : Int32} {v3 : Nat} {l4 : List Value} (h0 : j_fld m r0 5 0 = some (.ref (v0 + 1))) (h1 : j_fld m r0 5 2 = some (.int v1)) (h2 : j_fld m v0 7 1 = some (.int v2)) (h3 : j_fld m v0 7 0 = some (.ref (v3 + 1))) (h4 : j_arr m v3 51 = some l4) (h5 : ¬ (j_cond 2 v1 0 = true) → ¬ (j_cond 3 v1 v2 = true) → ¬ (v1 < 0 ∨ l4.length ≤ v1.toNatClampNeg)) : j_Ev X (d + 1) 37 [.ref (r0 + 1)] m (if j_cond 1 (if j_cond 2 (if j_cond 2 v1 0 = true then (-1) else (if j_cond 3 v1 v2 = true then (-1) else (j_iv (l4.getD v1.toNatClampNeg .null)))) 97 = true then 0 else (if j_cond 4 (if j_cond 2 v1 0 = true then (-1) else (if j_cond 3 v1 v2 = true then (-1) else (j_iv (l4.getD v1.toNatClampNeg .null)))) 122 = true then 0 else 1)) 0 = true then (.inl (some (.int ((if j_cond 2 v1 0 = true then (-1) else (if j_cond 3 v1 v2 = true then (-1) else (j_iv (l4.getD v1.toNatClampNeg .null)))) - 97))), (j_put m r0 2 (.int (v1 + 1)))) else (.inl (some (.int (-1))), m)) := by
  refine e_of hk_37 ?_
  refine gs_aload hk_37 rfl rfl rfl ?_
  refine gs_get hk_37 rfl h0 rfl ?_
  refine gs_aload hk_37 rfl rfl rfl ?_
  refine gs_get hk_37 rfl h1 rfl ?_
  refine gs_call (as := [.ref (v0 + 1), .int v1]) (rest := []) hk_37 rfl (Or.inr (Or.inr (Or.inr ⟨Or.inl rfl, j_recv_of h2⟩))) rfl rfl rfl (Nat.not_lt.mpr (Nat.le_of_ble_eq_true rfl)) (s_X7_at_58 h2 h3 h4 h5) rfl ?_
  refine gs_istore hk_37 rfl (Nat.le_of_ble_eq_true rfl) rfl rfl ?_
  refine gs_iload hk_37 rfl rfl rfl ?_
  refine gs_call (as := [.int (if j_cond 2 v1 0 = true then (-1) else (if j_cond 3 v1 v2 = true then (-1) else (j_iv (l4.getD v1.toNatClampNeg .null))))]) (rest := []) hk_37 rfl (Or.inr (Or.inl rfl)) rfl rfl rfl (Nat.not_lt.mpr (Nat.le_of_ble_eq_true rfl)) (s_N_isName_123) rfl ?_
  by_cases c1 : j_cond 1 (if j_cond 2 (if j_cond 2 v1 0 = true then (-1) else (if j_cond 3 v1 v2 = true then (-1) else (j_iv (l4.getD v1.toNatClampNeg .null)))) 97 = true then 0 else (if j_cond 4 (if j_cond 2 v1 0 = true then (-1) else (if j_cond 3 v1 v2 = true then (-1) else (j_iv (l4.getD v1.toNatClampNeg .null)))) 122 = true then 0 else 1)) 0 = true
  · rw [if_pos c1]
    refine gs_ifT hk_37 rfl c1 ?_
    refine gs_aload hk_37 rfl rfl rfl ?_
    refine gs_dup hk_37 rfl rfl rfl ?_
    refine gs_get hk_37 rfl h1 rfl ?_
    refine gs_push (x := 1) hk_37 rfl (by decide) rfl ?_
    refine gs_bin (z := (v1 + 1)) hk_37 rfl rfl rfl ?_
    refine gs_put hk_37 rfl h1 rfl rfl rfl ?_
    refine gs_iload hk_37 rfl rfl rfl ?_
    refine gs_push (x := 97) hk_37 rfl (by decide) rfl ?_
    refine gs_bin (z := ((if j_cond 2 v1 0 = true then (-1) else (if j_cond 3 v1 v2 = true then (-1) else (j_iv (l4.getD v1.toNatClampNeg .null)))) - 97)) hk_37 rfl rfl rfl ?_
    exact gs_iret hk_37 rfl (Or.inl rfl) rfl
  · rw [if_neg c1]
    refine gs_ifF hk_37 rfl (j_bf c1) rfl ?_
    refine gs_push (x := (-1)) hk_37 rfl (by decide) rfl ?_
    exact gs_iret hk_37 rfl (Or.inl rfl) rfl
theorem hk_41 : jP[41]? = some (jc_41, 2, [], []) := by rfl
theorem s_X5_noteChange_41 {X : List Int32} {d : Nat} {m : jM} {r0 : Nat} {p0 : Int32} {v0 : Nat} {v1 : Int32} {v2 : Int32} {v3 : Int32} (h0 : j_fld m r0 5 1 = some (.ref (v0 + 1))) (h1 : j_fld m v0 1 5 = some (.int v1)) (h2 : j_fld m v0 1 6 = some (.int v2)) (h3 : j_fld m v0 1 7 = some (.int v3)) : j_Ev X (d + 1) 41 [.ref (r0 + 1), .int p0] m (if j_cond 1 (if j_cond 2 p0 0 = true then 0 else (if j_cond 0 ((v1 >>> (p0 &&& 31)) &&& 1) 0 = true then 0 else 1)) 0 = true then (.inl none, m) else (.inl none, (j_put (j_put m v0 6 (.int (v2 ||| (1 <<< (p0 &&& 31))))) v0 7 (.int (v3 ||| (1 <<< (p0 &&& 31))))))) := by
  refine e_of hk_41 ?_
  refine gs_aload hk_41 rfl rfl rfl ?_
  refine gs_get hk_41 rfl h0 rfl ?_
  refine gs_get hk_41 rfl h1 rfl ?_
  refine gs_iload hk_41 rfl rfl rfl ?_
  refine gs_call (as := [.int v1, .int p0]) (rest := []) hk_41 rfl (Or.inr (Or.inl rfl)) rfl rfl rfl (Nat.not_lt.mpr (Nat.le_of_ble_eq_true rfl)) (s_N_has_126) rfl ?_
  by_cases c1 : j_cond 1 (if j_cond 2 p0 0 = true then 0 else (if j_cond 0 ((v1 >>> (p0 &&& 31)) &&& 1) 0 = true then 0 else 1)) 0 = true
  · rw [if_pos c1]
    refine gs_ifT hk_41 rfl c1 ?_
    exact gs_ret hk_41 rfl rfl
  · rw [if_neg c1]
    refine gs_ifF hk_41 rfl (j_bf c1) rfl ?_
    refine gs_aload hk_41 rfl rfl rfl ?_
    refine gs_get hk_41 rfl h0 rfl ?_
    refine gs_dup hk_41 rfl rfl rfl ?_
    refine gs_get hk_41 rfl h2 rfl ?_
    refine gs_push (x := 1) hk_41 rfl (by decide) rfl ?_
    refine gs_iload hk_41 rfl rfl rfl ?_
    refine gs_bin (z := (1 <<< (p0 &&& 31))) hk_41 rfl rfl rfl ?_
    refine gs_bin (z := (v2 ||| (1 <<< (p0 &&& 31)))) hk_41 rfl rfl rfl ?_
    refine gs_put hk_41 rfl h2 rfl rfl rfl ?_
    refine gs_aload hk_41 rfl rfl rfl ?_
    refine gs_get hk_41 rfl ((j_fld_putT h2 (by decide)).trans h0) rfl ?_
    refine gs_dup hk_41 rfl rfl rfl ?_
    refine gs_get hk_41 rfl ((j_fld_putN (Or.inr (by decide))).trans h3) rfl ?_
    refine gs_push (x := 1) hk_41 rfl (by decide) rfl ?_
    refine gs_iload hk_41 rfl rfl rfl ?_
    refine gs_bin (z := (1 <<< (p0 &&& 31))) hk_41 rfl rfl rfl ?_
    refine gs_bin (z := (v3 ||| (1 <<< (p0 &&& 31)))) hk_41 rfl rfl rfl ?_
    refine gs_put hk_41 rfl ((j_fld_putN (Or.inr (by decide))).trans h3) rfl rfl rfl ?_
    exact gs_ret hk_41 rfl rfl
theorem hk_56 : jP[56]? = some (jc_56, 2, [], []) := by rfl
theorem s_X7_add_56 {X : List Int32} {d : Nat} {m : jM} {r0 : Nat} {p0 : Int32} {v0 : Int32} {v1 : Nat} {l2 : List Value} (h0 : j_fld m r0 7 1 = some (.int v0)) (h1 : j_fld m r0 7 0 = some (.ref (v1 + 1))) (h2 : j_arr m v1 51 = some l2) (h3 : j_cond 2 v0 40 = true → ¬ (v0 < 0 ∨ l2.length ≤ v0.toNatClampNeg)) : j_Ev X (d) 56 [.ref (r0 + 1), .int p0] m (if j_cond 2 v0 40 = true then (.inl (some (.int 1)), (j_put (j_sto m v1 v0.toNatClampNeg (.int (j_nar 51 p0))) r0 1 (.int (v0 + 1)))) else (.inl (some (.int 0)), m)) := by
  refine e_of hk_56 ?_
  refine gs_aload hk_56 rfl rfl rfl ?_
  refine gs_get hk_56 rfl h0 rfl ?_
  refine gs_push (x := 40) hk_56 rfl (by decide) rfl ?_
  by_cases c1 : j_cond 2 v0 40 = true
  · rw [if_pos c1]
    refine gs_icT hk_56 rfl c1 ?_
    refine gs_aload hk_56 rfl rfl rfl ?_
    refine gs_get hk_56 rfl h1 rfl ?_
    refine gs_aload hk_56 rfl rfl rfl ?_
    refine gs_get hk_56 rfl h0 rfl ?_
    refine gs_iload hk_56 rfl rfl rfl ?_
    refine gs_ast hk_56 rfl h2 (h3 (by assumption)) rfl rfl ?_
    refine gs_aload hk_56 rfl rfl rfl ?_
    refine gs_dup hk_56 rfl rfl rfl ?_
    refine gs_get hk_56 rfl ((j_fld_sto h2 (by decide)).trans h0) rfl ?_
    refine gs_push (x := 1) hk_56 rfl (by decide) rfl ?_
    refine gs_bin (z := (v0 + 1)) hk_56 rfl rfl rfl ?_
    refine gs_put hk_56 rfl ((j_fld_sto h2 (by decide)).trans h0) rfl rfl rfl ?_
    refine gs_push (x := 1) hk_56 rfl (by decide) rfl ?_
    exact gs_iret hk_56 rfl (Or.inr (by decide)) rfl
  · rw [if_neg c1]
    refine gs_icF hk_56 rfl (j_bf c1) rfl ?_
    refine gs_push (x := 0) hk_56 rfl (by decide) rfl ?_
    exact gs_iret hk_56 rfl (Or.inr (by decide)) rfl
theorem hk_57 : jP[57]? = some (jc_57, 1, [], []) := by rfl
theorem s_X7_clear_57 {X : List Int32} {d : Nat} {m : jM} {r0 : Nat} {v0 : Int32} (h0 : j_fld m r0 7 1 = some (.int v0)) : j_Ev X (d) 57 [.ref (r0 + 1)] m (.inl none, (j_put m r0 1 (.int 0))) := by
  refine e_of hk_57 ?_
  refine gs_aload hk_57 rfl rfl rfl ?_
  refine gs_push (x := 0) hk_57 rfl (by decide) rfl ?_
  refine gs_put hk_57 rfl h0 rfl rfl rfl ?_
  exact gs_ret hk_57 rfl rfl
theorem hk_68 : jP[68]? = some (jc_68, 3, [], []) := by rfl
theorem s_X8_putNumber_68 {X : List Int32} {d : Nat} {m : jM} {r0 : Nat} {p0 : Int32} {p1 : Int32} {v0 : Nat} {l1 : List Value} {v3 : Nat} {l4 : List Value} (h0 : j_fld m r0 8 0 = some (.ref (v0 + 1))) (h1 : j_arr m v0 50 = some l1) (h2 : ¬ (j_cond 2 p0 0 = true) → ¬ (j_cond 3 p0 27 = true) → ¬ (p0 < 0 ∨ l1.length ≤ p0.toNatClampNeg)) (h3 : j_fld m r0 8 1 = some (.ref (v3 + 1))) (h4 : j_arr m v3 50 = some l4) (h5 : v0 ≠ v3) (h6 : ¬ (j_cond 2 p0 0 = true) → ¬ (j_cond 3 p0 27 = true) → ¬ ((p0 * 8) < 0 ∨ l4.length ≤ (p0 * 8).toNatClampNeg)) : j_Ev X (d) 68 [.ref (r0 + 1), .int p0, .int p1] m (if j_cond 2 p0 0 = true then (.inl none, m) else (if j_cond 3 p0 27 = true then (.inl none, m) else (.inl none, (j_sto (j_sto m v0 p0.toNatClampNeg (.int (j_nar 50 1))) v3 (p0 * 8).toNatClampNeg (.int (j_nar 50 p1)))))) := by
  refine e_of hk_68 ?_
  refine gs_iload hk_68 rfl rfl rfl ?_
  by_cases c1 : j_cond 2 p0 0 = true
  · rw [if_pos c1]
    refine gs_ifT hk_68 rfl c1 ?_
    exact gs_ret hk_68 rfl rfl
  · rw [if_neg c1]
    refine gs_ifF hk_68 rfl (j_bf c1) rfl ?_
    refine gs_iload hk_68 rfl rfl rfl ?_
    refine gs_push (x := 27) hk_68 rfl (by decide) rfl ?_
    by_cases c2 : j_cond 3 p0 27 = true
    · rw [if_pos c2]
      refine gs_icT hk_68 rfl c2 ?_
      exact gs_ret hk_68 rfl rfl
    · rw [if_neg c2]
      refine gs_icF hk_68 rfl (j_bf c2) rfl ?_
      refine gs_aload hk_68 rfl rfl rfl ?_
      refine gs_get hk_68 rfl h0 rfl ?_
      refine gs_iload hk_68 rfl rfl rfl ?_
      refine gs_push (x := 1) hk_68 rfl (by decide) rfl ?_
      refine gs_ast hk_68 rfl h1 (h2 (by assumption) (by assumption)) rfl rfl ?_
      refine gs_aload hk_68 rfl rfl rfl ?_
      refine gs_get hk_68 rfl ((j_fld_sto h1 (by decide)).trans h3) rfl ?_
      refine gs_iload hk_68 rfl rfl rfl ?_
      refine gs_push (x := 8) hk_68 rfl (by decide) rfl ?_
      refine gs_bin (z := (p0 * 8)) hk_68 rfl rfl rfl ?_
      refine gs_iload hk_68 rfl rfl rfl ?_
      refine gs_ast hk_68 rfl ((j_arr_stoN h5).trans h4) (h6 (by assumption) (by assumption)) rfl rfl ?_
      exact gs_ret hk_68 rfl rfl
theorem hk_69 : jP[69]? = some (jc_69, 2, [], []) := by rfl
theorem s_X8_putRow_69 {X : List Int32} {d : Nat} {m : jM} {r0 : Nat} {p0 : Int32} {v0 : Nat} {l1 : List Value} (h0 : j_fld m r0 8 0 = some (.ref (v0 + 1))) (h1 : j_arr m v0 50 = some l1) (h2 : ¬ (j_cond 2 p0 0 = true) → ¬ (j_cond 3 p0 27 = true) → ¬ (p0 < 0 ∨ l1.length ≤ p0.toNatClampNeg)) : j_Ev X (d) 69 [.ref (r0 + 1), .int p0] m (if j_cond 2 p0 0 = true then (.inl none, m) else (if j_cond 3 p0 27 = true then (.inl none, m) else (.inl none, (j_sto m v0 p0.toNatClampNeg (.int (j_nar 50 2)))))) := by
  refine e_of hk_69 ?_
  refine gs_iload hk_69 rfl rfl rfl ?_
  by_cases c1 : j_cond 2 p0 0 = true
  · rw [if_pos c1]
    refine gs_ifT hk_69 rfl c1 ?_
    exact gs_ret hk_69 rfl rfl
  · rw [if_neg c1]
    refine gs_ifF hk_69 rfl (j_bf c1) rfl ?_
    refine gs_iload hk_69 rfl rfl rfl ?_
    refine gs_push (x := 27) hk_69 rfl (by decide) rfl ?_
    by_cases c2 : j_cond 3 p0 27 = true
    · rw [if_pos c2]
      refine gs_icT hk_69 rfl c2 ?_
      exact gs_ret hk_69 rfl rfl
    · rw [if_neg c2]
      refine gs_icF hk_69 rfl (j_bf c2) rfl ?_
      refine gs_aload hk_69 rfl rfl rfl ?_
      refine gs_get hk_69 rfl h0 rfl ?_
      refine gs_iload hk_69 rfl rfl rfl ?_
      refine gs_push (x := 2) hk_69 rfl (by decide) rfl ?_
      refine gs_ast hk_69 rfl h1 (h2 (by assumption) (by assumption)) rfl rfl ?_
      exact gs_ret hk_69 rfl rfl
theorem hk_70 : jP[70]? = some (jc_70, 4, [], []) := by rfl
theorem s_X8_addItem_70 {X : List Int32} {d : Nat} {m : jM} {r0 : Nat} {p0 : Int32} {p1 : Int32} {v0 : Nat} {l1 : List Value} {v3 : Nat} {l4 : List Value} (h0 : j_fld m r0 8 1 = some (.ref (v0 + 1))) (h1 : j_arr m v0 50 = some l1) (h2 : j_cond 2 p0 0 = true → ¬ (j_cond 2 (-1) 0 = true) → ¬ (j_cond 3 (-1) 8 = true) → ¬ (((p0 * 8) + (-1)) < 0 ∨ l1.length ≤ ((p0 * 8) + (-1)).toNatClampNeg)) (h3 : j_fld m r0 8 0 = some (.ref (v3 + 1))) (h4 : j_arr m v3 50 = some l4) (h5 : v0 ≠ v3) (h6 : j_cond 2 p0 0 = true → ¬ (j_cond 2 (-1) 0 = true) → ¬ (j_cond 3 (-1) 8 = true) → ¬ (p0 < 0 ∨ l4.length ≤ p0.toNatClampNeg)) (h7 : ¬ (j_cond 2 p0 0 = true) → j_cond 3 p0 27 = true → ¬ (j_cond 2 (-1) 0 = true) → ¬ (j_cond 3 (-1) 8 = true) → ¬ (((p0 * 8) + (-1)) < 0 ∨ l1.length ≤ ((p0 * 8) + (-1)).toNatClampNeg)) (h8 : ¬ (j_cond 2 p0 0 = true) → j_cond 3 p0 27 = true → ¬ (j_cond 2 (-1) 0 = true) → ¬ (j_cond 3 (-1) 8 = true) → ¬ (p0 < 0 ∨ l4.length ≤ p0.toNatClampNeg)) (h9 : ¬ (j_cond 2 p0 0 = true) → ¬ (j_cond 3 p0 27 = true) → ¬ (p0 < 0 ∨ l4.length ≤ p0.toNatClampNeg)) (h10 : ¬ (j_cond 2 p0 0 = true) → ¬ (j_cond 3 p0 27 = true) → ¬ (j_cond 2 ((j_iv (l4.getD p0.toNatClampNeg .null)) - 2) 0 = true) → ¬ (j_cond 3 ((j_iv (l4.getD p0.toNatClampNeg .null)) - 2) 8 = true) → ¬ (((p0 * 8) + ((j_iv (l4.getD p0.toNatClampNeg .null)) - 2)) < 0 ∨ l1.length ≤ ((p0 * 8) + ((j_iv (l4.getD p0.toNatClampNeg .null)) - 2)).toNatClampNeg)) (h11 : ¬ (j_cond 2 p0 0 = true) → ¬ (j_cond 3 p0 27 = true) → ¬ (j_cond 2 ((j_iv (l4.getD p0.toNatClampNeg .null)) - 2) 0 = true) → ¬ (j_cond 3 ((j_iv (l4.getD p0.toNatClampNeg .null)) - 2) 8 = true) → ¬ (p0 < 0 ∨ l4.length ≤ p0.toNatClampNeg)) : j_Ev X (d) 70 [.ref (r0 + 1), .int p0, .int p1] m (if j_cond 2 p0 0 = true then (if j_cond 2 (-1) 0 = true then (.inl none, m) else (if j_cond 3 (-1) 8 = true then (.inl none, m) else (.inl none, (j_sto (j_sto m v0 ((p0 * 8) + (-1)).toNatClampNeg (.int (j_nar 50 p1))) v3 p0.toNatClampNeg (.int (j_nar 50 ((j_iv (l4.getD p0.toNatClampNeg .null)) + 1))))))) else (if j_cond 3 p0 27 = true then (if j_cond 2 (-1) 0 = true then (.inl none, m) else (if j_cond 3 (-1) 8 = true then (.inl none, m) else (.inl none, (j_sto (j_sto m v0 ((p0 * 8) + (-1)).toNatClampNeg (.int (j_nar 50 p1))) v3 p0.toNatClampNeg (.int (j_nar 50 ((j_iv (l4.getD p0.toNatClampNeg .null)) + 1))))))) else (if j_cond 2 ((j_iv (l4.getD p0.toNatClampNeg .null)) - 2) 0 = true then (.inl none, m) else (if j_cond 3 ((j_iv (l4.getD p0.toNatClampNeg .null)) - 2) 8 = true then (.inl none, m) else (.inl none, (j_sto (j_sto m v0 ((p0 * 8) + ((j_iv (l4.getD p0.toNatClampNeg .null)) - 2)).toNatClampNeg (.int (j_nar 50 p1))) v3 p0.toNatClampNeg (.int (j_nar 50 ((j_iv (l4.getD p0.toNatClampNeg .null)) + 1))))))))) := by
  refine e_of hk_70 ?_
  refine gs_iload hk_70 rfl rfl rfl ?_
  by_cases c1 : j_cond 2 p0 0 = true
  · rw [if_pos c1]
    refine gs_ifT hk_70 rfl c1 ?_
    refine gs_push (x := (-1)) hk_70 rfl (by decide) rfl ?_
    refine gs_istore hk_70 rfl (Nat.le_of_ble_eq_true rfl) rfl rfl ?_
    refine gs_iload hk_70 rfl rfl rfl ?_
    by_cases c2 : j_cond 2 (-1) 0 = true
    · rw [if_pos c2]
      refine gs_ifT hk_70 rfl c2 ?_
      exact gs_ret hk_70 rfl rfl
    · rw [if_neg c2]
      refine gs_ifF hk_70 rfl (j_bf c2) rfl ?_
      refine gs_iload hk_70 rfl rfl rfl ?_
      refine gs_push (x := 8) hk_70 rfl (by decide) rfl ?_
      by_cases c3 : j_cond 3 (-1) 8 = true
      · rw [if_pos c3]
        refine gs_icT hk_70 rfl c3 ?_
        exact gs_ret hk_70 rfl rfl
      · rw [if_neg c3]
        refine gs_icF hk_70 rfl (j_bf c3) rfl ?_
        refine gs_aload hk_70 rfl rfl rfl ?_
        refine gs_get hk_70 rfl h0 rfl ?_
        refine gs_iload hk_70 rfl rfl rfl ?_
        refine gs_push (x := 8) hk_70 rfl (by decide) rfl ?_
        refine gs_bin (z := (p0 * 8)) hk_70 rfl rfl rfl ?_
        refine gs_iload hk_70 rfl rfl rfl ?_
        refine gs_bin (z := ((p0 * 8) + (-1))) hk_70 rfl rfl rfl ?_
        refine gs_iload hk_70 rfl rfl rfl ?_
        refine gs_ast hk_70 rfl h1 (h2 (by assumption) (by assumption) (by assumption)) rfl rfl ?_
        refine gs_aload hk_70 rfl rfl rfl ?_
        refine gs_get hk_70 rfl ((j_fld_sto h1 (by decide)).trans h3) rfl ?_
        refine gs_iload hk_70 rfl rfl rfl ?_
        refine gs_dup2 hk_70 rfl ⟨rfl, rfl⟩ rfl ?_
        refine gs_ald hk_70 rfl ((j_arr_stoN h5).trans h4) (h6 (by assumption) (by assumption) (by assumption)) rfl rfl ?_
        refine gs_push (x := 1) hk_70 rfl (by decide) rfl ?_
        refine gs_bin (z := ((j_iv (l4.getD p0.toNatClampNeg .null)) + 1)) hk_70 rfl rfl rfl ?_
        refine gs_ast hk_70 rfl ((j_arr_stoN h5).trans h4) (h6 (by assumption) (by assumption) (by assumption)) rfl rfl ?_
        exact gs_ret hk_70 rfl rfl
  · rw [if_neg c1]
    refine gs_ifF hk_70 rfl (j_bf c1) rfl ?_
    refine gs_iload hk_70 rfl rfl rfl ?_
    refine gs_push (x := 27) hk_70 rfl (by decide) rfl ?_
    by_cases c4 : j_cond 3 p0 27 = true
    · rw [if_pos c4]
      refine gs_icT hk_70 rfl c4 ?_
      refine gs_push (x := (-1)) hk_70 rfl (by decide) rfl ?_
      refine gs_istore hk_70 rfl (Nat.le_of_ble_eq_true rfl) rfl rfl ?_
      refine gs_iload hk_70 rfl rfl rfl ?_
      by_cases c5 : j_cond 2 (-1) 0 = true
      · rw [if_pos c5]
        refine gs_ifT hk_70 rfl c5 ?_
        exact gs_ret hk_70 rfl rfl
      · rw [if_neg c5]
        refine gs_ifF hk_70 rfl (j_bf c5) rfl ?_
        refine gs_iload hk_70 rfl rfl rfl ?_
        refine gs_push (x := 8) hk_70 rfl (by decide) rfl ?_
        by_cases c6 : j_cond 3 (-1) 8 = true
        · rw [if_pos c6]
          refine gs_icT hk_70 rfl c6 ?_
          exact gs_ret hk_70 rfl rfl
        · rw [if_neg c6]
          refine gs_icF hk_70 rfl (j_bf c6) rfl ?_
          refine gs_aload hk_70 rfl rfl rfl ?_
          refine gs_get hk_70 rfl h0 rfl ?_
          refine gs_iload hk_70 rfl rfl rfl ?_
          refine gs_push (x := 8) hk_70 rfl (by decide) rfl ?_
          refine gs_bin (z := (p0 * 8)) hk_70 rfl rfl rfl ?_
          refine gs_iload hk_70 rfl rfl rfl ?_
          refine gs_bin (z := ((p0 * 8) + (-1))) hk_70 rfl rfl rfl ?_
          refine gs_iload hk_70 rfl rfl rfl ?_
          refine gs_ast hk_70 rfl h1 (h7 (by assumption) (by assumption) (by assumption) (by assumption)) rfl rfl ?_
          refine gs_aload hk_70 rfl rfl rfl ?_
          refine gs_get hk_70 rfl ((j_fld_sto h1 (by decide)).trans h3) rfl ?_
          refine gs_iload hk_70 rfl rfl rfl ?_
          refine gs_dup2 hk_70 rfl ⟨rfl, rfl⟩ rfl ?_
          refine gs_ald hk_70 rfl ((j_arr_stoN h5).trans h4) (h8 (by assumption) (by assumption) (by assumption) (by assumption)) rfl rfl ?_
          refine gs_push (x := 1) hk_70 rfl (by decide) rfl ?_
          refine gs_bin (z := ((j_iv (l4.getD p0.toNatClampNeg .null)) + 1)) hk_70 rfl rfl rfl ?_
          refine gs_ast hk_70 rfl ((j_arr_stoN h5).trans h4) (h8 (by assumption) (by assumption) (by assumption) (by assumption)) rfl rfl ?_
          exact gs_ret hk_70 rfl rfl
    · rw [if_neg c4]
      refine gs_icF hk_70 rfl (j_bf c4) rfl ?_
      refine gs_aload hk_70 rfl rfl rfl ?_
      refine gs_get hk_70 rfl h3 rfl ?_
      refine gs_iload hk_70 rfl rfl rfl ?_
      refine gs_ald hk_70 rfl h4 (h9 (by assumption) (by assumption)) rfl rfl ?_
      refine gs_push (x := 2) hk_70 rfl (by decide) rfl ?_
      refine gs_bin (z := ((j_iv (l4.getD p0.toNatClampNeg .null)) - 2)) hk_70 rfl rfl rfl ?_
      refine gs_goto hk_70 rfl ?_
      refine gs_istore hk_70 rfl (Nat.le_of_ble_eq_true rfl) rfl rfl ?_
      refine gs_iload hk_70 rfl rfl rfl ?_
      by_cases c7 : j_cond 2 ((j_iv (l4.getD p0.toNatClampNeg .null)) - 2) 0 = true
      · rw [if_pos c7]
        refine gs_ifT hk_70 rfl c7 ?_
        exact gs_ret hk_70 rfl rfl
      · rw [if_neg c7]
        refine gs_ifF hk_70 rfl (j_bf c7) rfl ?_
        refine gs_iload hk_70 rfl rfl rfl ?_
        refine gs_push (x := 8) hk_70 rfl (by decide) rfl ?_
        by_cases c8 : j_cond 3 ((j_iv (l4.getD p0.toNatClampNeg .null)) - 2) 8 = true
        · rw [if_pos c8]
          refine gs_icT hk_70 rfl c8 ?_
          exact gs_ret hk_70 rfl rfl
        · rw [if_neg c8]
          refine gs_icF hk_70 rfl (j_bf c8) rfl ?_
          refine gs_aload hk_70 rfl rfl rfl ?_
          refine gs_get hk_70 rfl h0 rfl ?_
          refine gs_iload hk_70 rfl rfl rfl ?_
          refine gs_push (x := 8) hk_70 rfl (by decide) rfl ?_
          refine gs_bin (z := (p0 * 8)) hk_70 rfl rfl rfl ?_
          refine gs_iload hk_70 rfl rfl rfl ?_
          refine gs_bin (z := ((p0 * 8) + ((j_iv (l4.getD p0.toNatClampNeg .null)) - 2))) hk_70 rfl rfl rfl ?_
          refine gs_iload hk_70 rfl rfl rfl ?_
          refine gs_ast hk_70 rfl h1 (h10 (by assumption) (by assumption) (by assumption) (by assumption)) rfl rfl ?_
          refine gs_aload hk_70 rfl rfl rfl ?_
          refine gs_get hk_70 rfl ((j_fld_sto h1 (by decide)).trans h3) rfl ?_
          refine gs_iload hk_70 rfl rfl rfl ?_
          refine gs_dup2 hk_70 rfl ⟨rfl, rfl⟩ rfl ?_
          refine gs_ald hk_70 rfl ((j_arr_stoN h5).trans h4) (h11 (by assumption) (by assumption) (by assumption) (by assumption)) rfl rfl ?_
          refine gs_push (x := 1) hk_70 rfl (by decide) rfl ?_
          refine gs_bin (z := ((j_iv (l4.getD p0.toNatClampNeg .null)) + 1)) hk_70 rfl rfl rfl ?_
          refine gs_ast hk_70 rfl ((j_arr_stoN h5).trans h4) (h11 (by assumption) (by assumption) (by assumption) (by assumption)) rfl rfl ?_
          exact gs_ret hk_70 rfl rfl
theorem hk_90 : jP[90]? = some (jc_90, 3, [], []) := by rfl
theorem s_X10_tie_90 {X : List Int32} {d : Nat} {m : jM} {r0 : Nat} {p0 : Int32} {p1 : Int32} {v0 : Int32} {v1 : Nat} {l2 : List Value} (h0 : j_fld m r0 10 7 = some (.int v0)) (h1 : j_fld m r0 10 5 = some (.ref (v1 + 1))) (h2 : j_arr m v1 50 = some l2) (h3 : ¬ (j_cond 0 (if j_cond 2 p0 0 = true then 0 else (if j_cond 3 p0 v0 = true then 0 else 1)) 0 = true) → j_cond 1 (if j_cond 2 p1 0 = true then 0 else (if j_cond 3 p1 v0 = true then 0 else 1)) 0 = true → ¬ (p0 < 0 ∨ l2.length ≤ p0.toNatClampNeg)) (h4 : ¬ (j_cond 0 (if j_cond 2 p0 0 = true then 0 else (if j_cond 3 p0 v0 = true then 0 else 1)) 0 = true) → j_cond 1 (if j_cond 2 p1 0 = true then 0 else (if j_cond 3 p1 v0 = true then 0 else 1)) 0 = true → ¬ (p1 < 0 ∨ l2.length ≤ p1.toNatClampNeg)) : j_Ev X (d + 1) 90 [.ref (r0 + 1), .int p0, .int p1] m (if j_cond 0 (if j_cond 2 p0 0 = true then 0 else (if j_cond 3 p0 v0 = true then 0 else 1)) 0 = true then (.inl (some (.int 0)), m) else (if j_cond 1 (if j_cond 2 p1 0 = true then 0 else (if j_cond 3 p1 v0 = true then 0 else 1)) 0 = true then (.inl (some (.int (if j_cond 2 p1 0 = true then 0 else (if j_cond 0 (((j_iv (((l2.set p0.toNatClampNeg (.int (j_nar 50 ((j_iv (l2.getD p0.toNatClampNeg .null)) ^^^ (1 <<< (p1 &&& 31)))))).set p1.toNatClampNeg (.int (j_nar 50 ((j_iv ((l2.set p0.toNatClampNeg (.int (j_nar 50 ((j_iv (l2.getD p0.toNatClampNeg .null)) ^^^ (1 <<< (p1 &&& 31)))))).getD p1.toNatClampNeg .null)) ^^^ (1 <<< (p0 &&& 31)))))).getD p0.toNatClampNeg .null)) >>> (p1 &&& 31)) &&& 1) 0 = true then 0 else 1)))), (j_sto (j_sto m v1 p0.toNatClampNeg (.int (j_nar 50 ((j_iv (l2.getD p0.toNatClampNeg .null)) ^^^ (1 <<< (p1 &&& 31)))))) v1 p1.toNatClampNeg (.int (j_nar 50 ((j_iv ((l2.set p0.toNatClampNeg (.int (j_nar 50 ((j_iv (l2.getD p0.toNatClampNeg .null)) ^^^ (1 <<< (p1 &&& 31)))))).getD p1.toNatClampNeg .null)) ^^^ (1 <<< (p0 &&& 31))))))) else (.inl (some (.int 0)), m))) := by
  refine e_of hk_90 ?_
  refine gs_aload hk_90 rfl rfl rfl ?_
  refine gs_iload hk_90 rfl rfl rfl ?_
  refine gs_call (as := [.ref (r0 + 1), .int p0]) (rest := []) hk_90 rfl (Or.inr (Or.inr (Or.inr ⟨Or.inl rfl, j_recv_of h0⟩))) rfl rfl rfl (Nat.not_lt.mpr (Nat.le_of_ble_eq_true rfl)) (s_X10_exists_88 h0) rfl ?_
  by_cases c1 : j_cond 0 (if j_cond 2 p0 0 = true then 0 else (if j_cond 3 p0 v0 = true then 0 else 1)) 0 = true
  · rw [if_pos c1]
    refine gs_ifT hk_90 rfl c1 ?_
    refine gs_push (x := 0) hk_90 rfl (by decide) rfl ?_
    exact gs_iret hk_90 rfl (Or.inr (by decide)) rfl
  · rw [if_neg c1]
    refine gs_ifF hk_90 rfl (j_bf c1) rfl ?_
    refine gs_aload hk_90 rfl rfl rfl ?_
    refine gs_iload hk_90 rfl rfl rfl ?_
    refine gs_call (as := [.ref (r0 + 1), .int p1]) (rest := []) hk_90 rfl (Or.inr (Or.inr (Or.inr ⟨Or.inl rfl, j_recv_of h0⟩))) rfl rfl rfl (Nat.not_lt.mpr (Nat.le_of_ble_eq_true rfl)) (s_X10_exists_88 h0) rfl ?_
    by_cases c2 : j_cond 1 (if j_cond 2 p1 0 = true then 0 else (if j_cond 3 p1 v0 = true then 0 else 1)) 0 = true
    · rw [if_pos c2]
      refine gs_ifT hk_90 rfl c2 ?_
      refine gs_aload hk_90 rfl rfl rfl ?_
      refine gs_get hk_90 rfl h1 rfl ?_
      refine gs_iload hk_90 rfl rfl rfl ?_
      refine gs_dup2 hk_90 rfl ⟨rfl, rfl⟩ rfl ?_
      refine gs_ald hk_90 rfl h2 (h3 (by assumption) (by assumption)) rfl rfl ?_
      refine gs_push (x := 1) hk_90 rfl (by decide) rfl ?_
      refine gs_iload hk_90 rfl rfl rfl ?_
      refine gs_bin (z := (1 <<< (p1 &&& 31))) hk_90 rfl rfl rfl ?_
      refine gs_bin (z := ((j_iv (l2.getD p0.toNatClampNeg .null)) ^^^ (1 <<< (p1 &&& 31)))) hk_90 rfl rfl rfl ?_
      refine gs_ast hk_90 rfl h2 (h3 (by assumption) (by assumption)) rfl rfl ?_
      refine gs_aload hk_90 rfl rfl rfl ?_
      refine gs_get hk_90 rfl ((j_fld_sto h2 (by decide)).trans h1) rfl ?_
      refine gs_iload hk_90 rfl rfl rfl ?_
      refine gs_dup2 hk_90 rfl ⟨rfl, rfl⟩ rfl ?_
      refine gs_ald hk_90 rfl (j_arr_sto h2) (by simp only [List.length_set]; exact (h4 (by assumption) (by assumption))) rfl rfl ?_
      refine gs_push (x := 1) hk_90 rfl (by decide) rfl ?_
      refine gs_iload hk_90 rfl rfl rfl ?_
      refine gs_bin (z := (1 <<< (p0 &&& 31))) hk_90 rfl rfl rfl ?_
      refine gs_bin (z := ((j_iv ((l2.set p0.toNatClampNeg (.int (j_nar 50 ((j_iv (l2.getD p0.toNatClampNeg .null)) ^^^ (1 <<< (p1 &&& 31)))))).getD p1.toNatClampNeg .null)) ^^^ (1 <<< (p0 &&& 31)))) hk_90 rfl rfl rfl ?_
      refine gs_ast hk_90 rfl (j_arr_sto h2) (by simp only [List.length_set]; exact (h4 (by assumption) (by assumption))) rfl rfl ?_
      refine gs_aload hk_90 rfl rfl rfl ?_
      refine gs_get hk_90 rfl ((j_fld_sto (j_arr_sto h2) (by decide)).trans ((j_fld_sto h2 (by decide)).trans h1)) rfl ?_
      refine gs_iload hk_90 rfl rfl rfl ?_
      refine gs_ald hk_90 rfl (j_arr_sto (j_arr_sto h2)) (by simp only [List.length_set]; exact (h3 (by assumption) (by assumption))) rfl rfl ?_
      refine gs_iload hk_90 rfl rfl rfl ?_
      refine gs_call (as := [.int (j_iv (((l2.set p0.toNatClampNeg (.int (j_nar 50 ((j_iv (l2.getD p0.toNatClampNeg .null)) ^^^ (1 <<< (p1 &&& 31)))))).set p1.toNatClampNeg (.int (j_nar 50 ((j_iv ((l2.set p0.toNatClampNeg (.int (j_nar 50 ((j_iv (l2.getD p0.toNatClampNeg .null)) ^^^ (1 <<< (p1 &&& 31)))))).getD p1.toNatClampNeg .null)) ^^^ (1 <<< (p0 &&& 31)))))).getD p0.toNatClampNeg .null)), .int p1]) (rest := []) hk_90 rfl (Or.inr (Or.inl rfl)) rfl rfl rfl (Nat.not_lt.mpr (Nat.le_of_ble_eq_true rfl)) (s_N_has_126) rfl ?_
      exact gs_iret hk_90 rfl (Or.inr (by (repeat' split) <;> decide)) rfl
    · rw [if_neg c2]
      refine gs_ifF hk_90 rfl (j_bf c2) rfl ?_
      refine gs_push (x := 0) hk_90 rfl (by decide) rfl ?_
      exact gs_iret hk_90 rfl (Or.inr (by decide)) rfl
theorem hk_92 : jP[92]? = some (jc_92, 3, [], []) := by rfl
theorem s_X10_set_92 {X : List Int32} {d : Nat} {m : jM} {r0 : Nat} {p0 : Int32} {p1 : Int32} {v0 : Int32} {v1 : Nat} {l2 : List Value} {v4 : Int32} (h0 : j_fld m r0 10 7 = some (.int v0)) (h1 : j_fld m r0 10 4 = some (.ref (v1 + 1))) (h2 : j_arr m v1 50 = some l2) (h3 : ¬ (j_cond 0 (if j_cond 2 p0 0 = true then 0 else (if j_cond 3 p0 v0 = true then 0 else 1)) 0 = true) → ¬ (p0 < 0 ∨ l2.length ≤ p0.toNatClampNeg)) (h4 : j_fld m r0 10 6 = some (.int v4)) : j_Ev X (d + 1) 92 [.ref (r0 + 1), .int p0, .int p1] m (if j_cond 0 (if j_cond 2 p0 0 = true then 0 else (if j_cond 3 p0 v0 = true then 0 else 1)) 0 = true then (.inl none, m) else (.inl none, (j_put (j_sto m v1 p0.toNatClampNeg (.int (j_nar 50 p1))) r0 6 (.int (v4 ||| (1 <<< (p0 &&& 31))))))) := by
  refine e_of hk_92 ?_
  refine gs_aload hk_92 rfl rfl rfl ?_
  refine gs_iload hk_92 rfl rfl rfl ?_
  refine gs_call (as := [.ref (r0 + 1), .int p0]) (rest := []) hk_92 rfl (Or.inr (Or.inr (Or.inr ⟨Or.inl rfl, j_recv_of h0⟩))) rfl rfl rfl (Nat.not_lt.mpr (Nat.le_of_ble_eq_true rfl)) (s_X10_exists_88 h0) rfl ?_
  by_cases c1 : j_cond 0 (if j_cond 2 p0 0 = true then 0 else (if j_cond 3 p0 v0 = true then 0 else 1)) 0 = true
  · rw [if_pos c1]
    refine gs_ifT hk_92 rfl c1 ?_
    exact gs_ret hk_92 rfl rfl
  · rw [if_neg c1]
    refine gs_ifF hk_92 rfl (j_bf c1) rfl ?_
    refine gs_aload hk_92 rfl rfl rfl ?_
    refine gs_get hk_92 rfl h1 rfl ?_
    refine gs_iload hk_92 rfl rfl rfl ?_
    refine gs_iload hk_92 rfl rfl rfl ?_
    refine gs_ast hk_92 rfl h2 (h3 (by assumption)) rfl rfl ?_
    refine gs_aload hk_92 rfl rfl rfl ?_
    refine gs_dup hk_92 rfl rfl rfl ?_
    refine gs_get hk_92 rfl ((j_fld_sto h2 (by decide)).trans h4) rfl ?_
    refine gs_push (x := 1) hk_92 rfl (by decide) rfl ?_
    refine gs_iload hk_92 rfl rfl rfl ?_
    refine gs_bin (z := (1 <<< (p0 &&& 31))) hk_92 rfl rfl rfl ?_
    refine gs_bin (z := (v4 ||| (1 <<< (p0 &&& 31)))) hk_92 rfl rfl rfl ?_
    refine gs_put hk_92 rfl ((j_fld_sto h2 (by decide)).trans h4) rfl rfl rfl ?_
    exact gs_ret hk_92 rfl rfl
theorem hk_97 : jP[97]? = some (jc_97, 3, [], []) := by rfl
theorem s_N_type_97 {X : List Int32} {d : Nat} {m : jM} {r0 : Nat} {p0 : Int32} {p1 : Int32} {v0 : Nat} {l1 : List Value} {v3 : Nat} {v4 : Int32} {v5 : Nat} {l6 : List Value} {v9 : Nat} {v10 : Int32} {v13 : Nat} {v14 : Int32} (h0 : j_fld m r0 11 0 = some (.ref (v0 + 1))) (h1 : j_arr m v0 60 = some l1) (h2 : j_cond 1 (if j_cond 2 p0 0 = true then 0 else (if j_cond 3 p0 2 = true then 0 else 1)) 0 = true → ¬ (p0 < 0 ∨ l1.length ≤ p0.toNatClampNeg)) (h3 : j_cond 1 (if j_cond 2 p0 0 = true then 0 else (if j_cond 3 p0 2 = true then 0 else 1)) 0 = true → l1.getD p0.toNatClampNeg (.int 0) = .ref (v3 + 1)) (h4 : j_fld m v3 7 1 = some (.int v4)) (h5 : j_fld m v3 7 0 = some (.ref (v5 + 1))) (h6 : j_arr m v5 51 = some l6) (h7 : j_cond 1 (if j_cond 2 p0 0 = true then 0 else (if j_cond 3 p0 2 = true then 0 else 1)) 0 = true → j_cond 2 v4 40 = true → ¬ (v4 < 0 ∨ l6.length ≤ v4.toNatClampNeg)) (h8 : j_cond 1 (if j_cond 2 p0 0 = true then 0 else (if j_cond 3 p0 2 = true then 0 else 1)) 0 = true → j_cond 2 v4 40 = true → j_cond 1 1 0 = true → ¬ (p0 < 0 ∨ l1.length ≤ p0.toNatClampNeg)) (h9 : j_cond 1 (if j_cond 2 p0 0 = true then 0 else (if j_cond 3 p0 2 = true then 0 else 1)) 0 = true → j_cond 2 v4 40 = true → j_cond 1 1 0 = true → l1.getD p0.toNatClampNeg (.int 0) = .ref (v9 + 1)) (h10 : j_fld m v9 7 1 = some (.int v10)) (h11 : v3 ≠ v9) (h12 : j_cond 1 (if j_cond 2 p0 0 = true then 0 else (if j_cond 3 p0 2 = true then 0 else 1)) 0 = true → ¬ (j_cond 2 v4 40 = true) → j_cond 1 0 0 = true → ¬ (p0 < 0 ∨ l1.length ≤ p0.toNatClampNeg)) (h13 : j_cond 1 (if j_cond 2 p0 0 = true then 0 else (if j_cond 3 p0 2 = true then 0 else 1)) 0 = true → ¬ (j_cond 2 v4 40 = true) → j_cond 1 0 0 = true → l1.getD p0.toNatClampNeg (.int 0) = .ref (v13 + 1)) (h14 : j_fld m v13 7 1 = some (.int v14)) : j_Ev X (d + 1) 97 [.ref (r0 + 1), .int p0, .int p1] m (if j_cond 1 (if j_cond 2 p0 0 = true then 0 else (if j_cond 3 p0 2 = true then 0 else 1)) 0 = true then (if j_cond 2 v4 40 = true then (if j_cond 1 1 0 = true then (.inl (some (.int v10)), (j_put (j_sto m v5 v4.toNatClampNeg (.int (j_nar 51 p1))) v3 1 (.int (v4 + 1)))) else (.inr 1, j_thr (j_put (j_sto m v5 v4.toNatClampNeg (.int (j_nar 51 p1))) v3 1 (.int (v4 + 1))))) else (if j_cond 1 0 0 = true then (.inl (some (.int v14)), m) else (.inr 1, j_thr m))) else (.inr 0, j_thr m)) := by
  refine e_of hk_97 ?_
  refine gs_iload hk_97 rfl rfl rfl ?_
  refine gs_call (as := [.int p0]) (rest := []) hk_97 rfl (Or.inl rfl) rfl rfl rfl (Nat.not_lt.mpr (Nat.le_of_ble_eq_true rfl)) (s_N_isHand_121) rfl ?_
  by_cases c1 : j_cond 1 (if j_cond 2 p0 0 = true then 0 else (if j_cond 3 p0 2 = true then 0 else 1)) 0 = true
  · rw [if_pos c1]
    refine gs_ifT hk_97 rfl c1 ?_
    refine gs_aload hk_97 rfl rfl rfl ?_
    refine gs_get hk_97 rfl h0 rfl ?_
    refine gs_iload hk_97 rfl rfl rfl ?_
    refine gs_aald hk_97 rfl h1 (h2 (by assumption)) (h3 (by assumption)) rfl ?_
    refine gs_iload hk_97 rfl rfl rfl ?_
    by_cases c2 : j_cond 2 v4 40 = true
    · rw [if_pos c2]
      refine gs_call (as := [.ref (v3 + 1), .int p1]) (rest := []) hk_97 rfl (Or.inr (Or.inr (Or.inr ⟨Or.inl rfl, j_recv_of h4⟩))) rfl rfl rfl (Nat.not_lt.mpr (Nat.le_of_ble_eq_true rfl)) (j_evw (s_X7_add_56 h4 h5 h6 (h7 (by assumption))) ((if_pos c2).trans (rfl))) rfl ?_
      by_cases c3 : j_cond 1 1 0 = true
      · rw [if_pos c3]
        refine gs_ifT hk_97 rfl c3 ?_
        refine gs_aload hk_97 rfl rfl rfl ?_
        refine gs_get hk_97 rfl ((j_fld_putT ((j_fld_sto h6 (by decide)).trans h4) (by decide)).trans ((j_fld_sto h6 (by decide)).trans h0)) rfl ?_
        refine gs_iload hk_97 rfl rfl rfl ?_
        refine gs_aald hk_97 rfl ((j_arr_put13 ((j_fld_sto h6 (by decide)).trans h4) (by decide)).trans ((j_arr_stoT h6 (by decide)).trans h1)) (h8 (by assumption) (by assumption) (by assumption)) (h9 (by assumption) (by assumption) (by assumption)) rfl ?_
        refine gs_get hk_97 rfl ((j_fld_putN (Or.inl h11)).trans ((j_fld_sto h6 (by decide)).trans h10)) rfl ?_
        exact gs_iret hk_97 rfl (Or.inl rfl) rfl
      · rw [if_neg c3]
        refine gs_ifF hk_97 rfl (j_bf c3) rfl ?_
        exact gs_throw hk_97 rfl (Nat.not_lt.mpr (Nat.le_of_ble_eq_true rfl)) rfl
    · rw [if_neg c2]
      refine gs_call (as := [.ref (v3 + 1), .int p1]) (rest := []) hk_97 rfl (Or.inr (Or.inr (Or.inr ⟨Or.inl rfl, j_recv_of h4⟩))) rfl rfl rfl (Nat.not_lt.mpr (Nat.le_of_ble_eq_true rfl)) (j_evw (s_X7_add_56 h4 h5 h6 (h7 (by assumption))) ((if_neg c2).trans (rfl))) rfl ?_
      by_cases c4 : j_cond 1 0 0 = true
      · rw [if_pos c4]
        refine gs_ifT hk_97 rfl c4 ?_
        refine gs_aload hk_97 rfl rfl rfl ?_
        refine gs_get hk_97 rfl h0 rfl ?_
        refine gs_iload hk_97 rfl rfl rfl ?_
        refine gs_aald hk_97 rfl h1 (h12 (by assumption) (by assumption) (by assumption)) (h13 (by assumption) (by assumption) (by assumption)) rfl ?_
        refine gs_get hk_97 rfl h14 rfl ?_
        exact gs_iret hk_97 rfl (Or.inl rfl) rfl
      · rw [if_neg c4]
        refine gs_ifF hk_97 rfl (j_bf c4) rfl ?_
        exact gs_throw hk_97 rfl (Nat.not_lt.mpr (Nat.le_of_ble_eq_true rfl)) rfl
  · rw [if_neg c1]
    refine gs_ifF hk_97 rfl (j_bf c1) rfl ?_
    exact gs_throw hk_97 rfl (Nat.not_lt.mpr (Nat.le_of_ble_eq_true rfl)) rfl
theorem hk_103 : jP[103]? = some (jc_103, 3, [], []) := by rfl
theorem s_N_bind_103 {X : List Int32} {d : Nat} {m : jM} {r0 : Nat} {p0 : Int32} {p1 : Int32} {v0 : Nat} {v1 : Int32} {v2 : Nat} {l3 : List Value} (h0 : j_fld m r0 11 3 = some (.ref (v0 + 1))) (h1 : j_fld m v0 10 7 = some (.int v1)) (h2 : j_fld m v0 10 5 = some (.ref (v2 + 1))) (h3 : j_arr m v2 50 = some l3) (h4 : ¬ (j_cond 0 (if j_cond 2 p0 0 = true then 0 else (if j_cond 3 p0 v1 = true then 0 else 1)) 0 = true) → j_cond 1 (if j_cond 2 p1 0 = true then 0 else (if j_cond 3 p1 v1 = true then 0 else 1)) 0 = true → j_cond 1 p0 p1 = true → ¬ (j_cond 0 (if j_cond 2 p0 0 = true then 0 else (if j_cond 3 p0 v1 = true then 0 else 1)) 0 = true) → j_cond 1 (if j_cond 2 p1 0 = true then 0 else (if j_cond 3 p1 v1 = true then 0 else 1)) 0 = true → ¬ (p0 < 0 ∨ l3.length ≤ p0.toNatClampNeg)) (h5 : ¬ (j_cond 0 (if j_cond 2 p0 0 = true then 0 else (if j_cond 3 p0 v1 = true then 0 else 1)) 0 = true) → j_cond 1 (if j_cond 2 p1 0 = true then 0 else (if j_cond 3 p1 v1 = true then 0 else 1)) 0 = true → j_cond 1 p0 p1 = true → ¬ (j_cond 0 (if j_cond 2 p0 0 = true then 0 else (if j_cond 3 p0 v1 = true then 0 else 1)) 0 = true) → j_cond 1 (if j_cond 2 p1 0 = true then 0 else (if j_cond 3 p1 v1 = true then 0 else 1)) 0 = true → ¬ (p1 < 0 ∨ l3.length ≤ p1.toNatClampNeg)) : j_Ev X (d + 2) 103 [.ref (r0 + 1), .int p0, .int p1] m (if j_cond 0 (if j_cond 2 p0 0 = true then 0 else (if j_cond 3 p0 v1 = true then 0 else 1)) 0 = true then (.inr 2, j_thr m) else (if j_cond 1 (if j_cond 2 p1 0 = true then 0 else (if j_cond 3 p1 v1 = true then 0 else 1)) 0 = true then (if j_cond 1 p0 p1 = true then (.inl (some (.int (if j_cond 2 p1 0 = true then 0 else (if j_cond 0 (((j_iv (((l3.set p0.toNatClampNeg (.int (j_nar 50 ((j_iv (l3.getD p0.toNatClampNeg .null)) ^^^ (1 <<< (p1 &&& 31)))))).set p1.toNatClampNeg (.int (j_nar 50 ((j_iv ((l3.set p0.toNatClampNeg (.int (j_nar 50 ((j_iv (l3.getD p0.toNatClampNeg .null)) ^^^ (1 <<< (p1 &&& 31)))))).getD p1.toNatClampNeg .null)) ^^^ (1 <<< (p0 &&& 31)))))).getD p0.toNatClampNeg .null)) >>> (p1 &&& 31)) &&& 1) 0 = true then 0 else 1)))), (j_sto (j_sto m v2 p0.toNatClampNeg (.int (j_nar 50 ((j_iv (l3.getD p0.toNatClampNeg .null)) ^^^ (1 <<< (p1 &&& 31)))))) v2 p1.toNatClampNeg (.int (j_nar 50 ((j_iv ((l3.set p0.toNatClampNeg (.int (j_nar 50 ((j_iv (l3.getD p0.toNatClampNeg .null)) ^^^ (1 <<< (p1 &&& 31)))))).getD p1.toNatClampNeg .null)) ^^^ (1 <<< (p0 &&& 31))))))) else (.inr 0, j_thr m)) else (.inr 2, j_thr m))) := by
  refine e_of hk_103 ?_
  refine gs_aload hk_103 rfl rfl rfl ?_
  refine gs_get hk_103 rfl h0 rfl ?_
  refine gs_iload hk_103 rfl rfl rfl ?_
  refine gs_call (as := [.ref (v0 + 1), .int p0]) (rest := []) hk_103 rfl (Or.inr (Or.inr (Or.inr ⟨Or.inl rfl, j_recv_of h1⟩))) rfl rfl rfl (Nat.not_lt.mpr (Nat.le_of_ble_eq_true rfl)) (s_X10_exists_88 h1) rfl ?_
  by_cases c1 : j_cond 0 (if j_cond 2 p0 0 = true then 0 else (if j_cond 3 p0 v1 = true then 0 else 1)) 0 = true
  · rw [if_pos c1]
    refine gs_ifT hk_103 rfl c1 ?_
    exact gs_throw hk_103 rfl (Nat.not_lt.mpr (Nat.le_of_ble_eq_true rfl)) rfl
  · rw [if_neg c1]
    refine gs_ifF hk_103 rfl (j_bf c1) rfl ?_
    refine gs_aload hk_103 rfl rfl rfl ?_
    refine gs_get hk_103 rfl h0 rfl ?_
    refine gs_iload hk_103 rfl rfl rfl ?_
    refine gs_call (as := [.ref (v0 + 1), .int p1]) (rest := []) hk_103 rfl (Or.inr (Or.inr (Or.inr ⟨Or.inl rfl, j_recv_of h1⟩))) rfl rfl rfl (Nat.not_lt.mpr (Nat.le_of_ble_eq_true rfl)) (s_X10_exists_88 h1) rfl ?_
    by_cases c2 : j_cond 1 (if j_cond 2 p1 0 = true then 0 else (if j_cond 3 p1 v1 = true then 0 else 1)) 0 = true
    · rw [if_pos c2]
      refine gs_ifT hk_103 rfl c2 ?_
      refine gs_iload hk_103 rfl rfl rfl ?_
      refine gs_iload hk_103 rfl rfl rfl ?_
      by_cases c3 : j_cond 1 p0 p1 = true
      · rw [if_pos c3]
        refine gs_icT hk_103 rfl c3 ?_
        refine gs_aload hk_103 rfl rfl rfl ?_
        refine gs_get hk_103 rfl h0 rfl ?_
        refine gs_iload hk_103 rfl rfl rfl ?_
        refine gs_iload hk_103 rfl rfl rfl ?_
        refine gs_call (as := [.ref (v0 + 1), .int p0, .int p1]) (rest := []) hk_103 rfl (Or.inr (Or.inr (Or.inr ⟨Or.inl rfl, j_recv_of h1⟩))) rfl rfl rfl (Nat.not_lt.mpr (Nat.le_of_ble_eq_true rfl)) (j_evw (s_X10_tie_90 h1 h2 h3 (h4 (by assumption) (by assumption) (by assumption)) (h5 (by assumption) (by assumption) (by assumption))) ((if_neg (by assumption : ¬ (j_cond 0 (if j_cond 2 p0 0 = true then 0 else (if j_cond 3 p0 v1 = true then 0 else 1)) 0 = true))).trans ((if_pos (by assumption : j_cond 1 (if j_cond 2 p1 0 = true then 0 else (if j_cond 3 p1 v1 = true then 0 else 1)) 0 = true)).trans (rfl)))) rfl ?_
        exact gs_iret hk_103 rfl (Or.inr (by (repeat' split) <;> decide)) rfl
      · rw [if_neg c3]
        refine gs_icF hk_103 rfl (j_bf c3) rfl ?_
        exact gs_throw hk_103 rfl (Nat.not_lt.mpr (Nat.le_of_ble_eq_true rfl)) rfl
    · rw [if_neg c2]
      refine gs_ifF hk_103 rfl (j_bf c2) rfl ?_
      exact gs_throw hk_103 rfl (Nat.not_lt.mpr (Nat.le_of_ble_eq_true rfl)) rfl
theorem hk_104 : jP[104]? = some (jc_104, 3, [], []) := by rfl
theorem s_N_turn_104 {X : List Int32} {d : Nat} {m : jM} {r0 : Nat} {p0 : Int32} {p1 : Int32} {v0 : Nat} {v1 : Int32} {v2 : Nat} {l3 : List Value} {v5 : Nat} {l6 : List Value} {v8 : Nat} {l9 : List Value} {v11 : Int32} {v12 : Int32} {v13 : Nat} {l14 : List Value} (h0 : j_fld m r0 11 3 = some (.ref (v0 + 1))) (h1 : j_fld m v0 10 7 = some (.int v1)) (h2 : j_fld m v0 10 1 = some (.ref (v2 + 1))) (h3 : j_arr m v2 50 = some l3) (h4 : j_cond 1 (if j_cond 2 p0 0 = true then 0 else (if j_cond 3 p0 v1 = true then 0 else 1)) 0 = true → ¬ (j_cond 0 (if j_cond 2 p0 0 = true then 0 else (if j_cond 3 p0 v1 = true then 0 else 1)) 0 = true) → ¬ (p0 < 0 ∨ l3.length ≤ p0.toNatClampNeg)) (h5 : j_fld m v0 10 2 = some (.ref (v5 + 1))) (h6 : j_arr m v5 50 = some l6) (h7 : j_cond 1 (if j_cond 2 p0 0 = true then 0 else (if j_cond 3 p0 v1 = true then 0 else 1)) 0 = true → ¬ (j_cond 0 (if j_cond 2 p0 0 = true then 0 else (if j_cond 3 p0 v1 = true then 0 else 1)) 0 = true) → ¬ (p0 < 0 ∨ l6.length ≤ p0.toNatClampNeg)) (h8 : j_fld m v0 10 4 = some (.ref (v8 + 1))) (h9 : j_arr m v8 50 = some l9) (h10 : j_cond 1 (if j_cond 2 p0 0 = true then 0 else (if j_cond 3 p0 v1 = true then 0 else 1)) 0 = true → j_cond 0 (if j_cond 0 (if j_cond 2 p0 0 = true then 0 else (if j_cond 3 p0 v1 = true then 0 else 1)) 0 = true then 0 else (if (j_iv (l3.getD p0.toNatClampNeg .null)) < (if p1 < (j_iv (l6.getD p0.toNatClampNeg .null)) then p1 else (j_iv (l6.getD p0.toNatClampNeg .null))) then (if p1 < (j_iv (l6.getD p0.toNatClampNeg .null)) then p1 else (j_iv (l6.getD p0.toNatClampNeg .null))) else (j_iv (l3.getD p0.toNatClampNeg .null)))) p1 = true → ¬ (j_cond 0 (if j_cond 2 p0 0 = true then 0 else (if j_cond 3 p0 v1 = true then 0 else 1)) 0 = true) → ¬ (p0 < 0 ∨ l9.length ≤ p0.toNatClampNeg)) (h11 : j_fld m v0 10 6 = some (.int v11)) (h12 : j_fld m r0 11 17 = some (.int v12)) (h13 : j_fld m v0 10 3 = some (.ref (v13 + 1))) (h14 : j_arr m v13 50 = some l14) (h15 : j_cond 1 (if j_cond 2 p0 0 = true then 0 else (if j_cond 3 p0 v1 = true then 0 else 1)) 0 = true → j_cond 0 (if j_cond 0 (if j_cond 2 p0 0 = true then 0 else (if j_cond 3 p0 v1 = true then 0 else 1)) 0 = true then 0 else (if (j_iv (l3.getD p0.toNatClampNeg .null)) < (if p1 < (j_iv (l6.getD p0.toNatClampNeg .null)) then p1 else (j_iv (l6.getD p0.toNatClampNeg .null))) then (if p1 < (j_iv (l6.getD p0.toNatClampNeg .null)) then p1 else (j_iv (l6.getD p0.toNatClampNeg .null))) else (j_iv (l3.getD p0.toNatClampNeg .null)))) p1 = true → j_cond 0 (if j_cond 2 p0 0 = true then 0 else (if j_cond 3 p0 v1 = true then 0 else 1)) 0 = true → ¬ (p0 < 0 ∨ l14.length ≤ p0.toNatClampNeg)) (h16 : v8 ≠ v13) (h17 : j_cond 1 (if j_cond 2 p0 0 = true then 0 else (if j_cond 3 p0 v1 = true then 0 else 1)) 0 = true → j_cond 0 (if j_cond 0 (if j_cond 2 p0 0 = true then 0 else (if j_cond 3 p0 v1 = true then 0 else 1)) 0 = true then 0 else (if (j_iv (l3.getD p0.toNatClampNeg .null)) < (if p1 < (j_iv (l6.getD p0.toNatClampNeg .null)) then p1 else (j_iv (l6.getD p0.toNatClampNeg .null))) then (if p1 < (j_iv (l6.getD p0.toNatClampNeg .null)) then p1 else (j_iv (l6.getD p0.toNatClampNeg .null))) else (j_iv (l3.getD p0.toNatClampNeg .null)))) p1 = true → ¬ (j_cond 0 (if j_cond 2 p0 0 = true then 0 else (if j_cond 3 p0 v1 = true then 0 else 1)) 0 = true) → ¬ (p0 < 0 ∨ l14.length ≤ p0.toNatClampNeg)) : j_Ev X (d + 2) 104 [.ref (r0 + 1), .int p0, .int p1] m (if j_cond 1 (if j_cond 2 p0 0 = true then 0 else (if j_cond 3 p0 v1 = true then 0 else 1)) 0 = true then (if j_cond 0 (if j_cond 0 (if j_cond 2 p0 0 = true then 0 else (if j_cond 3 p0 v1 = true then 0 else 1)) 0 = true then 0 else (if (j_iv (l3.getD p0.toNatClampNeg .null)) < (if p1 < (j_iv (l6.getD p0.toNatClampNeg .null)) then p1 else (j_iv (l6.getD p0.toNatClampNeg .null))) then (if p1 < (j_iv (l6.getD p0.toNatClampNeg .null)) then p1 else (j_iv (l6.getD p0.toNatClampNeg .null))) else (j_iv (l3.getD p0.toNatClampNeg .null)))) p1 = true then (if j_cond 0 (if j_cond 2 p0 0 = true then 0 else (if j_cond 3 p0 v1 = true then 0 else 1)) 0 = true then (.inl (some (.int (j_iv (l14.getD p0.toNatClampNeg .null)))), (j_put m r0 17 (.int 0))) else (.inl (some (.int (j_iv (l14.getD p0.toNatClampNeg .null)))), (j_put (j_put (j_sto m v8 p0.toNatClampNeg (.int (j_nar 50 p1))) v0 6 (.int (v11 ||| (1 <<< (p0 &&& 31))))) r0 17 (.int 0)))) else (.inr 0, j_thr m)) else (.inr 2, j_thr m)) := by
  refine e_of hk_104 ?_
  refine gs_aload hk_104 rfl rfl rfl ?_
  refine gs_get hk_104 rfl h0 rfl ?_
  refine gs_iload hk_104 rfl rfl rfl ?_
  refine gs_call (as := [.ref (v0 + 1), .int p0]) (rest := []) hk_104 rfl (Or.inr (Or.inr (Or.inr ⟨Or.inl rfl, j_recv_of h1⟩))) rfl rfl rfl (Nat.not_lt.mpr (Nat.le_of_ble_eq_true rfl)) (s_X10_exists_88 h1) rfl ?_
  by_cases c1 : j_cond 1 (if j_cond 2 p0 0 = true then 0 else (if j_cond 3 p0 v1 = true then 0 else 1)) 0 = true
  · rw [if_pos c1]
    refine gs_ifT hk_104 rfl c1 ?_
    refine gs_aload hk_104 rfl rfl rfl ?_
    refine gs_get hk_104 rfl h0 rfl ?_
    refine gs_iload hk_104 rfl rfl rfl ?_
    refine gs_iload hk_104 rfl rfl rfl ?_
    refine gs_call (as := [.ref (v0 + 1), .int p0, .int p1]) (rest := []) hk_104 rfl (Or.inr (Or.inr (Or.inr ⟨Or.inl rfl, j_recv_of h1⟩))) rfl rfl rfl (Nat.not_lt.mpr (Nat.le_of_ble_eq_true rfl)) (s_X10_held_91 h1 h2 h3 (h4 (by assumption)) h5 h6 (h7 (by assumption))) rfl ?_
    refine gs_iload hk_104 rfl rfl rfl ?_
    by_cases c2 : j_cond 0 (if j_cond 0 (if j_cond 2 p0 0 = true then 0 else (if j_cond 3 p0 v1 = true then 0 else 1)) 0 = true then 0 else (if (j_iv (l3.getD p0.toNatClampNeg .null)) < (if p1 < (j_iv (l6.getD p0.toNatClampNeg .null)) then p1 else (j_iv (l6.getD p0.toNatClampNeg .null))) then (if p1 < (j_iv (l6.getD p0.toNatClampNeg .null)) then p1 else (j_iv (l6.getD p0.toNatClampNeg .null))) else (j_iv (l3.getD p0.toNatClampNeg .null)))) p1 = true
    · rw [if_pos c2]
      refine gs_icT hk_104 rfl c2 ?_
      refine gs_aload hk_104 rfl rfl rfl ?_
      refine gs_get hk_104 rfl h0 rfl ?_
      refine gs_iload hk_104 rfl rfl rfl ?_
      refine gs_iload hk_104 rfl rfl rfl ?_
      by_cases c3 : j_cond 0 (if j_cond 2 p0 0 = true then 0 else (if j_cond 3 p0 v1 = true then 0 else 1)) 0 = true
      · rw [if_pos c3]
        refine gs_call (as := [.ref (v0 + 1), .int p0, .int p1]) (rest := []) hk_104 rfl (Or.inr (Or.inr (Or.inr ⟨Or.inl rfl, j_recv_of h1⟩))) rfl rfl rfl (Nat.not_lt.mpr (Nat.le_of_ble_eq_true rfl)) (j_evw (s_X10_set_92 h1 h8 h9 (h10 (by assumption) (by assumption)) h11) ((if_pos c3).trans (rfl))) rfl ?_
        refine gs_aload hk_104 rfl rfl rfl ?_
        refine gs_push (x := 0) hk_104 rfl (by decide) rfl ?_
        refine gs_put hk_104 rfl h12 (by decide) rfl rfl ?_
        refine gs_aload hk_104 rfl rfl rfl ?_
        refine gs_get hk_104 rfl ((j_fld_putN (Or.inr (by decide))).trans h0) rfl ?_
        refine gs_get hk_104 rfl ((j_fld_putT h12 (by decide)).trans h13) rfl ?_
        refine gs_iload hk_104 rfl rfl rfl ?_
        refine gs_ald hk_104 rfl ((j_arr_put13 h12 (by decide)).trans h14) (h15 (by assumption) (by assumption) (by assumption)) rfl rfl ?_
        exact gs_iret hk_104 rfl (Or.inl rfl) rfl
      · rw [if_neg c3]
        refine gs_call (as := [.ref (v0 + 1), .int p0, .int p1]) (rest := []) hk_104 rfl (Or.inr (Or.inr (Or.inr ⟨Or.inl rfl, j_recv_of h1⟩))) rfl rfl rfl (Nat.not_lt.mpr (Nat.le_of_ble_eq_true rfl)) (j_evw (s_X10_set_92 h1 h8 h9 (h10 (by assumption) (by assumption)) h11) ((if_neg c3).trans (rfl))) rfl ?_
        refine gs_aload hk_104 rfl rfl rfl ?_
        refine gs_push (x := 0) hk_104 rfl (by decide) rfl ?_
        refine gs_put hk_104 rfl ((j_fld_putT ((j_fld_sto h9 (by decide)).trans h11) (by decide)).trans ((j_fld_sto h9 (by decide)).trans h12)) (by decide) rfl rfl ?_
        refine gs_aload hk_104 rfl rfl rfl ?_
        refine gs_get hk_104 rfl ((j_fld_putN (Or.inr (by decide))).trans ((j_fld_putT ((j_fld_sto h9 (by decide)).trans h11) (by decide)).trans ((j_fld_sto h9 (by decide)).trans h0))) rfl ?_
        refine gs_get hk_104 rfl ((j_fld_putT ((j_fld_putT ((j_fld_sto h9 (by decide)).trans h11) (by decide)).trans ((j_fld_sto h9 (by decide)).trans h12)) (by decide)).trans ((j_fld_putN (Or.inr (by decide))).trans ((j_fld_sto h9 (by decide)).trans h13))) rfl ?_
        refine gs_iload hk_104 rfl rfl rfl ?_
        refine gs_ald hk_104 rfl ((j_arr_put13 ((j_fld_putT ((j_fld_sto h9 (by decide)).trans h11) (by decide)).trans ((j_fld_sto h9 (by decide)).trans h12)) (by decide)).trans ((j_arr_put13 ((j_fld_sto h9 (by decide)).trans h11) (by decide)).trans ((j_arr_stoN h16).trans h14))) (h17 (by assumption) (by assumption) (by assumption)) rfl rfl ?_
        exact gs_iret hk_104 rfl (Or.inl rfl) rfl
    · rw [if_neg c2]
      refine gs_icF hk_104 rfl (j_bf c2) rfl ?_
      exact gs_throw hk_104 rfl (Nat.not_lt.mpr (Nat.le_of_ble_eq_true rfl)) rfl
  · rw [if_neg c1]
    refine gs_ifF hk_104 rfl (j_bf c1) rfl ?_
    exact gs_throw hk_104 rfl (Nat.not_lt.mpr (Nat.le_of_ble_eq_true rfl)) rfl
theorem hk_106 : jP[106]? = some (jc_106, 2, [], []) := by rfl
theorem s_N_shows_106 {X : List Int32} {d : Nat} {m : jM} {r0 : Nat} {p0 : Int32} {v0 : Nat} {v1 : Int32} {v2 : Nat} {l3 : List Value} (h0 : j_fld m r0 11 3 = some (.ref (v0 + 1))) (h1 : j_fld m v0 10 7 = some (.int v1)) (h2 : j_fld m v0 10 3 = some (.ref (v2 + 1))) (h3 : j_arr m v2 50 = some l3) (h4 : j_cond 1 (if j_cond 2 p0 0 = true then 0 else (if j_cond 3 p0 v1 = true then 0 else 1)) 0 = true → ¬ (p0 < 0 ∨ l3.length ≤ p0.toNatClampNeg)) : j_Ev X (d + 1) 106 [.ref (r0 + 1), .int p0] m (if j_cond 1 (if j_cond 2 p0 0 = true then 0 else (if j_cond 3 p0 v1 = true then 0 else 1)) 0 = true then (.inl (some (.int (j_iv (l3.getD p0.toNatClampNeg .null)))), m) else (.inr 2, j_thr m)) := by
  refine e_of hk_106 ?_
  refine gs_aload hk_106 rfl rfl rfl ?_
  refine gs_get hk_106 rfl h0 rfl ?_
  refine gs_iload hk_106 rfl rfl rfl ?_
  refine gs_call (as := [.ref (v0 + 1), .int p0]) (rest := []) hk_106 rfl (Or.inr (Or.inr (Or.inr ⟨Or.inl rfl, j_recv_of h1⟩))) rfl rfl rfl (Nat.not_lt.mpr (Nat.le_of_ble_eq_true rfl)) (s_X10_exists_88 h1) rfl ?_
  by_cases c1 : j_cond 1 (if j_cond 2 p0 0 = true then 0 else (if j_cond 3 p0 v1 = true then 0 else 1)) 0 = true
  · rw [if_pos c1]
    refine gs_ifT hk_106 rfl c1 ?_
    refine gs_aload hk_106 rfl rfl rfl ?_
    refine gs_get hk_106 rfl h0 rfl ?_
    refine gs_get hk_106 rfl h2 rfl ?_
    refine gs_iload hk_106 rfl rfl rfl ?_
    refine gs_ald hk_106 rfl h3 (h4 (by assumption)) rfl rfl ?_
    exact gs_iret hk_106 rfl (Or.inl rfl) rfl
  · rw [if_neg c1]
    refine gs_ifF hk_106 rfl (j_bf c1) rfl ?_
    exact gs_throw hk_106 rfl (Nat.not_lt.mpr (Nat.le_of_ble_eq_true rfl)) rfl
theorem hk_112 : jP[112]? = some (jc_112, 2, [], []) := by rfl
theorem s_N_needs_112 {X : List Int32} {d : Nat} {m : jM} {r0 : Nat} {p0 : Int32} {v0 : Int32} {v1 : Nat} {v2 : Nat} {l3 : List Value} (h0 : j_fld m r0 11 10 = some (.int v0)) (h1 : j_fld m r0 11 4 = some (.ref (v1 + 1))) (h2 : j_fld m v1 9 2 = some (.ref (v2 + 1))) (h3 : j_arr m v2 50 = some l3) (h4 : j_cond 1 (if j_cond 2 p0 0 = true then 0 else (if j_cond 3 p0 v0 = true then 0 else 1)) 0 = true → ¬ (p0 < 0 ∨ l3.length ≤ p0.toNatClampNeg)) : j_Ev X (d + 1) 112 [.ref (r0 + 1), .int p0] m (if j_cond 1 (if j_cond 2 p0 0 = true then 0 else (if j_cond 3 p0 v0 = true then 0 else 1)) 0 = true then (.inl (some (.int (j_iv (l3.getD p0.toNatClampNeg .null)))), m) else (.inr 2, j_thr m)) := by
  refine e_of hk_112 ?_
  refine gs_aload hk_112 rfl rfl rfl ?_
  refine gs_iload hk_112 rfl rfl rfl ?_
  refine gs_call (as := [.ref (r0 + 1), .int p0]) (rest := []) hk_112 rfl (Or.inr (Or.inr (Or.inr ⟨Or.inl rfl, j_recv_of h0⟩))) rfl rfl rfl (Nat.not_lt.mpr (Nat.le_of_ble_eq_true rfl)) (s_N_isCell_125 h0) rfl ?_
  by_cases c1 : j_cond 1 (if j_cond 2 p0 0 = true then 0 else (if j_cond 3 p0 v0 = true then 0 else 1)) 0 = true
  · rw [if_pos c1]
    refine gs_ifT hk_112 rfl c1 ?_
    refine gs_aload hk_112 rfl rfl rfl ?_
    refine gs_get hk_112 rfl h1 rfl ?_
    refine gs_get hk_112 rfl h2 rfl ?_
    refine gs_iload hk_112 rfl rfl rfl ?_
    refine gs_ald hk_112 rfl h3 (h4 (by assumption)) rfl rfl ?_
    exact gs_iret hk_112 rfl (Or.inl rfl) rfl
  · rw [if_neg c1]
    refine gs_ifF hk_112 rfl (j_bf c1) rfl ?_
    exact gs_throw hk_112 rfl (Nat.not_lt.mpr (Nat.le_of_ble_eq_true rfl)) rfl
theorem hk_118 : jP[118]? = some (jc_118, 2, [], []) := by rfl
theorem s_N_order_118 {X : List Int32} {d : Nat} {m : jM} {r0 : Nat} {p0 : Int32} {v0 : Nat} {v1 : Int32} {v2 : Nat} {l3 : List Value} (h0 : j_fld m r0 11 4 = some (.ref (v0 + 1))) (h1 : j_fld m v0 9 5 = some (.int v1)) (h2 : j_fld m v0 9 4 = some (.ref (v2 + 1))) (h3 : j_arr m v2 50 = some l3) (h4 : j_cond 3 p0 0 = true → ¬ (j_cond 3 p0 v1 = true) → ¬ (p0 < 0 ∨ l3.length ≤ p0.toNatClampNeg)) : j_Ev X (d) 118 [.ref (r0 + 1), .int p0] m (if j_cond 3 p0 0 = true then (if j_cond 3 p0 v1 = true then (.inl (some (.int (-1))), m) else (.inl (some (.int (j_iv (l3.getD p0.toNatClampNeg .null)))), m)) else (.inr 2, j_thr m)) := by
  refine e_of hk_118 ?_
  refine gs_iload hk_118 rfl rfl rfl ?_
  by_cases c1 : j_cond 3 p0 0 = true
  · rw [if_pos c1]
    refine gs_ifT hk_118 rfl c1 ?_
    refine gs_iload hk_118 rfl rfl rfl ?_
    refine gs_aload hk_118 rfl rfl rfl ?_
    refine gs_get hk_118 rfl h0 rfl ?_
    refine gs_get hk_118 rfl h1 rfl ?_
    by_cases c2 : j_cond 3 p0 v1 = true
    · rw [if_pos c2]
      refine gs_icT hk_118 rfl c2 ?_
      refine gs_push (x := (-1)) hk_118 rfl (by decide) rfl ?_
      exact gs_iret hk_118 rfl (Or.inl rfl) rfl
    · rw [if_neg c2]
      refine gs_icF hk_118 rfl (j_bf c2) rfl ?_
      refine gs_aload hk_118 rfl rfl rfl ?_
      refine gs_get hk_118 rfl h0 rfl ?_
      refine gs_get hk_118 rfl h2 rfl ?_
      refine gs_iload hk_118 rfl rfl rfl ?_
      refine gs_ald hk_118 rfl h3 (h4 (by assumption) (by assumption)) rfl rfl ?_
      refine gs_goto hk_118 rfl ?_
      exact gs_iret hk_118 rfl (Or.inl rfl) rfl
  · rw [if_neg c1]
    refine gs_ifF hk_118 rfl (j_bf c1) rfl ?_
    exact gs_throw hk_118 rfl (Nat.not_lt.mpr (Nat.le_of_ble_eq_true rfl)) rfl
theorem hk_146 : jP[146]? = some (jc_146, 4, [], []) := by rfl
theorem s_M_goes_146 {X : List Int32} {d : Nat} {m : jM} {r0 : Nat} {p0 : Int32} {p1 : Int32} {p2 : Int32} {v0 : Int32} (h0 : j_fld m r0 12 79 = some (.int v0)) : j_Ev X (d) 146 [.ref (r0 + 1), .int p0, .int p1, .int p2] m (if j_cond 1 p0 0 = true then (if j_cond 1 p1 0 = true then (if j_cond 1 p2 0 = true then (if j_cond 1 0 0 = true then (.inl (some (.int 0)), (j_put m r0 79 (.int 0))) else (.inl (some (.int 1)), (j_put m r0 79 (.int 0)))) else (if j_cond 1 3 0 = true then (.inl (some (.int 0)), (j_put m r0 79 (.int 3))) else (.inl (some (.int 1)), (j_put m r0 79 (.int 3))))) else (if j_cond 1 2 0 = true then (.inl (some (.int 0)), (j_put m r0 79 (.int 2))) else (.inl (some (.int 1)), (j_put m r0 79 (.int 2))))) else (if j_cond 1 1 0 = true then (.inl (some (.int 0)), (j_put m r0 79 (.int 1))) else (.inl (some (.int 1)), (j_put m r0 79 (.int 1))))) := by
  refine e_of hk_146 ?_
  refine gs_aload hk_146 rfl rfl rfl ?_
  refine gs_iload hk_146 rfl rfl rfl ?_
  by_cases c1 : j_cond 1 p0 0 = true
  · rw [if_pos c1]
    refine gs_ifT hk_146 rfl c1 ?_
    refine gs_iload hk_146 rfl rfl rfl ?_
    by_cases c2 : j_cond 1 p1 0 = true
    · rw [if_pos c2]
      refine gs_ifT hk_146 rfl c2 ?_
      refine gs_iload hk_146 rfl rfl rfl ?_
      by_cases c3 : j_cond 1 p2 0 = true
      · rw [if_pos c3]
        refine gs_ifT hk_146 rfl c3 ?_
        refine gs_push (x := 0) hk_146 rfl (by decide) rfl ?_
        refine gs_put hk_146 rfl h0 rfl rfl rfl ?_
        refine gs_aload hk_146 rfl rfl rfl ?_
        refine gs_get hk_146 rfl (j_fld_put h0) rfl ?_
        by_cases c4 : j_cond 1 0 0 = true
        · rw [if_pos c4]
          refine gs_ifT hk_146 rfl c4 ?_
          refine gs_push (x := 0) hk_146 rfl (by decide) rfl ?_
          exact gs_iret hk_146 rfl (Or.inr (by decide)) rfl
        · rw [if_neg c4]
          refine gs_ifF hk_146 rfl (j_bf c4) rfl ?_
          refine gs_push (x := 1) hk_146 rfl (by decide) rfl ?_
          refine gs_goto hk_146 rfl ?_
          exact gs_iret hk_146 rfl (Or.inr (by decide)) rfl
      · rw [if_neg c3]
        refine gs_ifF hk_146 rfl (j_bf c3) rfl ?_
        refine gs_push (x := 3) hk_146 rfl (by decide) rfl ?_
        refine gs_goto hk_146 rfl ?_
        refine gs_put hk_146 rfl h0 rfl rfl rfl ?_
        refine gs_aload hk_146 rfl rfl rfl ?_
        refine gs_get hk_146 rfl (j_fld_put h0) rfl ?_
        by_cases c5 : j_cond 1 3 0 = true
        · rw [if_pos c5]
          refine gs_ifT hk_146 rfl c5 ?_
          refine gs_push (x := 0) hk_146 rfl (by decide) rfl ?_
          exact gs_iret hk_146 rfl (Or.inr (by decide)) rfl
        · rw [if_neg c5]
          refine gs_ifF hk_146 rfl (j_bf c5) rfl ?_
          refine gs_push (x := 1) hk_146 rfl (by decide) rfl ?_
          refine gs_goto hk_146 rfl ?_
          exact gs_iret hk_146 rfl (Or.inr (by decide)) rfl
    · rw [if_neg c2]
      refine gs_ifF hk_146 rfl (j_bf c2) rfl ?_
      refine gs_push (x := 2) hk_146 rfl (by decide) rfl ?_
      refine gs_goto hk_146 rfl ?_
      refine gs_put hk_146 rfl h0 rfl rfl rfl ?_
      refine gs_aload hk_146 rfl rfl rfl ?_
      refine gs_get hk_146 rfl (j_fld_put h0) rfl ?_
      by_cases c6 : j_cond 1 2 0 = true
      · rw [if_pos c6]
        refine gs_ifT hk_146 rfl c6 ?_
        refine gs_push (x := 0) hk_146 rfl (by decide) rfl ?_
        exact gs_iret hk_146 rfl (Or.inr (by decide)) rfl
      · rw [if_neg c6]
        refine gs_ifF hk_146 rfl (j_bf c6) rfl ?_
        refine gs_push (x := 1) hk_146 rfl (by decide) rfl ?_
        refine gs_goto hk_146 rfl ?_
        exact gs_iret hk_146 rfl (Or.inr (by decide)) rfl
  · rw [if_neg c1]
    refine gs_ifF hk_146 rfl (j_bf c1) rfl ?_
    refine gs_push (x := 1) hk_146 rfl (by decide) rfl ?_
    refine gs_goto hk_146 rfl ?_
    refine gs_put hk_146 rfl h0 rfl rfl rfl ?_
    refine gs_aload hk_146 rfl rfl rfl ?_
    refine gs_get hk_146 rfl (j_fld_put h0) rfl ?_
    by_cases c7 : j_cond 1 1 0 = true
    · rw [if_pos c7]
      refine gs_ifT hk_146 rfl c7 ?_
      refine gs_push (x := 0) hk_146 rfl (by decide) rfl ?_
      exact gs_iret hk_146 rfl (Or.inr (by decide)) rfl
    · rw [if_neg c7]
      refine gs_ifF hk_146 rfl (j_bf c7) rfl ?_
      refine gs_push (x := 1) hk_146 rfl (by decide) rfl ?_
      refine gs_goto hk_146 rfl ?_
      exact gs_iret hk_146 rfl (Or.inr (by decide)) rfl
theorem hk_155 : jP[155]? = some (jc_155, 2, [], []) := by rfl
theorem s_M_isOver_155 {X : List Int32} {d : Nat} {m : jM} {r0 : Nat} {p0 : Int32} {v0 : Int32} (h0 : j_fld m r0 12 67 = some (.int v0)) (h1 : fits .boolean (.int p0) = true) : j_Ev X (d) 155 [.ref (r0 + 1), .int p0] m (if j_cond 0 p0 0 = true then (.inl (some (.int p0)), (j_put m r0 67 (.int (v0 + 0)))) else (.inl (some (.int p0)), (j_put m r0 67 (.int (v0 + 1))))) := by
  refine e_of hk_155 ?_
  refine gs_aload hk_155 rfl rfl rfl ?_
  refine gs_dup hk_155 rfl rfl rfl ?_
  refine gs_get hk_155 rfl h0 rfl ?_
  refine gs_iload hk_155 rfl rfl rfl ?_
  by_cases c1 : j_cond 0 p0 0 = true
  · rw [if_pos c1]
    refine gs_ifT hk_155 rfl c1 ?_
    refine gs_push (x := 0) hk_155 rfl (by decide) rfl ?_
    refine gs_bin (z := (v0 + 0)) hk_155 rfl rfl rfl ?_
    refine gs_put hk_155 rfl h0 rfl rfl rfl ?_
    refine gs_iload hk_155 rfl rfl rfl ?_
    exact gs_iret hk_155 rfl (Or.inr (j_b1 h1)) rfl
  · rw [if_neg c1]
    refine gs_ifF hk_155 rfl (j_bf c1) rfl ?_
    refine gs_push (x := 1) hk_155 rfl (by decide) rfl ?_
    refine gs_goto hk_155 rfl ?_
    refine gs_bin (z := (v0 + 1)) hk_155 rfl rfl rfl ?_
    refine gs_put hk_155 rfl h0 rfl rfl rfl ?_
    refine gs_iload hk_155 rfl rfl rfl ?_
    exact gs_iret hk_155 rfl (Or.inr (j_b1 h1)) rfl
theorem hk_174 : jP[174]? = some (jc_174, 4, [], []) := by rfl
theorem s_M_turn_174 {X : List Int32} {d : Nat} {m : jM} {r0 : Nat} {p0 : Int32} {p1 : Int32} {v0 : Int32} {v1 : Int32} {v2 : Nat} {l3 : List Value} {v5 : Nat} {l6 : List Value} {v8 : Int32} {v9 : Nat} {l10 : List Value} {v22 : Nat} {l23 : List Value} {v25 : Nat} {l26 : List Value} (h0 : j_fld m r0 12 48 = some (.int v0)) (h1 : j_fld m r0 12 79 = some (.int v1)) (h2 : j_fld m r0 12 53 = some (.ref (v2 + 1))) (h3 : j_arr m v2 50 = some l3) (h4 : j_cond 0 (if j_cond 2 p0 0 = true then 0 else (if j_cond 4 p0 (v0 - 1) = true then 0 else 1)) 0 = true → j_cond 1 (if j_cond 2 p0 0 = true then 0 else (if j_cond 4 p0 (v0 - 1) = true then 0 else 1)) 0 = true → j_cond 1 0 0 = true → j_cond 1 1 0 = true → ¬ (p0 < 0 ∨ l3.length ≤ p0.toNatClampNeg)) (h5 : j_fld m r0 12 54 = some (.ref (v5 + 1))) (h6 : j_arr m v5 52 = some l6) (h7 : j_cond 0 (if j_cond 2 p0 0 = true then 0 else (if j_cond 4 p0 (v0 - 1) = true then 0 else 1)) 0 = true → j_cond 1 (if j_cond 2 p0 0 = true then 0 else (if j_cond 4 p0 (v0 - 1) = true then 0 else 1)) 0 = true → j_cond 1 0 0 = true → j_cond 1 1 0 = true → ¬ (p0 < 0 ∨ l6.length ≤ p0.toNatClampNeg)) (h8 : j_fld m r0 12 45 = some (.int v8)) (h9 : j_fld m r0 12 52 = some (.ref (v9 + 1))) (h10 : j_arr m v9 50 = some l10) (h11 : v2 ≠ v9) (h12 : j_cond 0 (if j_cond 2 p0 0 = true then 0 else (if j_cond 4 p0 (v0 - 1) = true then 0 else 1)) 0 = true → j_cond 1 (if j_cond 2 p0 0 = true then 0 else (if j_cond 4 p0 (v0 - 1) = true then 0 else 1)) 0 = true → j_cond 1 0 0 = true → j_cond 1 1 0 = true → ¬ (p0 < 0 ∨ l10.length ≤ p0.toNatClampNeg)) (h13 : j_cond 0 (if j_cond 2 p0 0 = true then 0 else (if j_cond 4 p0 (v0 - 1) = true then 0 else 1)) 0 = true → j_cond 1 (if j_cond 2 p0 0 = true then 0 else (if j_cond 4 p0 (v0 - 1) = true then 0 else 1)) 0 = true → j_cond 1 0 0 = true → ¬ (j_cond 1 1 0 = true) → j_cond 1 3 0 = true → ¬ (p0 < 0 ∨ l3.length ≤ p0.toNatClampNeg)) (h14 : j_cond 0 (if j_cond 2 p0 0 = true then 0 else (if j_cond 4 p0 (v0 - 1) = true then 0 else 1)) 0 = true → j_cond 1 (if j_cond 2 p0 0 = true then 0 else (if j_cond 4 p0 (v0 - 1) = true then 0 else 1)) 0 = true → j_cond 1 0 0 = true → ¬ (j_cond 1 1 0 = true) → j_cond 1 3 0 = true → ¬ (p0 < 0 ∨ l6.length ≤ p0.toNatClampNeg)) (h15 : j_cond 0 (if j_cond 2 p0 0 = true then 0 else (if j_cond 4 p0 (v0 - 1) = true then 0 else 1)) 0 = true → j_cond 1 (if j_cond 2 p0 0 = true then 0 else (if j_cond 4 p0 (v0 - 1) = true then 0 else 1)) 0 = true → j_cond 1 0 0 = true → ¬ (j_cond 1 1 0 = true) → j_cond 1 3 0 = true → ¬ (p0 < 0 ∨ l10.length ≤ p0.toNatClampNeg)) (h16 : j_cond 0 (if j_cond 2 p0 0 = true then 0 else (if j_cond 4 p0 (v0 - 1) = true then 0 else 1)) 0 = true → j_cond 1 (if j_cond 2 p0 0 = true then 0 else (if j_cond 4 p0 (v0 - 1) = true then 0 else 1)) 0 = true → ¬ (j_cond 1 0 0 = true) → ¬ (j_cond 1 2 0 = true) → j_cond 1 1 0 = true → ¬ (p0 < 0 ∨ l3.length ≤ p0.toNatClampNeg)) (h17 : j_cond 0 (if j_cond 2 p0 0 = true then 0 else (if j_cond 4 p0 (v0 - 1) = true then 0 else 1)) 0 = true → j_cond 1 (if j_cond 2 p0 0 = true then 0 else (if j_cond 4 p0 (v0 - 1) = true then 0 else 1)) 0 = true → ¬ (j_cond 1 0 0 = true) → ¬ (j_cond 1 2 0 = true) → j_cond 1 1 0 = true → ¬ (p0 < 0 ∨ l6.length ≤ p0.toNatClampNeg)) (h18 : j_cond 0 (if j_cond 2 p0 0 = true then 0 else (if j_cond 4 p0 (v0 - 1) = true then 0 else 1)) 0 = true → j_cond 1 (if j_cond 2 p0 0 = true then 0 else (if j_cond 4 p0 (v0 - 1) = true then 0 else 1)) 0 = true → ¬ (j_cond 1 0 0 = true) → ¬ (j_cond 1 2 0 = true) → j_cond 1 1 0 = true → ¬ (p0 < 0 ∨ l10.length ≤ p0.toNatClampNeg)) (h19 : j_cond 0 (if j_cond 2 p0 0 = true then 0 else (if j_cond 4 p0 (v0 - 1) = true then 0 else 1)) 0 = true → ¬ (j_cond 1 (if j_cond 2 p0 0 = true then 0 else (if j_cond 4 p0 (v0 - 1) = true then 0 else 1)) 0 = true) → j_cond 1 1 0 = true → j_cond 1 0 0 = true → ¬ (p0 < 0 ∨ l3.length ≤ p0.toNatClampNeg)) (h20 : j_cond 0 (if j_cond 2 p0 0 = true then 0 else (if j_cond 4 p0 (v0 - 1) = true then 0 else 1)) 0 = true → ¬ (j_cond 1 (if j_cond 2 p0 0 = true then 0 else (if j_cond 4 p0 (v0 - 1) = true then 0 else 1)) 0 = true) → j_cond 1 1 0 = true → j_cond 1 0 0 = true → ¬ (p0 < 0 ∨ l6.length ≤ p0.toNatClampNeg)) (h21 : j_cond 0 (if j_cond 2 p0 0 = true then 0 else (if j_cond 4 p0 (v0 - 1) = true then 0 else 1)) 0 = true → ¬ (j_cond 1 (if j_cond 2 p0 0 = true then 0 else (if j_cond 4 p0 (v0 - 1) = true then 0 else 1)) 0 = true) → j_cond 1 1 0 = true → j_cond 1 0 0 = true → ¬ (p0 < 0 ∨ l10.length ≤ p0.toNatClampNeg)) (h22 : j_fld m r0 12 50 = some (.ref (v22 + 1))) (h23 : j_arr m v22 50 = some l23) (h24 : ¬ (j_cond 0 (if j_cond 2 p0 0 = true then 0 else (if j_cond 4 p0 (v0 - 1) = true then 0 else 1)) 0 = true) → ¬ (p0 < 0 ∨ l23.length ≤ p0.toNatClampNeg)) (h25 : j_fld m r0 12 51 = some (.ref (v25 + 1))) (h26 : j_arr m v25 50 = some l26) (h27 : ¬ (j_cond 0 (if j_cond 2 p0 0 = true then 0 else (if j_cond 4 p0 (v0 - 1) = true then 0 else 1)) 0 = true) → ¬ (p0 < 0 ∨ l26.length ≤ p0.toNatClampNeg)) (h28 : ¬ (j_cond 0 (if j_cond 2 p0 0 = true then 0 else (if j_cond 4 p0 (v0 - 1) = true then 0 else 1)) 0 = true) → j_cond 0 (if j_cond 2 p1 (j_iv (l23.getD p0.toNatClampNeg .null)) = true then 0 else (if j_cond 4 p1 (j_iv (l26.getD p0.toNatClampNeg .null)) = true then 0 else 1)) 0 = true → j_cond 1 (if j_cond 2 p0 0 = true then 0 else (if j_cond 4 p0 (v0 - 1) = true then 0 else 1)) 0 = true → j_cond 1 0 0 = true → j_cond 1 1 0 = true → ¬ (p0 < 0 ∨ l3.length ≤ p0.toNatClampNeg)) (h29 : ¬ (j_cond 0 (if j_cond 2 p0 0 = true then 0 else (if j_cond 4 p0 (v0 - 1) = true then 0 else 1)) 0 = true) → j_cond 0 (if j_cond 2 p1 (j_iv (l23.getD p0.toNatClampNeg .null)) = true then 0 else (if j_cond 4 p1 (j_iv (l26.getD p0.toNatClampNeg .null)) = true then 0 else 1)) 0 = true → j_cond 1 (if j_cond 2 p0 0 = true then 0 else (if j_cond 4 p0 (v0 - 1) = true then 0 else 1)) 0 = true → j_cond 1 0 0 = true → j_cond 1 1 0 = true → ¬ (p0 < 0 ∨ l6.length ≤ p0.toNatClampNeg)) (h30 : ¬ (j_cond 0 (if j_cond 2 p0 0 = true then 0 else (if j_cond 4 p0 (v0 - 1) = true then 0 else 1)) 0 = true) → j_cond 0 (if j_cond 2 p1 (j_iv (l23.getD p0.toNatClampNeg .null)) = true then 0 else (if j_cond 4 p1 (j_iv (l26.getD p0.toNatClampNeg .null)) = true then 0 else 1)) 0 = true → j_cond 1 (if j_cond 2 p0 0 = true then 0 else (if j_cond 4 p0 (v0 - 1) = true then 0 else 1)) 0 = true → j_cond 1 0 0 = true → j_cond 1 1 0 = true → ¬ (p0 < 0 ∨ l10.length ≤ p0.toNatClampNeg)) (h31 : ¬ (j_cond 0 (if j_cond 2 p0 0 = true then 0 else (if j_cond 4 p0 (v0 - 1) = true then 0 else 1)) 0 = true) → j_cond 0 (if j_cond 2 p1 (j_iv (l23.getD p0.toNatClampNeg .null)) = true then 0 else (if j_cond 4 p1 (j_iv (l26.getD p0.toNatClampNeg .null)) = true then 0 else 1)) 0 = true → j_cond 1 (if j_cond 2 p0 0 = true then 0 else (if j_cond 4 p0 (v0 - 1) = true then 0 else 1)) 0 = true → j_cond 1 0 0 = true → ¬ (j_cond 1 1 0 = true) → j_cond 1 3 0 = true → ¬ (p0 < 0 ∨ l3.length ≤ p0.toNatClampNeg)) (h32 : ¬ (j_cond 0 (if j_cond 2 p0 0 = true then 0 else (if j_cond 4 p0 (v0 - 1) = true then 0 else 1)) 0 = true) → j_cond 0 (if j_cond 2 p1 (j_iv (l23.getD p0.toNatClampNeg .null)) = true then 0 else (if j_cond 4 p1 (j_iv (l26.getD p0.toNatClampNeg .null)) = true then 0 else 1)) 0 = true → j_cond 1 (if j_cond 2 p0 0 = true then 0 else (if j_cond 4 p0 (v0 - 1) = true then 0 else 1)) 0 = true → j_cond 1 0 0 = true → ¬ (j_cond 1 1 0 = true) → j_cond 1 3 0 = true → ¬ (p0 < 0 ∨ l6.length ≤ p0.toNatClampNeg)) (h33 : ¬ (j_cond 0 (if j_cond 2 p0 0 = true then 0 else (if j_cond 4 p0 (v0 - 1) = true then 0 else 1)) 0 = true) → j_cond 0 (if j_cond 2 p1 (j_iv (l23.getD p0.toNatClampNeg .null)) = true then 0 else (if j_cond 4 p1 (j_iv (l26.getD p0.toNatClampNeg .null)) = true then 0 else 1)) 0 = true → j_cond 1 (if j_cond 2 p0 0 = true then 0 else (if j_cond 4 p0 (v0 - 1) = true then 0 else 1)) 0 = true → j_cond 1 0 0 = true → ¬ (j_cond 1 1 0 = true) → j_cond 1 3 0 = true → ¬ (p0 < 0 ∨ l10.length ≤ p0.toNatClampNeg)) (h34 : ¬ (j_cond 0 (if j_cond 2 p0 0 = true then 0 else (if j_cond 4 p0 (v0 - 1) = true then 0 else 1)) 0 = true) → j_cond 0 (if j_cond 2 p1 (j_iv (l23.getD p0.toNatClampNeg .null)) = true then 0 else (if j_cond 4 p1 (j_iv (l26.getD p0.toNatClampNeg .null)) = true then 0 else 1)) 0 = true → j_cond 1 (if j_cond 2 p0 0 = true then 0 else (if j_cond 4 p0 (v0 - 1) = true then 0 else 1)) 0 = true → ¬ (j_cond 1 0 0 = true) → ¬ (j_cond 1 2 0 = true) → j_cond 1 1 0 = true → ¬ (p0 < 0 ∨ l3.length ≤ p0.toNatClampNeg)) (h35 : ¬ (j_cond 0 (if j_cond 2 p0 0 = true then 0 else (if j_cond 4 p0 (v0 - 1) = true then 0 else 1)) 0 = true) → j_cond 0 (if j_cond 2 p1 (j_iv (l23.getD p0.toNatClampNeg .null)) = true then 0 else (if j_cond 4 p1 (j_iv (l26.getD p0.toNatClampNeg .null)) = true then 0 else 1)) 0 = true → j_cond 1 (if j_cond 2 p0 0 = true then 0 else (if j_cond 4 p0 (v0 - 1) = true then 0 else 1)) 0 = true → ¬ (j_cond 1 0 0 = true) → ¬ (j_cond 1 2 0 = true) → j_cond 1 1 0 = true → ¬ (p0 < 0 ∨ l6.length ≤ p0.toNatClampNeg)) (h36 : ¬ (j_cond 0 (if j_cond 2 p0 0 = true then 0 else (if j_cond 4 p0 (v0 - 1) = true then 0 else 1)) 0 = true) → j_cond 0 (if j_cond 2 p1 (j_iv (l23.getD p0.toNatClampNeg .null)) = true then 0 else (if j_cond 4 p1 (j_iv (l26.getD p0.toNatClampNeg .null)) = true then 0 else 1)) 0 = true → j_cond 1 (if j_cond 2 p0 0 = true then 0 else (if j_cond 4 p0 (v0 - 1) = true then 0 else 1)) 0 = true → ¬ (j_cond 1 0 0 = true) → ¬ (j_cond 1 2 0 = true) → j_cond 1 1 0 = true → ¬ (p0 < 0 ∨ l10.length ≤ p0.toNatClampNeg)) (h37 : ¬ (j_cond 0 (if j_cond 2 p0 0 = true then 0 else (if j_cond 4 p0 (v0 - 1) = true then 0 else 1)) 0 = true) → j_cond 0 (if j_cond 2 p1 (j_iv (l23.getD p0.toNatClampNeg .null)) = true then 0 else (if j_cond 4 p1 (j_iv (l26.getD p0.toNatClampNeg .null)) = true then 0 else 1)) 0 = true → ¬ (j_cond 1 (if j_cond 2 p0 0 = true then 0 else (if j_cond 4 p0 (v0 - 1) = true then 0 else 1)) 0 = true) → j_cond 1 1 0 = true → j_cond 1 0 0 = true → ¬ (p0 < 0 ∨ l3.length ≤ p0.toNatClampNeg)) (h38 : ¬ (j_cond 0 (if j_cond 2 p0 0 = true then 0 else (if j_cond 4 p0 (v0 - 1) = true then 0 else 1)) 0 = true) → j_cond 0 (if j_cond 2 p1 (j_iv (l23.getD p0.toNatClampNeg .null)) = true then 0 else (if j_cond 4 p1 (j_iv (l26.getD p0.toNatClampNeg .null)) = true then 0 else 1)) 0 = true → ¬ (j_cond 1 (if j_cond 2 p0 0 = true then 0 else (if j_cond 4 p0 (v0 - 1) = true then 0 else 1)) 0 = true) → j_cond 1 1 0 = true → j_cond 1 0 0 = true → ¬ (p0 < 0 ∨ l6.length ≤ p0.toNatClampNeg)) (h39 : ¬ (j_cond 0 (if j_cond 2 p0 0 = true then 0 else (if j_cond 4 p0 (v0 - 1) = true then 0 else 1)) 0 = true) → j_cond 0 (if j_cond 2 p1 (j_iv (l23.getD p0.toNatClampNeg .null)) = true then 0 else (if j_cond 4 p1 (j_iv (l26.getD p0.toNatClampNeg .null)) = true then 0 else 1)) 0 = true → ¬ (j_cond 1 (if j_cond 2 p0 0 = true then 0 else (if j_cond 4 p0 (v0 - 1) = true then 0 else 1)) 0 = true) → j_cond 1 1 0 = true → j_cond 1 0 0 = true → ¬ (p0 < 0 ∨ l10.length ≤ p0.toNatClampNeg)) (h40 : ¬ (j_cond 0 (if j_cond 2 p0 0 = true then 0 else (if j_cond 4 p0 (v0 - 1) = true then 0 else 1)) 0 = true) → ¬ (j_cond 0 (if j_cond 2 p1 (j_iv (l23.getD p0.toNatClampNeg .null)) = true then 0 else (if j_cond 4 p1 (j_iv (l26.getD p0.toNatClampNeg .null)) = true then 0 else 1)) 0 = true) → j_cond 1 (if j_cond 2 p0 0 = true then 0 else (if j_cond 4 p0 (v0 - 1) = true then 0 else 1)) 0 = true → j_cond 1 1 0 = true → j_cond 1 0 0 = true → ¬ (p0 < 0 ∨ l3.length ≤ p0.toNatClampNeg)) (h41 : ¬ (j_cond 0 (if j_cond 2 p0 0 = true then 0 else (if j_cond 4 p0 (v0 - 1) = true then 0 else 1)) 0 = true) → ¬ (j_cond 0 (if j_cond 2 p1 (j_iv (l23.getD p0.toNatClampNeg .null)) = true then 0 else (if j_cond 4 p1 (j_iv (l26.getD p0.toNatClampNeg .null)) = true then 0 else 1)) 0 = true) → j_cond 1 (if j_cond 2 p0 0 = true then 0 else (if j_cond 4 p0 (v0 - 1) = true then 0 else 1)) 0 = true → j_cond 1 1 0 = true → j_cond 1 0 0 = true → ¬ (p0 < 0 ∨ l6.length ≤ p0.toNatClampNeg)) (h42 : ¬ (j_cond 0 (if j_cond 2 p0 0 = true then 0 else (if j_cond 4 p0 (v0 - 1) = true then 0 else 1)) 0 = true) → ¬ (j_cond 0 (if j_cond 2 p1 (j_iv (l23.getD p0.toNatClampNeg .null)) = true then 0 else (if j_cond 4 p1 (j_iv (l26.getD p0.toNatClampNeg .null)) = true then 0 else 1)) 0 = true) → j_cond 1 (if j_cond 2 p0 0 = true then 0 else (if j_cond 4 p0 (v0 - 1) = true then 0 else 1)) 0 = true → j_cond 1 1 0 = true → j_cond 1 0 0 = true → ¬ (p0 < 0 ∨ l10.length ≤ p0.toNatClampNeg)) (h43 : ¬ (j_cond 0 (if j_cond 2 p0 0 = true then 0 else (if j_cond 4 p0 (v0 - 1) = true then 0 else 1)) 0 = true) → ¬ (j_cond 0 (if j_cond 2 p1 (j_iv (l23.getD p0.toNatClampNeg .null)) = true then 0 else (if j_cond 4 p1 (j_iv (l26.getD p0.toNatClampNeg .null)) = true then 0 else 1)) 0 = true) → j_cond 1 (if j_cond 2 p0 0 = true then 0 else (if j_cond 4 p0 (v0 - 1) = true then 0 else 1)) 0 = true → j_cond 1 1 0 = true → ¬ (j_cond 1 0 0 = true) → ¬ (p0 < 0 ∨ l3.length ≤ p0.toNatClampNeg)) (h44 : ¬ (j_cond 0 (if j_cond 2 p0 0 = true then 0 else (if j_cond 4 p0 (v0 - 1) = true then 0 else 1)) 0 = true) → ¬ (j_cond 0 (if j_cond 2 p1 (j_iv (l23.getD p0.toNatClampNeg .null)) = true then 0 else (if j_cond 4 p1 (j_iv (l26.getD p0.toNatClampNeg .null)) = true then 0 else 1)) 0 = true) → j_cond 1 (if j_cond 2 p0 0 = true then 0 else (if j_cond 4 p0 (v0 - 1) = true then 0 else 1)) 0 = true → j_cond 1 1 0 = true → ¬ (j_cond 1 0 0 = true) → ¬ (p0 < 0 ∨ l6.length ≤ p0.toNatClampNeg)) (h45 : ¬ (j_cond 0 (if j_cond 2 p0 0 = true then 0 else (if j_cond 4 p0 (v0 - 1) = true then 0 else 1)) 0 = true) → ¬ (j_cond 0 (if j_cond 2 p1 (j_iv (l23.getD p0.toNatClampNeg .null)) = true then 0 else (if j_cond 4 p1 (j_iv (l26.getD p0.toNatClampNeg .null)) = true then 0 else 1)) 0 = true) → j_cond 1 (if j_cond 2 p0 0 = true then 0 else (if j_cond 4 p0 (v0 - 1) = true then 0 else 1)) 0 = true → j_cond 1 1 0 = true → ¬ (j_cond 1 0 0 = true) → ¬ (p0 < 0 ∨ l10.length ≤ p0.toNatClampNeg)) (h46 : ¬ (j_cond 0 (if j_cond 2 p0 0 = true then 0 else (if j_cond 4 p0 (v0 - 1) = true then 0 else 1)) 0 = true) → ¬ (j_cond 0 (if j_cond 2 p1 (j_iv (l23.getD p0.toNatClampNeg .null)) = true then 0 else (if j_cond 4 p1 (j_iv (l26.getD p0.toNatClampNeg .null)) = true then 0 else 1)) 0 = true) → j_cond 1 (if j_cond 2 p0 0 = true then 0 else (if j_cond 4 p0 (v0 - 1) = true then 0 else 1)) 0 = true → ¬ (j_cond 1 1 0 = true) → j_cond 1 2 0 = true → j_cond 1 0 0 = true → ¬ (p0 < 0 ∨ l3.length ≤ p0.toNatClampNeg)) (h47 : ¬ (j_cond 0 (if j_cond 2 p0 0 = true then 0 else (if j_cond 4 p0 (v0 - 1) = true then 0 else 1)) 0 = true) → ¬ (j_cond 0 (if j_cond 2 p1 (j_iv (l23.getD p0.toNatClampNeg .null)) = true then 0 else (if j_cond 4 p1 (j_iv (l26.getD p0.toNatClampNeg .null)) = true then 0 else 1)) 0 = true) → j_cond 1 (if j_cond 2 p0 0 = true then 0 else (if j_cond 4 p0 (v0 - 1) = true then 0 else 1)) 0 = true → ¬ (j_cond 1 1 0 = true) → j_cond 1 2 0 = true → j_cond 1 0 0 = true → ¬ (p0 < 0 ∨ l6.length ≤ p0.toNatClampNeg)) (h48 : ¬ (j_cond 0 (if j_cond 2 p0 0 = true then 0 else (if j_cond 4 p0 (v0 - 1) = true then 0 else 1)) 0 = true) → ¬ (j_cond 0 (if j_cond 2 p1 (j_iv (l23.getD p0.toNatClampNeg .null)) = true then 0 else (if j_cond 4 p1 (j_iv (l26.getD p0.toNatClampNeg .null)) = true then 0 else 1)) 0 = true) → j_cond 1 (if j_cond 2 p0 0 = true then 0 else (if j_cond 4 p0 (v0 - 1) = true then 0 else 1)) 0 = true → ¬ (j_cond 1 1 0 = true) → j_cond 1 2 0 = true → j_cond 1 0 0 = true → ¬ (p0 < 0 ∨ l10.length ≤ p0.toNatClampNeg)) (h49 : ¬ (j_cond 0 (if j_cond 2 p0 0 = true then 0 else (if j_cond 4 p0 (v0 - 1) = true then 0 else 1)) 0 = true) → ¬ (j_cond 0 (if j_cond 2 p1 (j_iv (l23.getD p0.toNatClampNeg .null)) = true then 0 else (if j_cond 4 p1 (j_iv (l26.getD p0.toNatClampNeg .null)) = true then 0 else 1)) 0 = true) → ¬ (j_cond 1 (if j_cond 2 p0 0 = true then 0 else (if j_cond 4 p0 (v0 - 1) = true then 0 else 1)) 0 = true) → j_cond 1 1 0 = true → j_cond 1 0 0 = true → ¬ (p0 < 0 ∨ l3.length ≤ p0.toNatClampNeg)) (h50 : ¬ (j_cond 0 (if j_cond 2 p0 0 = true then 0 else (if j_cond 4 p0 (v0 - 1) = true then 0 else 1)) 0 = true) → ¬ (j_cond 0 (if j_cond 2 p1 (j_iv (l23.getD p0.toNatClampNeg .null)) = true then 0 else (if j_cond 4 p1 (j_iv (l26.getD p0.toNatClampNeg .null)) = true then 0 else 1)) 0 = true) → ¬ (j_cond 1 (if j_cond 2 p0 0 = true then 0 else (if j_cond 4 p0 (v0 - 1) = true then 0 else 1)) 0 = true) → j_cond 1 1 0 = true → j_cond 1 0 0 = true → ¬ (p0 < 0 ∨ l6.length ≤ p0.toNatClampNeg)) (h51 : ¬ (j_cond 0 (if j_cond 2 p0 0 = true then 0 else (if j_cond 4 p0 (v0 - 1) = true then 0 else 1)) 0 = true) → ¬ (j_cond 0 (if j_cond 2 p1 (j_iv (l23.getD p0.toNatClampNeg .null)) = true then 0 else (if j_cond 4 p1 (j_iv (l26.getD p0.toNatClampNeg .null)) = true then 0 else 1)) 0 = true) → ¬ (j_cond 1 (if j_cond 2 p0 0 = true then 0 else (if j_cond 4 p0 (v0 - 1) = true then 0 else 1)) 0 = true) → j_cond 1 1 0 = true → j_cond 1 0 0 = true → ¬ (p0 < 0 ∨ l10.length ≤ p0.toNatClampNeg)) : j_Ev X (d + 2) 174 [.ref (r0 + 1), .int p0, .int p1] m (if j_cond 0 (if j_cond 2 p0 0 = true then 0 else (if j_cond 4 p0 (v0 - 1) = true then 0 else 1)) 0 = true then (if j_cond 1 (if j_cond 2 p0 0 = true then 0 else (if j_cond 4 p0 (v0 - 1) = true then 0 else 1)) 0 = true then (if j_cond 1 0 0 = true then (if j_cond 1 1 0 = true then (.inl (some (.int (j_iv (l10.getD p0.toNatClampNeg .null)))), (j_put (j_sto (j_sto (j_put m r0 79 (.int 0)) v2 p0.toNatClampNeg (.int (j_nar 50 p1))) v5 p0.toNatClampNeg (.int (j_nar 52 1))) r0 45 (.int 0))) else (if j_cond 1 3 0 = true then (.inl (some (.int (j_iv (l10.getD p0.toNatClampNeg .null)))), (j_put (j_sto (j_sto (j_put m r0 79 (.int 3)) v2 p0.toNatClampNeg (.int (j_nar 50 p1))) v5 p0.toNatClampNeg (.int (j_nar 52 1))) r0 45 (.int 0))) else (.inl (some (.int 0)), (j_put m r0 79 (.int 3))))) else (if j_cond 1 2 0 = true then (.inl (some (.int 0)), (j_put m r0 79 (.int 2))) else (if j_cond 1 1 0 = true then (.inl (some (.int (j_iv (l10.getD p0.toNatClampNeg .null)))), (j_put (j_sto (j_sto (j_put m r0 79 (.int 2)) v2 p0.toNatClampNeg (.int (j_nar 50 p1))) v5 p0.toNatClampNeg (.int (j_nar 52 1))) r0 45 (.int 0))) else (.inl (some (.int 0)), (j_put m r0 79 (.int 2)))))) else (if j_cond 1 1 0 = true then (if j_cond 1 0 0 = true then (.inl (some (.int (j_iv (l10.getD p0.toNatClampNeg .null)))), (j_put (j_sto (j_sto (j_put m r0 79 (.int 1)) v2 p0.toNatClampNeg (.int (j_nar 50 p1))) v5 p0.toNatClampNeg (.int (j_nar 52 1))) r0 45 (.int 0))) else (.inl (some (.int 0)), (j_put m r0 79 (.int 1)))) else (.inl (some (.int 0)), (j_put m r0 79 (.int 1))))) else (if j_cond 0 (if j_cond 2 p1 (j_iv (l23.getD p0.toNatClampNeg .null)) = true then 0 else (if j_cond 4 p1 (j_iv (l26.getD p0.toNatClampNeg .null)) = true then 0 else 1)) 0 = true then (if j_cond 1 (if j_cond 2 p0 0 = true then 0 else (if j_cond 4 p0 (v0 - 1) = true then 0 else 1)) 0 = true then (if j_cond 1 0 0 = true then (if j_cond 1 1 0 = true then (.inl (some (.int (j_iv (l10.getD p0.toNatClampNeg .null)))), (j_put (j_sto (j_sto (j_put m r0 79 (.int 0)) v2 p0.toNatClampNeg (.int (j_nar 50 p1))) v5 p0.toNatClampNeg (.int (j_nar 52 1))) r0 45 (.int 0))) else (if j_cond 1 3 0 = true then (.inl (some (.int (j_iv (l10.getD p0.toNatClampNeg .null)))), (j_put (j_sto (j_sto (j_put m r0 79 (.int 3)) v2 p0.toNatClampNeg (.int (j_nar 50 p1))) v5 p0.toNatClampNeg (.int (j_nar 52 1))) r0 45 (.int 0))) else (.inl (some (.int 0)), (j_put m r0 79 (.int 3))))) else (if j_cond 1 2 0 = true then (.inl (some (.int 0)), (j_put m r0 79 (.int 2))) else (if j_cond 1 1 0 = true then (.inl (some (.int (j_iv (l10.getD p0.toNatClampNeg .null)))), (j_put (j_sto (j_sto (j_put m r0 79 (.int 2)) v2 p0.toNatClampNeg (.int (j_nar 50 p1))) v5 p0.toNatClampNeg (.int (j_nar 52 1))) r0 45 (.int 0))) else (.inl (some (.int 0)), (j_put m r0 79 (.int 2)))))) else (if j_cond 1 1 0 = true then (if j_cond 1 0 0 = true then (.inl (some (.int (j_iv (l10.getD p0.toNatClampNeg .null)))), (j_put (j_sto (j_sto (j_put m r0 79 (.int 1)) v2 p0.toNatClampNeg (.int (j_nar 50 p1))) v5 p0.toNatClampNeg (.int (j_nar 52 1))) r0 45 (.int 0))) else (.inl (some (.int 0)), (j_put m r0 79 (.int 1)))) else (.inl (some (.int 0)), (j_put m r0 79 (.int 1))))) else (if j_cond 1 (if j_cond 2 p0 0 = true then 0 else (if j_cond 4 p0 (v0 - 1) = true then 0 else 1)) 0 = true then (if j_cond 1 1 0 = true then (if j_cond 1 0 0 = true then (.inl (some (.int (j_iv (l10.getD p0.toNatClampNeg .null)))), (j_put (j_sto (j_sto (j_put m r0 79 (.int 0)) v2 p0.toNatClampNeg (.int (j_nar 50 p1))) v5 p0.toNatClampNeg (.int (j_nar 52 1))) r0 45 (.int 0))) else (.inl (some (.int (j_iv (l10.getD p0.toNatClampNeg .null)))), (j_put (j_sto (j_sto (j_put m r0 79 (.int 0)) v2 p0.toNatClampNeg (.int (j_nar 50 p1))) v5 p0.toNatClampNeg (.int (j_nar 52 1))) r0 45 (.int 0)))) else (if j_cond 1 2 0 = true then (if j_cond 1 0 0 = true then (.inl (some (.int (j_iv (l10.getD p0.toNatClampNeg .null)))), (j_put (j_sto (j_sto (j_put m r0 79 (.int 2)) v2 p0.toNatClampNeg (.int (j_nar 50 p1))) v5 p0.toNatClampNeg (.int (j_nar 52 1))) r0 45 (.int 0))) else (.inl (some (.int 0)), (j_put m r0 79 (.int 2)))) else (.inl (some (.int 0)), (j_put m r0 79 (.int 2))))) else (if j_cond 1 1 0 = true then (if j_cond 1 0 0 = true then (.inl (some (.int (j_iv (l10.getD p0.toNatClampNeg .null)))), (j_put (j_sto (j_sto (j_put m r0 79 (.int 1)) v2 p0.toNatClampNeg (.int (j_nar 50 p1))) v5 p0.toNatClampNeg (.int (j_nar 52 1))) r0 45 (.int 0))) else (.inl (some (.int 0)), (j_put m r0 79 (.int 1)))) else (.inl (some (.int 0)), (j_put m r0 79 (.int 1))))))) := by
  refine e_of hk_174 ?_
  refine gs_aload hk_174 rfl rfl rfl ?_
  refine gs_iload hk_174 rfl rfl rfl ?_
  refine gs_call (as := [.ref (r0 + 1), .int p0]) (rest := []) hk_174 rfl (Or.inr (Or.inr (Or.inr ⟨Or.inl rfl, j_recv_of h0⟩))) rfl rfl rfl (Nat.not_lt.mpr (Nat.le_of_ble_eq_true rfl)) (s_M_isWidget_172 h0) rfl ?_
  refine gs_istore hk_174 rfl (Nat.le_of_ble_eq_true rfl) rfl rfl ?_
  refine gs_aload hk_174 rfl rfl rfl ?_
  refine gs_iload hk_174 rfl rfl rfl ?_
  refine gs_iload hk_174 rfl rfl rfl ?_
  by_cases c1 : j_cond 0 (if j_cond 2 p0 0 = true then 0 else (if j_cond 4 p0 (v0 - 1) = true then 0 else 1)) 0 = true
  · rw [if_pos c1]
    refine gs_ifT hk_174 rfl c1 ?_
    refine gs_push (x := 0) hk_174 rfl (by decide) rfl ?_
    refine gs_push (x := 1) hk_174 rfl (by decide) rfl ?_
    by_cases c2 : j_cond 1 (if j_cond 2 p0 0 = true then 0 else (if j_cond 4 p0 (v0 - 1) = true then 0 else 1)) 0 = true
    · rw [if_pos c2]
      by_cases c3 : j_cond 1 0 0 = true
      · rw [if_pos c3]
        by_cases c4 : j_cond 1 1 0 = true
        · rw [if_pos c4]
          refine gs_call (as := [.ref (r0 + 1), .int (if j_cond 2 p0 0 = true then 0 else (if j_cond 4 p0 (v0 - 1) = true then 0 else 1)), .int 0, .int 1]) (rest := []) hk_174 rfl (Or.inr (Or.inr (Or.inr ⟨Or.inl rfl, j_recv_of h0⟩))) rfl rfl rfl (Nat.not_lt.mpr (Nat.le_of_ble_eq_true rfl)) (j_evw (s_M_goes_146 h1) ((if_pos c2).trans ((if_pos c3).trans ((if_pos c4).trans ((if_pos (by assumption : j_cond 1 0 0 = true)).trans (rfl)))))) rfl ?_
          refine gs_ifT hk_174 rfl (by assumption) ?_
          refine gs_aload hk_174 rfl rfl rfl ?_
          refine gs_get hk_174 rfl ((j_fld_putN (Or.inr (by decide))).trans h2) rfl ?_
          refine gs_iload hk_174 rfl rfl rfl ?_
          refine gs_iload hk_174 rfl rfl rfl ?_
          refine gs_ast hk_174 rfl ((j_arr_put13 h1 (by decide)).trans h3) (h4 (by assumption) (by assumption) (by assumption) (by assumption)) rfl rfl ?_
          refine gs_aload hk_174 rfl rfl rfl ?_
          refine gs_get hk_174 rfl ((j_fld_sto ((j_arr_put13 h1 (by decide)).trans h3) (by decide)).trans ((j_fld_putN (Or.inr (by decide))).trans h5)) rfl ?_
          refine gs_iload hk_174 rfl rfl rfl ?_
          refine gs_push (x := 1) hk_174 rfl (by decide) rfl ?_
          refine gs_ast hk_174 rfl ((j_arr_stoT ((j_arr_put13 h1 (by decide)).trans h3) (by decide)).trans ((j_arr_put13 h1 (by decide)).trans h6)) (h7 (by assumption) (by assumption) (by assumption) (by assumption)) rfl rfl ?_
          refine gs_aload hk_174 rfl rfl rfl ?_
          refine gs_push (x := 0) hk_174 rfl (by decide) rfl ?_
          refine gs_put hk_174 rfl ((j_fld_sto ((j_arr_stoT ((j_arr_put13 h1 (by decide)).trans h3) (by decide)).trans ((j_arr_put13 h1 (by decide)).trans h6)) (by decide)).trans ((j_fld_sto ((j_arr_put13 h1 (by decide)).trans h3) (by decide)).trans ((j_fld_putN (Or.inr (by decide))).trans h8))) (by decide) rfl rfl ?_
          refine gs_aload hk_174 rfl rfl rfl ?_
          refine gs_get hk_174 rfl ((j_fld_putN (Or.inr (by decide))).trans ((j_fld_sto ((j_arr_stoT ((j_arr_put13 h1 (by decide)).trans h3) (by decide)).trans ((j_arr_put13 h1 (by decide)).trans h6)) (by decide)).trans ((j_fld_sto ((j_arr_put13 h1 (by decide)).trans h3) (by decide)).trans ((j_fld_putN (Or.inr (by decide))).trans h9)))) rfl ?_
          refine gs_iload hk_174 rfl rfl rfl ?_
          refine gs_ald hk_174 rfl ((j_arr_put13 ((j_fld_sto ((j_arr_stoT ((j_arr_put13 h1 (by decide)).trans h3) (by decide)).trans ((j_arr_put13 h1 (by decide)).trans h6)) (by decide)).trans ((j_fld_sto ((j_arr_put13 h1 (by decide)).trans h3) (by decide)).trans ((j_fld_putN (Or.inr (by decide))).trans h8))) (by decide)).trans ((j_arr_stoT ((j_arr_stoT ((j_arr_put13 h1 (by decide)).trans h3) (by decide)).trans ((j_arr_put13 h1 (by decide)).trans h6)) (by decide)).trans ((j_arr_stoN h11).trans ((j_arr_put13 h1 (by decide)).trans h10)))) (h12 (by assumption) (by assumption) (by assumption) (by assumption)) rfl rfl ?_
          exact gs_iret hk_174 rfl (Or.inl rfl) rfl
        · rw [if_neg c4]
          by_cases c5 : j_cond 1 3 0 = true
          · rw [if_pos c5]
            refine gs_call (as := [.ref (r0 + 1), .int (if j_cond 2 p0 0 = true then 0 else (if j_cond 4 p0 (v0 - 1) = true then 0 else 1)), .int 0, .int 1]) (rest := []) hk_174 rfl (Or.inr (Or.inr (Or.inr ⟨Or.inl rfl, j_recv_of h0⟩))) rfl rfl rfl (Nat.not_lt.mpr (Nat.le_of_ble_eq_true rfl)) (j_evw (s_M_goes_146 h1) ((if_pos c2).trans ((if_pos c3).trans ((if_neg c4).trans ((if_pos c5).trans (rfl)))))) rfl ?_
            refine gs_ifT hk_174 rfl (by assumption) ?_
            refine gs_aload hk_174 rfl rfl rfl ?_
            refine gs_get hk_174 rfl ((j_fld_putN (Or.inr (by decide))).trans h2) rfl ?_
            refine gs_iload hk_174 rfl rfl rfl ?_
            refine gs_iload hk_174 rfl rfl rfl ?_
            refine gs_ast hk_174 rfl ((j_arr_put13 h1 (by decide)).trans h3) (h13 (by assumption) (by assumption) (by assumption) (by assumption) (by assumption)) rfl rfl ?_
            refine gs_aload hk_174 rfl rfl rfl ?_
            refine gs_get hk_174 rfl ((j_fld_sto ((j_arr_put13 h1 (by decide)).trans h3) (by decide)).trans ((j_fld_putN (Or.inr (by decide))).trans h5)) rfl ?_
            refine gs_iload hk_174 rfl rfl rfl ?_
            refine gs_push (x := 1) hk_174 rfl (by decide) rfl ?_
            refine gs_ast hk_174 rfl ((j_arr_stoT ((j_arr_put13 h1 (by decide)).trans h3) (by decide)).trans ((j_arr_put13 h1 (by decide)).trans h6)) (h14 (by assumption) (by assumption) (by assumption) (by assumption) (by assumption)) rfl rfl ?_
            refine gs_aload hk_174 rfl rfl rfl ?_
            refine gs_push (x := 0) hk_174 rfl (by decide) rfl ?_
            refine gs_put hk_174 rfl ((j_fld_sto ((j_arr_stoT ((j_arr_put13 h1 (by decide)).trans h3) (by decide)).trans ((j_arr_put13 h1 (by decide)).trans h6)) (by decide)).trans ((j_fld_sto ((j_arr_put13 h1 (by decide)).trans h3) (by decide)).trans ((j_fld_putN (Or.inr (by decide))).trans h8))) (by decide) rfl rfl ?_
            refine gs_aload hk_174 rfl rfl rfl ?_
            refine gs_get hk_174 rfl ((j_fld_putN (Or.inr (by decide))).trans ((j_fld_sto ((j_arr_stoT ((j_arr_put13 h1 (by decide)).trans h3) (by decide)).trans ((j_arr_put13 h1 (by decide)).trans h6)) (by decide)).trans ((j_fld_sto ((j_arr_put13 h1 (by decide)).trans h3) (by decide)).trans ((j_fld_putN (Or.inr (by decide))).trans h9)))) rfl ?_
            refine gs_iload hk_174 rfl rfl rfl ?_
            refine gs_ald hk_174 rfl ((j_arr_put13 ((j_fld_sto ((j_arr_stoT ((j_arr_put13 h1 (by decide)).trans h3) (by decide)).trans ((j_arr_put13 h1 (by decide)).trans h6)) (by decide)).trans ((j_fld_sto ((j_arr_put13 h1 (by decide)).trans h3) (by decide)).trans ((j_fld_putN (Or.inr (by decide))).trans h8))) (by decide)).trans ((j_arr_stoT ((j_arr_stoT ((j_arr_put13 h1 (by decide)).trans h3) (by decide)).trans ((j_arr_put13 h1 (by decide)).trans h6)) (by decide)).trans ((j_arr_stoN h11).trans ((j_arr_put13 h1 (by decide)).trans h10)))) (h15 (by assumption) (by assumption) (by assumption) (by assumption) (by assumption)) rfl rfl ?_
            exact gs_iret hk_174 rfl (Or.inl rfl) rfl
          · rw [if_neg c5]
            refine gs_call (as := [.ref (r0 + 1), .int (if j_cond 2 p0 0 = true then 0 else (if j_cond 4 p0 (v0 - 1) = true then 0 else 1)), .int 0, .int 1]) (rest := []) hk_174 rfl (Or.inr (Or.inr (Or.inr ⟨Or.inl rfl, j_recv_of h0⟩))) rfl rfl rfl (Nat.not_lt.mpr (Nat.le_of_ble_eq_true rfl)) (j_evw (s_M_goes_146 h1) ((if_pos c2).trans ((if_pos c3).trans ((if_neg c4).trans ((if_neg c5).trans (rfl)))))) rfl ?_
            refine gs_ifF hk_174 rfl (j_bf (by assumption)) rfl ?_
            refine gs_push (x := 0) hk_174 rfl (by decide) rfl ?_
            exact gs_iret hk_174 rfl (Or.inl rfl) rfl
      · rw [if_neg c3]
        by_cases c6 : j_cond 1 2 0 = true
        · rw [if_pos c6]
          refine gs_call (as := [.ref (r0 + 1), .int (if j_cond 2 p0 0 = true then 0 else (if j_cond 4 p0 (v0 - 1) = true then 0 else 1)), .int 0, .int 1]) (rest := []) hk_174 rfl (Or.inr (Or.inr (Or.inr ⟨Or.inl rfl, j_recv_of h0⟩))) rfl rfl rfl (Nat.not_lt.mpr (Nat.le_of_ble_eq_true rfl)) (j_evw (s_M_goes_146 h1) ((if_pos c2).trans ((if_neg c3).trans ((if_pos c6).trans (rfl))))) rfl ?_
          refine gs_ifF hk_174 rfl (j_bf (by assumption)) rfl ?_
          refine gs_push (x := 0) hk_174 rfl (by decide) rfl ?_
          exact gs_iret hk_174 rfl (Or.inl rfl) rfl
        · rw [if_neg c6]
          refine gs_call (as := [.ref (r0 + 1), .int (if j_cond 2 p0 0 = true then 0 else (if j_cond 4 p0 (v0 - 1) = true then 0 else 1)), .int 0, .int 1]) (rest := []) hk_174 rfl (Or.inr (Or.inr (Or.inr ⟨Or.inl rfl, j_recv_of h0⟩))) rfl rfl rfl (Nat.not_lt.mpr (Nat.le_of_ble_eq_true rfl)) (j_evw (s_M_goes_146 h1) ((if_pos c2).trans ((if_neg c3).trans ((if_neg c6).trans (rfl))))) rfl ?_
          by_cases c7 : j_cond 1 1 0 = true
          · rw [if_pos c7]
            refine gs_ifT hk_174 rfl c7 ?_
            refine gs_aload hk_174 rfl rfl rfl ?_
            refine gs_get hk_174 rfl ((j_fld_putN (Or.inr (by decide))).trans h2) rfl ?_
            refine gs_iload hk_174 rfl rfl rfl ?_
            refine gs_iload hk_174 rfl rfl rfl ?_
            refine gs_ast hk_174 rfl ((j_arr_put13 h1 (by decide)).trans h3) (h16 (by assumption) (by assumption) (by assumption) (by assumption) (by assumption)) rfl rfl ?_
            refine gs_aload hk_174 rfl rfl rfl ?_
            refine gs_get hk_174 rfl ((j_fld_sto ((j_arr_put13 h1 (by decide)).trans h3) (by decide)).trans ((j_fld_putN (Or.inr (by decide))).trans h5)) rfl ?_
            refine gs_iload hk_174 rfl rfl rfl ?_
            refine gs_push (x := 1) hk_174 rfl (by decide) rfl ?_
            refine gs_ast hk_174 rfl ((j_arr_stoT ((j_arr_put13 h1 (by decide)).trans h3) (by decide)).trans ((j_arr_put13 h1 (by decide)).trans h6)) (h17 (by assumption) (by assumption) (by assumption) (by assumption) (by assumption)) rfl rfl ?_
            refine gs_aload hk_174 rfl rfl rfl ?_
            refine gs_push (x := 0) hk_174 rfl (by decide) rfl ?_
            refine gs_put hk_174 rfl ((j_fld_sto ((j_arr_stoT ((j_arr_put13 h1 (by decide)).trans h3) (by decide)).trans ((j_arr_put13 h1 (by decide)).trans h6)) (by decide)).trans ((j_fld_sto ((j_arr_put13 h1 (by decide)).trans h3) (by decide)).trans ((j_fld_putN (Or.inr (by decide))).trans h8))) (by decide) rfl rfl ?_
            refine gs_aload hk_174 rfl rfl rfl ?_
            refine gs_get hk_174 rfl ((j_fld_putN (Or.inr (by decide))).trans ((j_fld_sto ((j_arr_stoT ((j_arr_put13 h1 (by decide)).trans h3) (by decide)).trans ((j_arr_put13 h1 (by decide)).trans h6)) (by decide)).trans ((j_fld_sto ((j_arr_put13 h1 (by decide)).trans h3) (by decide)).trans ((j_fld_putN (Or.inr (by decide))).trans h9)))) rfl ?_
            refine gs_iload hk_174 rfl rfl rfl ?_
            refine gs_ald hk_174 rfl ((j_arr_put13 ((j_fld_sto ((j_arr_stoT ((j_arr_put13 h1 (by decide)).trans h3) (by decide)).trans ((j_arr_put13 h1 (by decide)).trans h6)) (by decide)).trans ((j_fld_sto ((j_arr_put13 h1 (by decide)).trans h3) (by decide)).trans ((j_fld_putN (Or.inr (by decide))).trans h8))) (by decide)).trans ((j_arr_stoT ((j_arr_stoT ((j_arr_put13 h1 (by decide)).trans h3) (by decide)).trans ((j_arr_put13 h1 (by decide)).trans h6)) (by decide)).trans ((j_arr_stoN h11).trans ((j_arr_put13 h1 (by decide)).trans h10)))) (h18 (by assumption) (by assumption) (by assumption) (by assumption) (by assumption)) rfl rfl ?_
            exact gs_iret hk_174 rfl (Or.inl rfl) rfl
          · rw [if_neg c7]
            refine gs_ifF hk_174 rfl (j_bf c7) rfl ?_
            refine gs_push (x := 0) hk_174 rfl (by decide) rfl ?_
            exact gs_iret hk_174 rfl (Or.inl rfl) rfl
    · rw [if_neg c2]
      by_cases c8 : j_cond 1 1 0 = true
      · rw [if_pos c8]
        refine gs_call (as := [.ref (r0 + 1), .int (if j_cond 2 p0 0 = true then 0 else (if j_cond 4 p0 (v0 - 1) = true then 0 else 1)), .int 0, .int 1]) (rest := []) hk_174 rfl (Or.inr (Or.inr (Or.inr ⟨Or.inl rfl, j_recv_of h0⟩))) rfl rfl rfl (Nat.not_lt.mpr (Nat.le_of_ble_eq_true rfl)) (j_evw (s_M_goes_146 h1) ((if_neg c2).trans ((if_pos c8).trans (rfl)))) rfl ?_
        by_cases c9 : j_cond 1 0 0 = true
        · rw [if_pos c9]
          refine gs_ifT hk_174 rfl c9 ?_
          refine gs_aload hk_174 rfl rfl rfl ?_
          refine gs_get hk_174 rfl ((j_fld_putN (Or.inr (by decide))).trans h2) rfl ?_
          refine gs_iload hk_174 rfl rfl rfl ?_
          refine gs_iload hk_174 rfl rfl rfl ?_
          refine gs_ast hk_174 rfl ((j_arr_put13 h1 (by decide)).trans h3) (h19 (by assumption) (by assumption) (by assumption) (by assumption)) rfl rfl ?_
          refine gs_aload hk_174 rfl rfl rfl ?_
          refine gs_get hk_174 rfl ((j_fld_sto ((j_arr_put13 h1 (by decide)).trans h3) (by decide)).trans ((j_fld_putN (Or.inr (by decide))).trans h5)) rfl ?_
          refine gs_iload hk_174 rfl rfl rfl ?_
          refine gs_push (x := 1) hk_174 rfl (by decide) rfl ?_
          refine gs_ast hk_174 rfl ((j_arr_stoT ((j_arr_put13 h1 (by decide)).trans h3) (by decide)).trans ((j_arr_put13 h1 (by decide)).trans h6)) (h20 (by assumption) (by assumption) (by assumption) (by assumption)) rfl rfl ?_
          refine gs_aload hk_174 rfl rfl rfl ?_
          refine gs_push (x := 0) hk_174 rfl (by decide) rfl ?_
          refine gs_put hk_174 rfl ((j_fld_sto ((j_arr_stoT ((j_arr_put13 h1 (by decide)).trans h3) (by decide)).trans ((j_arr_put13 h1 (by decide)).trans h6)) (by decide)).trans ((j_fld_sto ((j_arr_put13 h1 (by decide)).trans h3) (by decide)).trans ((j_fld_putN (Or.inr (by decide))).trans h8))) (by decide) rfl rfl ?_
          refine gs_aload hk_174 rfl rfl rfl ?_
          refine gs_get hk_174 rfl ((j_fld_putN (Or.inr (by decide))).trans ((j_fld_sto ((j_arr_stoT ((j_arr_put13 h1 (by decide)).trans h3) (by decide)).trans ((j_arr_put13 h1 (by decide)).trans h6)) (by decide)).trans ((j_fld_sto ((j_arr_put13 h1 (by decide)).trans h3) (by decide)).trans ((j_fld_putN (Or.inr (by decide))).trans h9)))) rfl ?_
          refine gs_iload hk_174 rfl rfl rfl ?_
          refine gs_ald hk_174 rfl ((j_arr_put13 ((j_fld_sto ((j_arr_stoT ((j_arr_put13 h1 (by decide)).trans h3) (by decide)).trans ((j_arr_put13 h1 (by decide)).trans h6)) (by decide)).trans ((j_fld_sto ((j_arr_put13 h1 (by decide)).trans h3) (by decide)).trans ((j_fld_putN (Or.inr (by decide))).trans h8))) (by decide)).trans ((j_arr_stoT ((j_arr_stoT ((j_arr_put13 h1 (by decide)).trans h3) (by decide)).trans ((j_arr_put13 h1 (by decide)).trans h6)) (by decide)).trans ((j_arr_stoN h11).trans ((j_arr_put13 h1 (by decide)).trans h10)))) (h21 (by assumption) (by assumption) (by assumption) (by assumption)) rfl rfl ?_
          exact gs_iret hk_174 rfl (Or.inl rfl) rfl
        · rw [if_neg c9]
          refine gs_ifF hk_174 rfl (j_bf c9) rfl ?_
          refine gs_push (x := 0) hk_174 rfl (by decide) rfl ?_
          exact gs_iret hk_174 rfl (Or.inl rfl) rfl
      · rw [if_neg c8]
        refine gs_call (as := [.ref (r0 + 1), .int (if j_cond 2 p0 0 = true then 0 else (if j_cond 4 p0 (v0 - 1) = true then 0 else 1)), .int 0, .int 1]) (rest := []) hk_174 rfl (Or.inr (Or.inr (Or.inr ⟨Or.inl rfl, j_recv_of h0⟩))) rfl rfl rfl (Nat.not_lt.mpr (Nat.le_of_ble_eq_true rfl)) (j_evw (s_M_goes_146 h1) ((if_neg c2).trans ((if_neg c8).trans (rfl)))) rfl ?_
        refine gs_ifF hk_174 rfl (j_bf (by assumption)) rfl ?_
        refine gs_push (x := 0) hk_174 rfl (by decide) rfl ?_
        exact gs_iret hk_174 rfl (Or.inl rfl) rfl
  · rw [if_neg c1]
    refine gs_ifF hk_174 rfl (j_bf c1) rfl ?_
    refine gs_iload hk_174 rfl rfl rfl ?_
    refine gs_aload hk_174 rfl rfl rfl ?_
    refine gs_get hk_174 rfl h22 rfl ?_
    refine gs_iload hk_174 rfl rfl rfl ?_
    refine gs_ald hk_174 rfl h23 (h24 (by assumption)) rfl rfl ?_
    refine gs_aload hk_174 rfl rfl rfl ?_
    refine gs_get hk_174 rfl h25 rfl ?_
    refine gs_iload hk_174 rfl rfl rfl ?_
    refine gs_ald hk_174 rfl h26 (h27 (by assumption)) rfl rfl ?_
    refine gs_call (as := [.int p1, .int (j_iv (l23.getD p0.toNatClampNeg .null)), .int (j_iv (l26.getD p0.toNatClampNeg .null))]) (rest := [.int (if j_cond 2 p0 0 = true then 0 else (if j_cond 4 p0 (v0 - 1) = true then 0 else 1)), .ref (r0 + 1)]) hk_174 rfl (Or.inl rfl) rfl rfl rfl (Nat.not_lt.mpr (Nat.le_of_ble_eq_true rfl)) (s_M_isBetween_147) rfl ?_
    by_cases c10 : j_cond 0 (if j_cond 2 p1 (j_iv (l23.getD p0.toNatClampNeg .null)) = true then 0 else (if j_cond 4 p1 (j_iv (l26.getD p0.toNatClampNeg .null)) = true then 0 else 1)) 0 = true
    · rw [if_pos c10]
      refine gs_ifT hk_174 rfl c10 ?_
      refine gs_push (x := 0) hk_174 rfl (by decide) rfl ?_
      refine gs_push (x := 1) hk_174 rfl (by decide) rfl ?_
      by_cases c11 : j_cond 1 (if j_cond 2 p0 0 = true then 0 else (if j_cond 4 p0 (v0 - 1) = true then 0 else 1)) 0 = true
      · rw [if_pos c11]
        by_cases c12 : j_cond 1 0 0 = true
        · rw [if_pos c12]
          by_cases c13 : j_cond 1 1 0 = true
          · rw [if_pos c13]
            refine gs_call (as := [.ref (r0 + 1), .int (if j_cond 2 p0 0 = true then 0 else (if j_cond 4 p0 (v0 - 1) = true then 0 else 1)), .int 0, .int 1]) (rest := []) hk_174 rfl (Or.inr (Or.inr (Or.inr ⟨Or.inl rfl, j_recv_of h0⟩))) rfl rfl rfl (Nat.not_lt.mpr (Nat.le_of_ble_eq_true rfl)) (j_evw (s_M_goes_146 h1) ((if_pos c11).trans ((if_pos c12).trans ((if_pos c13).trans ((if_pos (by assumption : j_cond 1 0 0 = true)).trans (rfl)))))) rfl ?_
            refine gs_ifT hk_174 rfl (by assumption) ?_
            refine gs_aload hk_174 rfl rfl rfl ?_
            refine gs_get hk_174 rfl ((j_fld_putN (Or.inr (by decide))).trans h2) rfl ?_
            refine gs_iload hk_174 rfl rfl rfl ?_
            refine gs_iload hk_174 rfl rfl rfl ?_
            refine gs_ast hk_174 rfl ((j_arr_put13 h1 (by decide)).trans h3) (h28 (by assumption) (by assumption) (by assumption) (by assumption) (by assumption)) rfl rfl ?_
            refine gs_aload hk_174 rfl rfl rfl ?_
            refine gs_get hk_174 rfl ((j_fld_sto ((j_arr_put13 h1 (by decide)).trans h3) (by decide)).trans ((j_fld_putN (Or.inr (by decide))).trans h5)) rfl ?_
            refine gs_iload hk_174 rfl rfl rfl ?_
            refine gs_push (x := 1) hk_174 rfl (by decide) rfl ?_
            refine gs_ast hk_174 rfl ((j_arr_stoT ((j_arr_put13 h1 (by decide)).trans h3) (by decide)).trans ((j_arr_put13 h1 (by decide)).trans h6)) (h29 (by assumption) (by assumption) (by assumption) (by assumption) (by assumption)) rfl rfl ?_
            refine gs_aload hk_174 rfl rfl rfl ?_
            refine gs_push (x := 0) hk_174 rfl (by decide) rfl ?_
            refine gs_put hk_174 rfl ((j_fld_sto ((j_arr_stoT ((j_arr_put13 h1 (by decide)).trans h3) (by decide)).trans ((j_arr_put13 h1 (by decide)).trans h6)) (by decide)).trans ((j_fld_sto ((j_arr_put13 h1 (by decide)).trans h3) (by decide)).trans ((j_fld_putN (Or.inr (by decide))).trans h8))) (by decide) rfl rfl ?_
            refine gs_aload hk_174 rfl rfl rfl ?_
            refine gs_get hk_174 rfl ((j_fld_putN (Or.inr (by decide))).trans ((j_fld_sto ((j_arr_stoT ((j_arr_put13 h1 (by decide)).trans h3) (by decide)).trans ((j_arr_put13 h1 (by decide)).trans h6)) (by decide)).trans ((j_fld_sto ((j_arr_put13 h1 (by decide)).trans h3) (by decide)).trans ((j_fld_putN (Or.inr (by decide))).trans h9)))) rfl ?_
            refine gs_iload hk_174 rfl rfl rfl ?_
            refine gs_ald hk_174 rfl ((j_arr_put13 ((j_fld_sto ((j_arr_stoT ((j_arr_put13 h1 (by decide)).trans h3) (by decide)).trans ((j_arr_put13 h1 (by decide)).trans h6)) (by decide)).trans ((j_fld_sto ((j_arr_put13 h1 (by decide)).trans h3) (by decide)).trans ((j_fld_putN (Or.inr (by decide))).trans h8))) (by decide)).trans ((j_arr_stoT ((j_arr_stoT ((j_arr_put13 h1 (by decide)).trans h3) (by decide)).trans ((j_arr_put13 h1 (by decide)).trans h6)) (by decide)).trans ((j_arr_stoN h11).trans ((j_arr_put13 h1 (by decide)).trans h10)))) (h30 (by assumption) (by assumption) (by assumption) (by assumption) (by assumption)) rfl rfl ?_
            exact gs_iret hk_174 rfl (Or.inl rfl) rfl
          · rw [if_neg c13]
            by_cases c14 : j_cond 1 3 0 = true
            · rw [if_pos c14]
              refine gs_call (as := [.ref (r0 + 1), .int (if j_cond 2 p0 0 = true then 0 else (if j_cond 4 p0 (v0 - 1) = true then 0 else 1)), .int 0, .int 1]) (rest := []) hk_174 rfl (Or.inr (Or.inr (Or.inr ⟨Or.inl rfl, j_recv_of h0⟩))) rfl rfl rfl (Nat.not_lt.mpr (Nat.le_of_ble_eq_true rfl)) (j_evw (s_M_goes_146 h1) ((if_pos c11).trans ((if_pos c12).trans ((if_neg c13).trans ((if_pos c14).trans (rfl)))))) rfl ?_
              refine gs_ifT hk_174 rfl (by assumption) ?_
              refine gs_aload hk_174 rfl rfl rfl ?_
              refine gs_get hk_174 rfl ((j_fld_putN (Or.inr (by decide))).trans h2) rfl ?_
              refine gs_iload hk_174 rfl rfl rfl ?_
              refine gs_iload hk_174 rfl rfl rfl ?_
              refine gs_ast hk_174 rfl ((j_arr_put13 h1 (by decide)).trans h3) (h31 (by assumption) (by assumption) (by assumption) (by assumption) (by assumption) (by assumption)) rfl rfl ?_
              refine gs_aload hk_174 rfl rfl rfl ?_
              refine gs_get hk_174 rfl ((j_fld_sto ((j_arr_put13 h1 (by decide)).trans h3) (by decide)).trans ((j_fld_putN (Or.inr (by decide))).trans h5)) rfl ?_
              refine gs_iload hk_174 rfl rfl rfl ?_
              refine gs_push (x := 1) hk_174 rfl (by decide) rfl ?_
              refine gs_ast hk_174 rfl ((j_arr_stoT ((j_arr_put13 h1 (by decide)).trans h3) (by decide)).trans ((j_arr_put13 h1 (by decide)).trans h6)) (h32 (by assumption) (by assumption) (by assumption) (by assumption) (by assumption) (by assumption)) rfl rfl ?_
              refine gs_aload hk_174 rfl rfl rfl ?_
              refine gs_push (x := 0) hk_174 rfl (by decide) rfl ?_
              refine gs_put hk_174 rfl ((j_fld_sto ((j_arr_stoT ((j_arr_put13 h1 (by decide)).trans h3) (by decide)).trans ((j_arr_put13 h1 (by decide)).trans h6)) (by decide)).trans ((j_fld_sto ((j_arr_put13 h1 (by decide)).trans h3) (by decide)).trans ((j_fld_putN (Or.inr (by decide))).trans h8))) (by decide) rfl rfl ?_
              refine gs_aload hk_174 rfl rfl rfl ?_
              refine gs_get hk_174 rfl ((j_fld_putN (Or.inr (by decide))).trans ((j_fld_sto ((j_arr_stoT ((j_arr_put13 h1 (by decide)).trans h3) (by decide)).trans ((j_arr_put13 h1 (by decide)).trans h6)) (by decide)).trans ((j_fld_sto ((j_arr_put13 h1 (by decide)).trans h3) (by decide)).trans ((j_fld_putN (Or.inr (by decide))).trans h9)))) rfl ?_
              refine gs_iload hk_174 rfl rfl rfl ?_
              refine gs_ald hk_174 rfl ((j_arr_put13 ((j_fld_sto ((j_arr_stoT ((j_arr_put13 h1 (by decide)).trans h3) (by decide)).trans ((j_arr_put13 h1 (by decide)).trans h6)) (by decide)).trans ((j_fld_sto ((j_arr_put13 h1 (by decide)).trans h3) (by decide)).trans ((j_fld_putN (Or.inr (by decide))).trans h8))) (by decide)).trans ((j_arr_stoT ((j_arr_stoT ((j_arr_put13 h1 (by decide)).trans h3) (by decide)).trans ((j_arr_put13 h1 (by decide)).trans h6)) (by decide)).trans ((j_arr_stoN h11).trans ((j_arr_put13 h1 (by decide)).trans h10)))) (h33 (by assumption) (by assumption) (by assumption) (by assumption) (by assumption) (by assumption)) rfl rfl ?_
              exact gs_iret hk_174 rfl (Or.inl rfl) rfl
            · rw [if_neg c14]
              refine gs_call (as := [.ref (r0 + 1), .int (if j_cond 2 p0 0 = true then 0 else (if j_cond 4 p0 (v0 - 1) = true then 0 else 1)), .int 0, .int 1]) (rest := []) hk_174 rfl (Or.inr (Or.inr (Or.inr ⟨Or.inl rfl, j_recv_of h0⟩))) rfl rfl rfl (Nat.not_lt.mpr (Nat.le_of_ble_eq_true rfl)) (j_evw (s_M_goes_146 h1) ((if_pos c11).trans ((if_pos c12).trans ((if_neg c13).trans ((if_neg c14).trans (rfl)))))) rfl ?_
              refine gs_ifF hk_174 rfl (j_bf (by assumption)) rfl ?_
              refine gs_push (x := 0) hk_174 rfl (by decide) rfl ?_
              exact gs_iret hk_174 rfl (Or.inl rfl) rfl
        · rw [if_neg c12]
          by_cases c15 : j_cond 1 2 0 = true
          · rw [if_pos c15]
            refine gs_call (as := [.ref (r0 + 1), .int (if j_cond 2 p0 0 = true then 0 else (if j_cond 4 p0 (v0 - 1) = true then 0 else 1)), .int 0, .int 1]) (rest := []) hk_174 rfl (Or.inr (Or.inr (Or.inr ⟨Or.inl rfl, j_recv_of h0⟩))) rfl rfl rfl (Nat.not_lt.mpr (Nat.le_of_ble_eq_true rfl)) (j_evw (s_M_goes_146 h1) ((if_pos c11).trans ((if_neg c12).trans ((if_pos c15).trans (rfl))))) rfl ?_
            refine gs_ifF hk_174 rfl (j_bf (by assumption)) rfl ?_
            refine gs_push (x := 0) hk_174 rfl (by decide) rfl ?_
            exact gs_iret hk_174 rfl (Or.inl rfl) rfl
          · rw [if_neg c15]
            refine gs_call (as := [.ref (r0 + 1), .int (if j_cond 2 p0 0 = true then 0 else (if j_cond 4 p0 (v0 - 1) = true then 0 else 1)), .int 0, .int 1]) (rest := []) hk_174 rfl (Or.inr (Or.inr (Or.inr ⟨Or.inl rfl, j_recv_of h0⟩))) rfl rfl rfl (Nat.not_lt.mpr (Nat.le_of_ble_eq_true rfl)) (j_evw (s_M_goes_146 h1) ((if_pos c11).trans ((if_neg c12).trans ((if_neg c15).trans (rfl))))) rfl ?_
            by_cases c16 : j_cond 1 1 0 = true
            · rw [if_pos c16]
              refine gs_ifT hk_174 rfl c16 ?_
              refine gs_aload hk_174 rfl rfl rfl ?_
              refine gs_get hk_174 rfl ((j_fld_putN (Or.inr (by decide))).trans h2) rfl ?_
              refine gs_iload hk_174 rfl rfl rfl ?_
              refine gs_iload hk_174 rfl rfl rfl ?_
              refine gs_ast hk_174 rfl ((j_arr_put13 h1 (by decide)).trans h3) (h34 (by assumption) (by assumption) (by assumption) (by assumption) (by assumption) (by assumption)) rfl rfl ?_
              refine gs_aload hk_174 rfl rfl rfl ?_
              refine gs_get hk_174 rfl ((j_fld_sto ((j_arr_put13 h1 (by decide)).trans h3) (by decide)).trans ((j_fld_putN (Or.inr (by decide))).trans h5)) rfl ?_
              refine gs_iload hk_174 rfl rfl rfl ?_
              refine gs_push (x := 1) hk_174 rfl (by decide) rfl ?_
              refine gs_ast hk_174 rfl ((j_arr_stoT ((j_arr_put13 h1 (by decide)).trans h3) (by decide)).trans ((j_arr_put13 h1 (by decide)).trans h6)) (h35 (by assumption) (by assumption) (by assumption) (by assumption) (by assumption) (by assumption)) rfl rfl ?_
              refine gs_aload hk_174 rfl rfl rfl ?_
              refine gs_push (x := 0) hk_174 rfl (by decide) rfl ?_
              refine gs_put hk_174 rfl ((j_fld_sto ((j_arr_stoT ((j_arr_put13 h1 (by decide)).trans h3) (by decide)).trans ((j_arr_put13 h1 (by decide)).trans h6)) (by decide)).trans ((j_fld_sto ((j_arr_put13 h1 (by decide)).trans h3) (by decide)).trans ((j_fld_putN (Or.inr (by decide))).trans h8))) (by decide) rfl rfl ?_
              refine gs_aload hk_174 rfl rfl rfl ?_
              refine gs_get hk_174 rfl ((j_fld_putN (Or.inr (by decide))).trans ((j_fld_sto ((j_arr_stoT ((j_arr_put13 h1 (by decide)).trans h3) (by decide)).trans ((j_arr_put13 h1 (by decide)).trans h6)) (by decide)).trans ((j_fld_sto ((j_arr_put13 h1 (by decide)).trans h3) (by decide)).trans ((j_fld_putN (Or.inr (by decide))).trans h9)))) rfl ?_
              refine gs_iload hk_174 rfl rfl rfl ?_
              refine gs_ald hk_174 rfl ((j_arr_put13 ((j_fld_sto ((j_arr_stoT ((j_arr_put13 h1 (by decide)).trans h3) (by decide)).trans ((j_arr_put13 h1 (by decide)).trans h6)) (by decide)).trans ((j_fld_sto ((j_arr_put13 h1 (by decide)).trans h3) (by decide)).trans ((j_fld_putN (Or.inr (by decide))).trans h8))) (by decide)).trans ((j_arr_stoT ((j_arr_stoT ((j_arr_put13 h1 (by decide)).trans h3) (by decide)).trans ((j_arr_put13 h1 (by decide)).trans h6)) (by decide)).trans ((j_arr_stoN h11).trans ((j_arr_put13 h1 (by decide)).trans h10)))) (h36 (by assumption) (by assumption) (by assumption) (by assumption) (by assumption) (by assumption)) rfl rfl ?_
              exact gs_iret hk_174 rfl (Or.inl rfl) rfl
            · rw [if_neg c16]
              refine gs_ifF hk_174 rfl (j_bf c16) rfl ?_
              refine gs_push (x := 0) hk_174 rfl (by decide) rfl ?_
              exact gs_iret hk_174 rfl (Or.inl rfl) rfl
      · rw [if_neg c11]
        by_cases c17 : j_cond 1 1 0 = true
        · rw [if_pos c17]
          refine gs_call (as := [.ref (r0 + 1), .int (if j_cond 2 p0 0 = true then 0 else (if j_cond 4 p0 (v0 - 1) = true then 0 else 1)), .int 0, .int 1]) (rest := []) hk_174 rfl (Or.inr (Or.inr (Or.inr ⟨Or.inl rfl, j_recv_of h0⟩))) rfl rfl rfl (Nat.not_lt.mpr (Nat.le_of_ble_eq_true rfl)) (j_evw (s_M_goes_146 h1) ((if_neg c11).trans ((if_pos c17).trans (rfl)))) rfl ?_
          by_cases c18 : j_cond 1 0 0 = true
          · rw [if_pos c18]
            refine gs_ifT hk_174 rfl c18 ?_
            refine gs_aload hk_174 rfl rfl rfl ?_
            refine gs_get hk_174 rfl ((j_fld_putN (Or.inr (by decide))).trans h2) rfl ?_
            refine gs_iload hk_174 rfl rfl rfl ?_
            refine gs_iload hk_174 rfl rfl rfl ?_
            refine gs_ast hk_174 rfl ((j_arr_put13 h1 (by decide)).trans h3) (h37 (by assumption) (by assumption) (by assumption) (by assumption) (by assumption)) rfl rfl ?_
            refine gs_aload hk_174 rfl rfl rfl ?_
            refine gs_get hk_174 rfl ((j_fld_sto ((j_arr_put13 h1 (by decide)).trans h3) (by decide)).trans ((j_fld_putN (Or.inr (by decide))).trans h5)) rfl ?_
            refine gs_iload hk_174 rfl rfl rfl ?_
            refine gs_push (x := 1) hk_174 rfl (by decide) rfl ?_
            refine gs_ast hk_174 rfl ((j_arr_stoT ((j_arr_put13 h1 (by decide)).trans h3) (by decide)).trans ((j_arr_put13 h1 (by decide)).trans h6)) (h38 (by assumption) (by assumption) (by assumption) (by assumption) (by assumption)) rfl rfl ?_
            refine gs_aload hk_174 rfl rfl rfl ?_
            refine gs_push (x := 0) hk_174 rfl (by decide) rfl ?_
            refine gs_put hk_174 rfl ((j_fld_sto ((j_arr_stoT ((j_arr_put13 h1 (by decide)).trans h3) (by decide)).trans ((j_arr_put13 h1 (by decide)).trans h6)) (by decide)).trans ((j_fld_sto ((j_arr_put13 h1 (by decide)).trans h3) (by decide)).trans ((j_fld_putN (Or.inr (by decide))).trans h8))) (by decide) rfl rfl ?_
            refine gs_aload hk_174 rfl rfl rfl ?_
            refine gs_get hk_174 rfl ((j_fld_putN (Or.inr (by decide))).trans ((j_fld_sto ((j_arr_stoT ((j_arr_put13 h1 (by decide)).trans h3) (by decide)).trans ((j_arr_put13 h1 (by decide)).trans h6)) (by decide)).trans ((j_fld_sto ((j_arr_put13 h1 (by decide)).trans h3) (by decide)).trans ((j_fld_putN (Or.inr (by decide))).trans h9)))) rfl ?_
            refine gs_iload hk_174 rfl rfl rfl ?_
            refine gs_ald hk_174 rfl ((j_arr_put13 ((j_fld_sto ((j_arr_stoT ((j_arr_put13 h1 (by decide)).trans h3) (by decide)).trans ((j_arr_put13 h1 (by decide)).trans h6)) (by decide)).trans ((j_fld_sto ((j_arr_put13 h1 (by decide)).trans h3) (by decide)).trans ((j_fld_putN (Or.inr (by decide))).trans h8))) (by decide)).trans ((j_arr_stoT ((j_arr_stoT ((j_arr_put13 h1 (by decide)).trans h3) (by decide)).trans ((j_arr_put13 h1 (by decide)).trans h6)) (by decide)).trans ((j_arr_stoN h11).trans ((j_arr_put13 h1 (by decide)).trans h10)))) (h39 (by assumption) (by assumption) (by assumption) (by assumption) (by assumption)) rfl rfl ?_
            exact gs_iret hk_174 rfl (Or.inl rfl) rfl
          · rw [if_neg c18]
            refine gs_ifF hk_174 rfl (j_bf c18) rfl ?_
            refine gs_push (x := 0) hk_174 rfl (by decide) rfl ?_
            exact gs_iret hk_174 rfl (Or.inl rfl) rfl
        · rw [if_neg c17]
          refine gs_call (as := [.ref (r0 + 1), .int (if j_cond 2 p0 0 = true then 0 else (if j_cond 4 p0 (v0 - 1) = true then 0 else 1)), .int 0, .int 1]) (rest := []) hk_174 rfl (Or.inr (Or.inr (Or.inr ⟨Or.inl rfl, j_recv_of h0⟩))) rfl rfl rfl (Nat.not_lt.mpr (Nat.le_of_ble_eq_true rfl)) (j_evw (s_M_goes_146 h1) ((if_neg c11).trans ((if_neg c17).trans (rfl)))) rfl ?_
          refine gs_ifF hk_174 rfl (j_bf (by assumption)) rfl ?_
          refine gs_push (x := 0) hk_174 rfl (by decide) rfl ?_
          exact gs_iret hk_174 rfl (Or.inl rfl) rfl
    · rw [if_neg c10]
      refine gs_ifF hk_174 rfl (j_bf c10) rfl ?_
      refine gs_push (x := 1) hk_174 rfl (by decide) rfl ?_
      refine gs_goto hk_174 rfl ?_
      refine gs_push (x := 1) hk_174 rfl (by decide) rfl ?_
      by_cases c19 : j_cond 1 (if j_cond 2 p0 0 = true then 0 else (if j_cond 4 p0 (v0 - 1) = true then 0 else 1)) 0 = true
      · rw [if_pos c19]
        by_cases c20 : j_cond 1 1 0 = true
        · rw [if_pos c20]
          by_cases c21 : j_cond 1 0 0 = true
          · rw [if_pos c21]
            refine gs_call (as := [.ref (r0 + 1), .int (if j_cond 2 p0 0 = true then 0 else (if j_cond 4 p0 (v0 - 1) = true then 0 else 1)), .int 1, .int 1]) (rest := []) hk_174 rfl (Or.inr (Or.inr (Or.inr ⟨Or.inl rfl, j_recv_of h0⟩))) rfl rfl rfl (Nat.not_lt.mpr (Nat.le_of_ble_eq_true rfl)) (j_evw (s_M_goes_146 h1) ((if_pos c19).trans ((if_pos c20).trans ((if_pos (by assumption : j_cond 1 1 0 = true)).trans ((if_pos c21).trans (rfl)))))) rfl ?_
            refine gs_ifT hk_174 rfl (by assumption) ?_
            refine gs_aload hk_174 rfl rfl rfl ?_
            refine gs_get hk_174 rfl ((j_fld_putN (Or.inr (by decide))).trans h2) rfl ?_
            refine gs_iload hk_174 rfl rfl rfl ?_
            refine gs_iload hk_174 rfl rfl rfl ?_
            refine gs_ast hk_174 rfl ((j_arr_put13 h1 (by decide)).trans h3) (h40 (by assumption) (by assumption) (by assumption) (by assumption) (by assumption)) rfl rfl ?_
            refine gs_aload hk_174 rfl rfl rfl ?_
            refine gs_get hk_174 rfl ((j_fld_sto ((j_arr_put13 h1 (by decide)).trans h3) (by decide)).trans ((j_fld_putN (Or.inr (by decide))).trans h5)) rfl ?_
            refine gs_iload hk_174 rfl rfl rfl ?_
            refine gs_push (x := 1) hk_174 rfl (by decide) rfl ?_
            refine gs_ast hk_174 rfl ((j_arr_stoT ((j_arr_put13 h1 (by decide)).trans h3) (by decide)).trans ((j_arr_put13 h1 (by decide)).trans h6)) (h41 (by assumption) (by assumption) (by assumption) (by assumption) (by assumption)) rfl rfl ?_
            refine gs_aload hk_174 rfl rfl rfl ?_
            refine gs_push (x := 0) hk_174 rfl (by decide) rfl ?_
            refine gs_put hk_174 rfl ((j_fld_sto ((j_arr_stoT ((j_arr_put13 h1 (by decide)).trans h3) (by decide)).trans ((j_arr_put13 h1 (by decide)).trans h6)) (by decide)).trans ((j_fld_sto ((j_arr_put13 h1 (by decide)).trans h3) (by decide)).trans ((j_fld_putN (Or.inr (by decide))).trans h8))) (by decide) rfl rfl ?_
            refine gs_aload hk_174 rfl rfl rfl ?_
            refine gs_get hk_174 rfl ((j_fld_putN (Or.inr (by decide))).trans ((j_fld_sto ((j_arr_stoT ((j_arr_put13 h1 (by decide)).trans h3) (by decide)).trans ((j_arr_put13 h1 (by decide)).trans h6)) (by decide)).trans ((j_fld_sto ((j_arr_put13 h1 (by decide)).trans h3) (by decide)).trans ((j_fld_putN (Or.inr (by decide))).trans h9)))) rfl ?_
            refine gs_iload hk_174 rfl rfl rfl ?_
            refine gs_ald hk_174 rfl ((j_arr_put13 ((j_fld_sto ((j_arr_stoT ((j_arr_put13 h1 (by decide)).trans h3) (by decide)).trans ((j_arr_put13 h1 (by decide)).trans h6)) (by decide)).trans ((j_fld_sto ((j_arr_put13 h1 (by decide)).trans h3) (by decide)).trans ((j_fld_putN (Or.inr (by decide))).trans h8))) (by decide)).trans ((j_arr_stoT ((j_arr_stoT ((j_arr_put13 h1 (by decide)).trans h3) (by decide)).trans ((j_arr_put13 h1 (by decide)).trans h6)) (by decide)).trans ((j_arr_stoN h11).trans ((j_arr_put13 h1 (by decide)).trans h10)))) (h42 (by assumption) (by assumption) (by assumption) (by assumption) (by assumption)) rfl rfl ?_
            exact gs_iret hk_174 rfl (Or.inl rfl) rfl
          · rw [if_neg c21]
            refine gs_call (as := [.ref (r0 + 1), .int (if j_cond 2 p0 0 = true then 0 else (if j_cond 4 p0 (v0 - 1) = true then 0 else 1)), .int 1, .int 1]) (rest := []) hk_174 rfl (Or.inr (Or.inr (Or.inr ⟨Or.inl rfl, j_recv_of h0⟩))) rfl rfl rfl (Nat.not_lt.mpr (Nat.le_of_ble_eq_true rfl)) (j_evw (s_M_goes_146 h1) ((if_pos c19).trans ((if_pos c20).trans ((if_pos (by assumption : j_cond 1 1 0 = true)).trans ((if_neg c21).trans (rfl)))))) rfl ?_
            refine gs_ifT hk_174 rfl (by assumption) ?_
            refine gs_aload hk_174 rfl rfl rfl ?_
            refine gs_get hk_174 rfl ((j_fld_putN (Or.inr (by decide))).trans h2) rfl ?_
            refine gs_iload hk_174 rfl rfl rfl ?_
            refine gs_iload hk_174 rfl rfl rfl ?_
            refine gs_ast hk_174 rfl ((j_arr_put13 h1 (by decide)).trans h3) (h43 (by assumption) (by assumption) (by assumption) (by assumption) (by assumption)) rfl rfl ?_
            refine gs_aload hk_174 rfl rfl rfl ?_
            refine gs_get hk_174 rfl ((j_fld_sto ((j_arr_put13 h1 (by decide)).trans h3) (by decide)).trans ((j_fld_putN (Or.inr (by decide))).trans h5)) rfl ?_
            refine gs_iload hk_174 rfl rfl rfl ?_
            refine gs_push (x := 1) hk_174 rfl (by decide) rfl ?_
            refine gs_ast hk_174 rfl ((j_arr_stoT ((j_arr_put13 h1 (by decide)).trans h3) (by decide)).trans ((j_arr_put13 h1 (by decide)).trans h6)) (h44 (by assumption) (by assumption) (by assumption) (by assumption) (by assumption)) rfl rfl ?_
            refine gs_aload hk_174 rfl rfl rfl ?_
            refine gs_push (x := 0) hk_174 rfl (by decide) rfl ?_
            refine gs_put hk_174 rfl ((j_fld_sto ((j_arr_stoT ((j_arr_put13 h1 (by decide)).trans h3) (by decide)).trans ((j_arr_put13 h1 (by decide)).trans h6)) (by decide)).trans ((j_fld_sto ((j_arr_put13 h1 (by decide)).trans h3) (by decide)).trans ((j_fld_putN (Or.inr (by decide))).trans h8))) (by decide) rfl rfl ?_
            refine gs_aload hk_174 rfl rfl rfl ?_
            refine gs_get hk_174 rfl ((j_fld_putN (Or.inr (by decide))).trans ((j_fld_sto ((j_arr_stoT ((j_arr_put13 h1 (by decide)).trans h3) (by decide)).trans ((j_arr_put13 h1 (by decide)).trans h6)) (by decide)).trans ((j_fld_sto ((j_arr_put13 h1 (by decide)).trans h3) (by decide)).trans ((j_fld_putN (Or.inr (by decide))).trans h9)))) rfl ?_
            refine gs_iload hk_174 rfl rfl rfl ?_
            refine gs_ald hk_174 rfl ((j_arr_put13 ((j_fld_sto ((j_arr_stoT ((j_arr_put13 h1 (by decide)).trans h3) (by decide)).trans ((j_arr_put13 h1 (by decide)).trans h6)) (by decide)).trans ((j_fld_sto ((j_arr_put13 h1 (by decide)).trans h3) (by decide)).trans ((j_fld_putN (Or.inr (by decide))).trans h8))) (by decide)).trans ((j_arr_stoT ((j_arr_stoT ((j_arr_put13 h1 (by decide)).trans h3) (by decide)).trans ((j_arr_put13 h1 (by decide)).trans h6)) (by decide)).trans ((j_arr_stoN h11).trans ((j_arr_put13 h1 (by decide)).trans h10)))) (h45 (by assumption) (by assumption) (by assumption) (by assumption) (by assumption)) rfl rfl ?_
            exact gs_iret hk_174 rfl (Or.inl rfl) rfl
        · rw [if_neg c20]
          by_cases c22 : j_cond 1 2 0 = true
          · rw [if_pos c22]
            refine gs_call (as := [.ref (r0 + 1), .int (if j_cond 2 p0 0 = true then 0 else (if j_cond 4 p0 (v0 - 1) = true then 0 else 1)), .int 1, .int 1]) (rest := []) hk_174 rfl (Or.inr (Or.inr (Or.inr ⟨Or.inl rfl, j_recv_of h0⟩))) rfl rfl rfl (Nat.not_lt.mpr (Nat.le_of_ble_eq_true rfl)) (j_evw (s_M_goes_146 h1) ((if_pos c19).trans ((if_neg c20).trans ((if_pos c22).trans (rfl))))) rfl ?_
            by_cases c23 : j_cond 1 0 0 = true
            · rw [if_pos c23]
              refine gs_ifT hk_174 rfl c23 ?_
              refine gs_aload hk_174 rfl rfl rfl ?_
              refine gs_get hk_174 rfl ((j_fld_putN (Or.inr (by decide))).trans h2) rfl ?_
              refine gs_iload hk_174 rfl rfl rfl ?_
              refine gs_iload hk_174 rfl rfl rfl ?_
              refine gs_ast hk_174 rfl ((j_arr_put13 h1 (by decide)).trans h3) (h46 (by assumption) (by assumption) (by assumption) (by assumption) (by assumption) (by assumption)) rfl rfl ?_
              refine gs_aload hk_174 rfl rfl rfl ?_
              refine gs_get hk_174 rfl ((j_fld_sto ((j_arr_put13 h1 (by decide)).trans h3) (by decide)).trans ((j_fld_putN (Or.inr (by decide))).trans h5)) rfl ?_
              refine gs_iload hk_174 rfl rfl rfl ?_
              refine gs_push (x := 1) hk_174 rfl (by decide) rfl ?_
              refine gs_ast hk_174 rfl ((j_arr_stoT ((j_arr_put13 h1 (by decide)).trans h3) (by decide)).trans ((j_arr_put13 h1 (by decide)).trans h6)) (h47 (by assumption) (by assumption) (by assumption) (by assumption) (by assumption) (by assumption)) rfl rfl ?_
              refine gs_aload hk_174 rfl rfl rfl ?_
              refine gs_push (x := 0) hk_174 rfl (by decide) rfl ?_
              refine gs_put hk_174 rfl ((j_fld_sto ((j_arr_stoT ((j_arr_put13 h1 (by decide)).trans h3) (by decide)).trans ((j_arr_put13 h1 (by decide)).trans h6)) (by decide)).trans ((j_fld_sto ((j_arr_put13 h1 (by decide)).trans h3) (by decide)).trans ((j_fld_putN (Or.inr (by decide))).trans h8))) (by decide) rfl rfl ?_
              refine gs_aload hk_174 rfl rfl rfl ?_
              refine gs_get hk_174 rfl ((j_fld_putN (Or.inr (by decide))).trans ((j_fld_sto ((j_arr_stoT ((j_arr_put13 h1 (by decide)).trans h3) (by decide)).trans ((j_arr_put13 h1 (by decide)).trans h6)) (by decide)).trans ((j_fld_sto ((j_arr_put13 h1 (by decide)).trans h3) (by decide)).trans ((j_fld_putN (Or.inr (by decide))).trans h9)))) rfl ?_
              refine gs_iload hk_174 rfl rfl rfl ?_
              refine gs_ald hk_174 rfl ((j_arr_put13 ((j_fld_sto ((j_arr_stoT ((j_arr_put13 h1 (by decide)).trans h3) (by decide)).trans ((j_arr_put13 h1 (by decide)).trans h6)) (by decide)).trans ((j_fld_sto ((j_arr_put13 h1 (by decide)).trans h3) (by decide)).trans ((j_fld_putN (Or.inr (by decide))).trans h8))) (by decide)).trans ((j_arr_stoT ((j_arr_stoT ((j_arr_put13 h1 (by decide)).trans h3) (by decide)).trans ((j_arr_put13 h1 (by decide)).trans h6)) (by decide)).trans ((j_arr_stoN h11).trans ((j_arr_put13 h1 (by decide)).trans h10)))) (h48 (by assumption) (by assumption) (by assumption) (by assumption) (by assumption) (by assumption)) rfl rfl ?_
              exact gs_iret hk_174 rfl (Or.inl rfl) rfl
            · rw [if_neg c23]
              refine gs_ifF hk_174 rfl (j_bf c23) rfl ?_
              refine gs_push (x := 0) hk_174 rfl (by decide) rfl ?_
              exact gs_iret hk_174 rfl (Or.inl rfl) rfl
          · rw [if_neg c22]
            refine gs_call (as := [.ref (r0 + 1), .int (if j_cond 2 p0 0 = true then 0 else (if j_cond 4 p0 (v0 - 1) = true then 0 else 1)), .int 1, .int 1]) (rest := []) hk_174 rfl (Or.inr (Or.inr (Or.inr ⟨Or.inl rfl, j_recv_of h0⟩))) rfl rfl rfl (Nat.not_lt.mpr (Nat.le_of_ble_eq_true rfl)) (j_evw (s_M_goes_146 h1) ((if_pos c19).trans ((if_neg c20).trans ((if_neg c22).trans (rfl))))) rfl ?_
            refine gs_ifF hk_174 rfl (j_bf (by assumption)) rfl ?_
            refine gs_push (x := 0) hk_174 rfl (by decide) rfl ?_
            exact gs_iret hk_174 rfl (Or.inl rfl) rfl
      · rw [if_neg c19]
        by_cases c24 : j_cond 1 1 0 = true
        · rw [if_pos c24]
          refine gs_call (as := [.ref (r0 + 1), .int (if j_cond 2 p0 0 = true then 0 else (if j_cond 4 p0 (v0 - 1) = true then 0 else 1)), .int 1, .int 1]) (rest := []) hk_174 rfl (Or.inr (Or.inr (Or.inr ⟨Or.inl rfl, j_recv_of h0⟩))) rfl rfl rfl (Nat.not_lt.mpr (Nat.le_of_ble_eq_true rfl)) (j_evw (s_M_goes_146 h1) ((if_neg c19).trans ((if_pos c24).trans (rfl)))) rfl ?_
          by_cases c25 : j_cond 1 0 0 = true
          · rw [if_pos c25]
            refine gs_ifT hk_174 rfl c25 ?_
            refine gs_aload hk_174 rfl rfl rfl ?_
            refine gs_get hk_174 rfl ((j_fld_putN (Or.inr (by decide))).trans h2) rfl ?_
            refine gs_iload hk_174 rfl rfl rfl ?_
            refine gs_iload hk_174 rfl rfl rfl ?_
            refine gs_ast hk_174 rfl ((j_arr_put13 h1 (by decide)).trans h3) (h49 (by assumption) (by assumption) (by assumption) (by assumption) (by assumption)) rfl rfl ?_
            refine gs_aload hk_174 rfl rfl rfl ?_
            refine gs_get hk_174 rfl ((j_fld_sto ((j_arr_put13 h1 (by decide)).trans h3) (by decide)).trans ((j_fld_putN (Or.inr (by decide))).trans h5)) rfl ?_
            refine gs_iload hk_174 rfl rfl rfl ?_
            refine gs_push (x := 1) hk_174 rfl (by decide) rfl ?_
            refine gs_ast hk_174 rfl ((j_arr_stoT ((j_arr_put13 h1 (by decide)).trans h3) (by decide)).trans ((j_arr_put13 h1 (by decide)).trans h6)) (h50 (by assumption) (by assumption) (by assumption) (by assumption) (by assumption)) rfl rfl ?_
            refine gs_aload hk_174 rfl rfl rfl ?_
            refine gs_push (x := 0) hk_174 rfl (by decide) rfl ?_
            refine gs_put hk_174 rfl ((j_fld_sto ((j_arr_stoT ((j_arr_put13 h1 (by decide)).trans h3) (by decide)).trans ((j_arr_put13 h1 (by decide)).trans h6)) (by decide)).trans ((j_fld_sto ((j_arr_put13 h1 (by decide)).trans h3) (by decide)).trans ((j_fld_putN (Or.inr (by decide))).trans h8))) (by decide) rfl rfl ?_
            refine gs_aload hk_174 rfl rfl rfl ?_
            refine gs_get hk_174 rfl ((j_fld_putN (Or.inr (by decide))).trans ((j_fld_sto ((j_arr_stoT ((j_arr_put13 h1 (by decide)).trans h3) (by decide)).trans ((j_arr_put13 h1 (by decide)).trans h6)) (by decide)).trans ((j_fld_sto ((j_arr_put13 h1 (by decide)).trans h3) (by decide)).trans ((j_fld_putN (Or.inr (by decide))).trans h9)))) rfl ?_
            refine gs_iload hk_174 rfl rfl rfl ?_
            refine gs_ald hk_174 rfl ((j_arr_put13 ((j_fld_sto ((j_arr_stoT ((j_arr_put13 h1 (by decide)).trans h3) (by decide)).trans ((j_arr_put13 h1 (by decide)).trans h6)) (by decide)).trans ((j_fld_sto ((j_arr_put13 h1 (by decide)).trans h3) (by decide)).trans ((j_fld_putN (Or.inr (by decide))).trans h8))) (by decide)).trans ((j_arr_stoT ((j_arr_stoT ((j_arr_put13 h1 (by decide)).trans h3) (by decide)).trans ((j_arr_put13 h1 (by decide)).trans h6)) (by decide)).trans ((j_arr_stoN h11).trans ((j_arr_put13 h1 (by decide)).trans h10)))) (h51 (by assumption) (by assumption) (by assumption) (by assumption) (by assumption)) rfl rfl ?_
            exact gs_iret hk_174 rfl (Or.inl rfl) rfl
          · rw [if_neg c25]
            refine gs_ifF hk_174 rfl (j_bf c25) rfl ?_
            refine gs_push (x := 0) hk_174 rfl (by decide) rfl ?_
            exact gs_iret hk_174 rfl (Or.inl rfl) rfl
        · rw [if_neg c24]
          refine gs_call (as := [.ref (r0 + 1), .int (if j_cond 2 p0 0 = true then 0 else (if j_cond 4 p0 (v0 - 1) = true then 0 else 1)), .int 1, .int 1]) (rest := []) hk_174 rfl (Or.inr (Or.inr (Or.inr ⟨Or.inl rfl, j_recv_of h0⟩))) rfl rfl rfl (Nat.not_lt.mpr (Nat.le_of_ble_eq_true rfl)) (j_evw (s_M_goes_146 h1) ((if_neg c19).trans ((if_neg c24).trans (rfl)))) rfl ?_
          refine gs_ifF hk_174 rfl (j_bf (by assumption)) rfl ?_
          refine gs_push (x := 0) hk_174 rfl (by decide) rfl ?_
          exact gs_iret hk_174 rfl (Or.inl rfl) rfl
theorem hk_178 : jP[178]? = some (jc_178, 2, [], []) := by rfl
theorem s_M_shows_178 {X : List Int32} {d : Nat} {m : jM} {r0 : Nat} {p0 : Int32} {v0 : Int32} {v1 : Int32} {v2 : Nat} {l3 : List Value} (h0 : j_fld m r0 12 48 = some (.int v0)) (h1 : j_fld m r0 12 79 = some (.int v1)) (h2 : j_fld m r0 12 52 = some (.ref (v2 + 1))) (h3 : j_arr m v2 50 = some l3) (h4 : j_cond 1 (if j_cond 2 p0 0 = true then 0 else (if j_cond 4 p0 (v0 - 1) = true then 0 else 1)) 0 = true → j_cond 1 1 0 = true → j_cond 1 0 0 = true → ¬ (j_cond 0 0 0 = true) → ¬ (p0 < 0 ∨ l3.length ≤ p0.toNatClampNeg)) (h5 : j_cond 1 (if j_cond 2 p0 0 = true then 0 else (if j_cond 4 p0 (v0 - 1) = true then 0 else 1)) 0 = true → j_cond 1 1 0 = true → ¬ (j_cond 1 0 0 = true) → ¬ (j_cond 0 1 0 = true) → ¬ (p0 < 0 ∨ l3.length ≤ p0.toNatClampNeg)) (h6 : j_cond 1 (if j_cond 2 p0 0 = true then 0 else (if j_cond 4 p0 (v0 - 1) = true then 0 else 1)) 0 = true → ¬ (j_cond 1 1 0 = true) → j_cond 1 2 0 = true → ¬ (j_cond 0 0 0 = true) → ¬ (p0 < 0 ∨ l3.length ≤ p0.toNatClampNeg)) (h7 : j_cond 1 (if j_cond 2 p0 0 = true then 0 else (if j_cond 4 p0 (v0 - 1) = true then 0 else 1)) 0 = true → ¬ (j_cond 1 1 0 = true) → ¬ (j_cond 1 2 0 = true) → ¬ (j_cond 0 1 0 = true) → ¬ (p0 < 0 ∨ l3.length ≤ p0.toNatClampNeg)) (h8 : ¬ (j_cond 1 (if j_cond 2 p0 0 = true then 0 else (if j_cond 4 p0 (v0 - 1) = true then 0 else 1)) 0 = true) → j_cond 1 1 0 = true → ¬ (j_cond 0 0 0 = true) → ¬ (p0 < 0 ∨ l3.length ≤ p0.toNatClampNeg)) (h9 : ¬ (j_cond 1 (if j_cond 2 p0 0 = true then 0 else (if j_cond 4 p0 (v0 - 1) = true then 0 else 1)) 0 = true) → ¬ (j_cond 1 1 0 = true) → ¬ (j_cond 0 1 0 = true) → ¬ (p0 < 0 ∨ l3.length ≤ p0.toNatClampNeg)) : j_Ev X (d + 2) 178 [.ref (r0 + 1), .int p0] m (if j_cond 1 (if j_cond 2 p0 0 = true then 0 else (if j_cond 4 p0 (v0 - 1) = true then 0 else 1)) 0 = true then (if j_cond 1 1 0 = true then (if j_cond 1 0 0 = true then (if j_cond 0 0 0 = true then (.inl (some (.int 0)), (j_put m r0 79 (.int 0))) else (.inl (some (.int (j_iv (l3.getD p0.toNatClampNeg .null)))), (j_put m r0 79 (.int 0)))) else (if j_cond 0 1 0 = true then (.inl (some (.int 0)), (j_put m r0 79 (.int 0))) else (.inl (some (.int (j_iv (l3.getD p0.toNatClampNeg .null)))), (j_put m r0 79 (.int 0))))) else (if j_cond 1 2 0 = true then (if j_cond 0 0 0 = true then (.inl (some (.int 0)), (j_put m r0 79 (.int 2))) else (.inl (some (.int (j_iv (l3.getD p0.toNatClampNeg .null)))), (j_put m r0 79 (.int 2)))) else (if j_cond 0 1 0 = true then (.inl (some (.int 0)), (j_put m r0 79 (.int 2))) else (.inl (some (.int (j_iv (l3.getD p0.toNatClampNeg .null)))), (j_put m r0 79 (.int 2)))))) else (if j_cond 1 1 0 = true then (if j_cond 0 0 0 = true then (.inl (some (.int 0)), (j_put m r0 79 (.int 1))) else (.inl (some (.int (j_iv (l3.getD p0.toNatClampNeg .null)))), (j_put m r0 79 (.int 1)))) else (if j_cond 0 1 0 = true then (.inl (some (.int 0)), (j_put m r0 79 (.int 1))) else (.inl (some (.int (j_iv (l3.getD p0.toNatClampNeg .null)))), (j_put m r0 79 (.int 1)))))) := by
  refine e_of hk_178 ?_
  refine gs_aload hk_178 rfl rfl rfl ?_
  refine gs_aload hk_178 rfl rfl rfl ?_
  refine gs_iload hk_178 rfl rfl rfl ?_
  refine gs_call (as := [.ref (r0 + 1), .int p0]) (rest := [.ref (r0 + 1)]) hk_178 rfl (Or.inr (Or.inr (Or.inr ⟨Or.inl rfl, j_recv_of h0⟩))) rfl rfl rfl (Nat.not_lt.mpr (Nat.le_of_ble_eq_true rfl)) (s_M_isWidget_172 h0) rfl ?_
  refine gs_push (x := 1) hk_178 rfl (by decide) rfl ?_
  refine gs_push (x := 1) hk_178 rfl (by decide) rfl ?_
  by_cases c1 : j_cond 1 (if j_cond 2 p0 0 = true then 0 else (if j_cond 4 p0 (v0 - 1) = true then 0 else 1)) 0 = true
  · rw [if_pos c1]
    by_cases c2 : j_cond 1 1 0 = true
    · rw [if_pos c2]
      by_cases c3 : j_cond 1 0 0 = true
      · rw [if_pos c3]
        refine gs_call (as := [.ref (r0 + 1), .int (if j_cond 2 p0 0 = true then 0 else (if j_cond 4 p0 (v0 - 1) = true then 0 else 1)), .int 1, .int 1]) (rest := []) hk_178 rfl (Or.inr (Or.inr (Or.inr ⟨Or.inl rfl, j_recv_of h0⟩))) rfl rfl rfl (Nat.not_lt.mpr (Nat.le_of_ble_eq_true rfl)) (j_evw (s_M_goes_146 h1) ((if_pos c1).trans ((if_pos c2).trans ((if_pos (by assumption : j_cond 1 1 0 = true)).trans ((if_pos c3).trans (rfl)))))) rfl ?_
        by_cases c4 : j_cond 0 0 0 = true
        · rw [if_pos c4]
          refine gs_ifT hk_178 rfl c4 ?_
          refine gs_push (x := 0) hk_178 rfl (by decide) rfl ?_
          exact gs_iret hk_178 rfl (Or.inl rfl) rfl
        · rw [if_neg c4]
          refine gs_ifF hk_178 rfl (j_bf c4) rfl ?_
          refine gs_aload hk_178 rfl rfl rfl ?_
          refine gs_get hk_178 rfl ((j_fld_putN (Or.inr (by decide))).trans h2) rfl ?_
          refine gs_iload hk_178 rfl rfl rfl ?_
          refine gs_ald hk_178 rfl ((j_arr_put13 h1 (by decide)).trans h3) (h4 (by assumption) (by assumption) (by assumption) (by assumption)) rfl rfl ?_
          refine gs_goto hk_178 rfl ?_
          exact gs_iret hk_178 rfl (Or.inl rfl) rfl
      · rw [if_neg c3]
        refine gs_call (as := [.ref (r0 + 1), .int (if j_cond 2 p0 0 = true then 0 else (if j_cond 4 p0 (v0 - 1) = true then 0 else 1)), .int 1, .int 1]) (rest := []) hk_178 rfl (Or.inr (Or.inr (Or.inr ⟨Or.inl rfl, j_recv_of h0⟩))) rfl rfl rfl (Nat.not_lt.mpr (Nat.le_of_ble_eq_true rfl)) (j_evw (s_M_goes_146 h1) ((if_pos c1).trans ((if_pos c2).trans ((if_pos (by assumption : j_cond 1 1 0 = true)).trans ((if_neg c3).trans (rfl)))))) rfl ?_
        by_cases c5 : j_cond 0 1 0 = true
        · rw [if_pos c5]
          refine gs_ifT hk_178 rfl c5 ?_
          refine gs_push (x := 0) hk_178 rfl (by decide) rfl ?_
          exact gs_iret hk_178 rfl (Or.inl rfl) rfl
        · rw [if_neg c5]
          refine gs_ifF hk_178 rfl (j_bf c5) rfl ?_
          refine gs_aload hk_178 rfl rfl rfl ?_
          refine gs_get hk_178 rfl ((j_fld_putN (Or.inr (by decide))).trans h2) rfl ?_
          refine gs_iload hk_178 rfl rfl rfl ?_
          refine gs_ald hk_178 rfl ((j_arr_put13 h1 (by decide)).trans h3) (h5 (by assumption) (by assumption) (by assumption) (by assumption)) rfl rfl ?_
          refine gs_goto hk_178 rfl ?_
          exact gs_iret hk_178 rfl (Or.inl rfl) rfl
    · rw [if_neg c2]
      by_cases c6 : j_cond 1 2 0 = true
      · rw [if_pos c6]
        refine gs_call (as := [.ref (r0 + 1), .int (if j_cond 2 p0 0 = true then 0 else (if j_cond 4 p0 (v0 - 1) = true then 0 else 1)), .int 1, .int 1]) (rest := []) hk_178 rfl (Or.inr (Or.inr (Or.inr ⟨Or.inl rfl, j_recv_of h0⟩))) rfl rfl rfl (Nat.not_lt.mpr (Nat.le_of_ble_eq_true rfl)) (j_evw (s_M_goes_146 h1) ((if_pos c1).trans ((if_neg c2).trans ((if_pos c6).trans (rfl))))) rfl ?_
        by_cases c7 : j_cond 0 0 0 = true
        · rw [if_pos c7]
          refine gs_ifT hk_178 rfl c7 ?_
          refine gs_push (x := 0) hk_178 rfl (by decide) rfl ?_
          exact gs_iret hk_178 rfl (Or.inl rfl) rfl
        · rw [if_neg c7]
          refine gs_ifF hk_178 rfl (j_bf c7) rfl ?_
          refine gs_aload hk_178 rfl rfl rfl ?_
          refine gs_get hk_178 rfl ((j_fld_putN (Or.inr (by decide))).trans h2) rfl ?_
          refine gs_iload hk_178 rfl rfl rfl ?_
          refine gs_ald hk_178 rfl ((j_arr_put13 h1 (by decide)).trans h3) (h6 (by assumption) (by assumption) (by assumption) (by assumption)) rfl rfl ?_
          refine gs_goto hk_178 rfl ?_
          exact gs_iret hk_178 rfl (Or.inl rfl) rfl
      · rw [if_neg c6]
        refine gs_call (as := [.ref (r0 + 1), .int (if j_cond 2 p0 0 = true then 0 else (if j_cond 4 p0 (v0 - 1) = true then 0 else 1)), .int 1, .int 1]) (rest := []) hk_178 rfl (Or.inr (Or.inr (Or.inr ⟨Or.inl rfl, j_recv_of h0⟩))) rfl rfl rfl (Nat.not_lt.mpr (Nat.le_of_ble_eq_true rfl)) (j_evw (s_M_goes_146 h1) ((if_pos c1).trans ((if_neg c2).trans ((if_neg c6).trans (rfl))))) rfl ?_
        by_cases c8 : j_cond 0 1 0 = true
        · rw [if_pos c8]
          refine gs_ifT hk_178 rfl c8 ?_
          refine gs_push (x := 0) hk_178 rfl (by decide) rfl ?_
          exact gs_iret hk_178 rfl (Or.inl rfl) rfl
        · rw [if_neg c8]
          refine gs_ifF hk_178 rfl (j_bf c8) rfl ?_
          refine gs_aload hk_178 rfl rfl rfl ?_
          refine gs_get hk_178 rfl ((j_fld_putN (Or.inr (by decide))).trans h2) rfl ?_
          refine gs_iload hk_178 rfl rfl rfl ?_
          refine gs_ald hk_178 rfl ((j_arr_put13 h1 (by decide)).trans h3) (h7 (by assumption) (by assumption) (by assumption) (by assumption)) rfl rfl ?_
          refine gs_goto hk_178 rfl ?_
          exact gs_iret hk_178 rfl (Or.inl rfl) rfl
  · rw [if_neg c1]
    by_cases c9 : j_cond 1 1 0 = true
    · rw [if_pos c9]
      refine gs_call (as := [.ref (r0 + 1), .int (if j_cond 2 p0 0 = true then 0 else (if j_cond 4 p0 (v0 - 1) = true then 0 else 1)), .int 1, .int 1]) (rest := []) hk_178 rfl (Or.inr (Or.inr (Or.inr ⟨Or.inl rfl, j_recv_of h0⟩))) rfl rfl rfl (Nat.not_lt.mpr (Nat.le_of_ble_eq_true rfl)) (j_evw (s_M_goes_146 h1) ((if_neg c1).trans ((if_pos c9).trans (rfl)))) rfl ?_
      by_cases c10 : j_cond 0 0 0 = true
      · rw [if_pos c10]
        refine gs_ifT hk_178 rfl c10 ?_
        refine gs_push (x := 0) hk_178 rfl (by decide) rfl ?_
        exact gs_iret hk_178 rfl (Or.inl rfl) rfl
      · rw [if_neg c10]
        refine gs_ifF hk_178 rfl (j_bf c10) rfl ?_
        refine gs_aload hk_178 rfl rfl rfl ?_
        refine gs_get hk_178 rfl ((j_fld_putN (Or.inr (by decide))).trans h2) rfl ?_
        refine gs_iload hk_178 rfl rfl rfl ?_
        refine gs_ald hk_178 rfl ((j_arr_put13 h1 (by decide)).trans h3) (h8 (by assumption) (by assumption) (by assumption)) rfl rfl ?_
        refine gs_goto hk_178 rfl ?_
        exact gs_iret hk_178 rfl (Or.inl rfl) rfl
    · rw [if_neg c9]
      refine gs_call (as := [.ref (r0 + 1), .int (if j_cond 2 p0 0 = true then 0 else (if j_cond 4 p0 (v0 - 1) = true then 0 else 1)), .int 1, .int 1]) (rest := []) hk_178 rfl (Or.inr (Or.inr (Or.inr ⟨Or.inl rfl, j_recv_of h0⟩))) rfl rfl rfl (Nat.not_lt.mpr (Nat.le_of_ble_eq_true rfl)) (j_evw (s_M_goes_146 h1) ((if_neg c1).trans ((if_neg c9).trans (rfl)))) rfl ?_
      by_cases c11 : j_cond 0 1 0 = true
      · rw [if_pos c11]
        refine gs_ifT hk_178 rfl c11 ?_
        refine gs_push (x := 0) hk_178 rfl (by decide) rfl ?_
        exact gs_iret hk_178 rfl (Or.inl rfl) rfl
      · rw [if_neg c11]
        refine gs_ifF hk_178 rfl (j_bf c11) rfl ?_
        refine gs_aload hk_178 rfl rfl rfl ?_
        refine gs_get hk_178 rfl ((j_fld_putN (Or.inr (by decide))).trans h2) rfl ?_
        refine gs_iload hk_178 rfl rfl rfl ?_
        refine gs_ald hk_178 rfl ((j_arr_put13 h1 (by decide)).trans h3) (h9 (by assumption) (by assumption) (by assumption)) rfl rfl ?_
        refine gs_goto hk_178 rfl ?_
        exact gs_iret hk_178 rfl (Or.inl rfl) rfl
theorem hk_195 : jP[195]? = some (jc_195, 3, [], []) := by rfl
theorem s_M_fails_195 {X : List Int32} {d : Nat} {m : jM} {r0 : Nat} {p0 : Int32} {p1 : Int32} {v0 : Int32} {v1 : Int32} (h0 : j_fld m r0 12 75 = some (.int v0)) (h1 : j_fld m r0 12 76 = some (.int v1)) : j_Ev X (d) 195 [.ref (r0 + 1), .int p0, .int p1] m (if j_cond 1 v0 0 = true then (if j_cond 1 v0 p0 = true then (.inl none, (j_put (j_put m r0 75 (.int v0)) r0 76 (.int v1))) else (if j_cond 3 v1 0 = true then (.inl none, (j_put (j_put m r0 75 (.int v0)) r0 76 (.int v1))) else (.inl none, (j_put (j_put m r0 75 (.int v0)) r0 76 (.int p1))))) else (if j_cond 1 p0 p0 = true then (.inl none, (j_put (j_put m r0 75 (.int p0)) r0 76 (.int v1))) else (if j_cond 3 v1 0 = true then (.inl none, (j_put (j_put m r0 75 (.int p0)) r0 76 (.int v1))) else (.inl none, (j_put (j_put m r0 75 (.int p0)) r0 76 (.int p1)))))) := by
  refine e_of hk_195 ?_
  refine gs_aload hk_195 rfl rfl rfl ?_
  refine gs_aload hk_195 rfl rfl rfl ?_
  refine gs_get hk_195 rfl h0 rfl ?_
  by_cases c1 : j_cond 1 v0 0 = true
  · rw [if_pos c1]
    refine gs_ifT hk_195 rfl c1 ?_
    refine gs_aload hk_195 rfl rfl rfl ?_
    refine gs_get hk_195 rfl h0 rfl ?_
    refine gs_put hk_195 rfl h0 rfl rfl rfl ?_
    refine gs_aload hk_195 rfl rfl rfl ?_
    refine gs_aload hk_195 rfl rfl rfl ?_
    refine gs_get hk_195 rfl (j_fld_put h0) rfl ?_
    refine gs_iload hk_195 rfl rfl rfl ?_
    by_cases c2 : j_cond 1 v0 p0 = true
    · rw [if_pos c2]
      refine gs_icT hk_195 rfl c2 ?_
      refine gs_aload hk_195 rfl rfl rfl ?_
      refine gs_get hk_195 rfl ((j_fld_putN (Or.inr (by decide))).trans h1) rfl ?_
      refine gs_put hk_195 rfl ((j_fld_putN (Or.inr (by decide))).trans h1) rfl rfl rfl ?_
      exact gs_ret hk_195 rfl rfl
    · rw [if_neg c2]
      refine gs_icF hk_195 rfl (j_bf c2) rfl ?_
      refine gs_aload hk_195 rfl rfl rfl ?_
      refine gs_get hk_195 rfl ((j_fld_putN (Or.inr (by decide))).trans h1) rfl ?_
      by_cases c3 : j_cond 3 v1 0 = true
      · rw [if_pos c3]
        refine gs_ifT hk_195 rfl c3 ?_
        refine gs_aload hk_195 rfl rfl rfl ?_
        refine gs_get hk_195 rfl ((j_fld_putN (Or.inr (by decide))).trans h1) rfl ?_
        refine gs_put hk_195 rfl ((j_fld_putN (Or.inr (by decide))).trans h1) rfl rfl rfl ?_
        exact gs_ret hk_195 rfl rfl
      · rw [if_neg c3]
        refine gs_ifF hk_195 rfl (j_bf c3) rfl ?_
        refine gs_iload hk_195 rfl rfl rfl ?_
        refine gs_goto hk_195 rfl ?_
        refine gs_put hk_195 rfl ((j_fld_putN (Or.inr (by decide))).trans h1) rfl rfl rfl ?_
        exact gs_ret hk_195 rfl rfl
  · rw [if_neg c1]
    refine gs_ifF hk_195 rfl (j_bf c1) rfl ?_
    refine gs_iload hk_195 rfl rfl rfl ?_
    refine gs_goto hk_195 rfl ?_
    refine gs_put hk_195 rfl h0 rfl rfl rfl ?_
    refine gs_aload hk_195 rfl rfl rfl ?_
    refine gs_aload hk_195 rfl rfl rfl ?_
    refine gs_get hk_195 rfl (j_fld_put h0) rfl ?_
    refine gs_iload hk_195 rfl rfl rfl ?_
    by_cases c4 : j_cond 1 p0 p0 = true
    · rw [if_pos c4]
      refine gs_icT hk_195 rfl c4 ?_
      refine gs_aload hk_195 rfl rfl rfl ?_
      refine gs_get hk_195 rfl ((j_fld_putN (Or.inr (by decide))).trans h1) rfl ?_
      refine gs_put hk_195 rfl ((j_fld_putN (Or.inr (by decide))).trans h1) rfl rfl rfl ?_
      exact gs_ret hk_195 rfl rfl
    · rw [if_neg c4]
      refine gs_icF hk_195 rfl (j_bf c4) rfl ?_
      refine gs_aload hk_195 rfl rfl rfl ?_
      refine gs_get hk_195 rfl ((j_fld_putN (Or.inr (by decide))).trans h1) rfl ?_
      by_cases c5 : j_cond 3 v1 0 = true
      · rw [if_pos c5]
        refine gs_ifT hk_195 rfl c5 ?_
        refine gs_aload hk_195 rfl rfl rfl ?_
        refine gs_get hk_195 rfl ((j_fld_putN (Or.inr (by decide))).trans h1) rfl ?_
        refine gs_put hk_195 rfl ((j_fld_putN (Or.inr (by decide))).trans h1) rfl rfl rfl ?_
        exact gs_ret hk_195 rfl rfl
      · rw [if_neg c5]
        refine gs_ifF hk_195 rfl (j_bf c5) rfl ?_
        refine gs_iload hk_195 rfl rfl rfl ?_
        refine gs_goto hk_195 rfl ?_
        refine gs_put hk_195 rfl ((j_fld_putN (Or.inr (by decide))).trans h1) rfl rfl rfl ?_
        exact gs_ret hk_195 rfl rfl
theorem hk_196 : jP[196]? = some (jc_196, 2, [], []) := by rfl
theorem s_M_pushes_196 {X : List Int32} {d : Nat} {m : jM} {r0 : Nat} {p0 : Int32} {v0 : Nat} {v1 : Int32} {l2 : List Value} (h0 : j_fld m r0 12 71 = some (.ref (v0 + 1))) (h1 : j_fld m r0 12 72 = some (.int v1)) (h2 : j_arr m v0 50 = some l2) (h3 : ¬ ((9 * v1) < 0 ∨ l2.length ≤ (9 * v1).toNatClampNeg)) (h4 : ¬ (((9 * v1) + 1) < 0 ∨ l2.length ≤ ((9 * v1) + 1).toNatClampNeg)) : j_Ev X (d) 196 [.ref (r0 + 1), .int p0] m (.inl none, (j_put (j_sto (j_sto m v0 (9 * v1).toNatClampNeg (.int (j_nar 50 (-1)))) v0 ((9 * v1) + 1).toNatClampNeg (.int (j_nar 50 p0))) r0 72 (.int (v1 + 1)))) := by
  refine e_of hk_196 ?_
  refine gs_aload hk_196 rfl rfl rfl ?_
  refine gs_get hk_196 rfl h0 rfl ?_
  refine gs_push (x := 9) hk_196 rfl (by decide) rfl ?_
  refine gs_aload hk_196 rfl rfl rfl ?_
  refine gs_get hk_196 rfl h1 rfl ?_
  refine gs_bin (z := (9 * v1)) hk_196 rfl rfl rfl ?_
  refine gs_push (x := (-1)) hk_196 rfl (by decide) rfl ?_
  refine gs_ast hk_196 rfl h2 (h3) rfl rfl ?_
  refine gs_aload hk_196 rfl rfl rfl ?_
  refine gs_get hk_196 rfl ((j_fld_sto h2 (by decide)).trans h0) rfl ?_
  refine gs_push (x := 9) hk_196 rfl (by decide) rfl ?_
  refine gs_aload hk_196 rfl rfl rfl ?_
  refine gs_get hk_196 rfl ((j_fld_sto h2 (by decide)).trans h1) rfl ?_
  refine gs_bin (z := (9 * v1)) hk_196 rfl rfl rfl ?_
  refine gs_push (x := 1) hk_196 rfl (by decide) rfl ?_
  refine gs_bin (z := ((9 * v1) + 1)) hk_196 rfl rfl rfl ?_
  refine gs_iload hk_196 rfl rfl rfl ?_
  refine gs_ast hk_196 rfl (j_arr_sto h2) (by simp only [List.length_set]; exact (h4)) rfl rfl ?_
  refine gs_aload hk_196 rfl rfl rfl ?_
  refine gs_dup hk_196 rfl rfl rfl ?_
  refine gs_get hk_196 rfl ((j_fld_sto (j_arr_sto h2) (by decide)).trans ((j_fld_sto h2 (by decide)).trans h1)) rfl ?_
  refine gs_push (x := 1) hk_196 rfl (by decide) rfl ?_
  refine gs_bin (z := (v1 + 1)) hk_196 rfl rfl rfl ?_
  refine gs_put hk_196 rfl ((j_fld_sto (j_arr_sto h2) (by decide)).trans ((j_fld_sto h2 (by decide)).trans h1)) rfl rfl rfl ?_
  exact gs_ret hk_196 rfl rfl
theorem hk_200 : jP[200]? = some (jc_200, 4, [], []) := by rfl
theorem s_M_does1_200 {X : List Int32} {d : Nat} {m : jM} {r0 : Nat} {v0 : Int32} {v1 : Nat} {l2 : List Value} {v4 : Int32} {v5 : Nat} {l6 : List Value} {v8 : Int32} {v9 : Int32} {v10 : Int32} (h0 : j_fld m r0 12 70 = some (.int v0)) (h1 : j_fld m r0 12 68 = some (.ref (v1 + 1))) (h2 : j_arr m v1 50 = some l2) (h3 : ¬ ((v0 - 1) < 0 ∨ l2.length ≤ (v0 - 1).toNatClampNeg)) (h4 : j_fld m r0 12 72 = some (.int v4)) (h5 : j_fld m r0 12 71 = some (.ref (v5 + 1))) (h6 : j_arr m v5 50 = some l6) (h7 : j_cond 1 (j_iv (l2.getD (v0 - 1).toNatClampNeg .null)) 35 = true → ¬ ((9 * (v4 - 1)) < 0 ∨ l6.length ≤ (9 * (v4 - 1)).toNatClampNeg)) (h8 : j_fld m r0 12 80 = some (.int v8)) (h9 : j_fld m r0 12 75 = some (.int v9)) (h10 : j_fld m r0 12 76 = some (.int v10)) (h11 : j_cond 1 (j_iv (l2.getD (v0 - 1).toNatClampNeg .null)) 35 = true → ¬ (j_cond 0 (if j_cond 1 (j_iv (l6.getD (9 * (v4 - 1)).toNatClampNeg .null)) (-1) = true then 0 else 1) 0 = true) → ¬ ((9 * (v4 - 2)) < 0 ∨ l6.length ≤ (9 * (v4 - 2)).toNatClampNeg)) (h12 : j_cond 1 (j_iv (l2.getD (v0 - 1).toNatClampNeg .null)) 35 = true → ¬ (j_cond 0 (if j_cond 1 (j_iv (l6.getD (9 * (v4 - 1)).toNatClampNeg .null)) (-1) = true then 0 else 1) 0 = true) → j_cond 1 (if j_cond 1 (j_iv (l6.getD (9 * (v4 - 2)).toNatClampNeg .null)) (-1) = true then 0 else 1) 0 = true → ¬ (((9 * (v4 - 2)) + 1) < 0 ∨ l6.length ≤ ((9 * (v4 - 2)) + 1).toNatClampNeg)) (h13 : j_cond 1 (j_iv (l2.getD (v0 - 1).toNatClampNeg .null)) 35 = true → ¬ (j_cond 0 (if j_cond 1 (j_iv (l6.getD (9 * (v4 - 1)).toNatClampNeg .null)) (-1) = true then 0 else 1) 0 = true) → j_cond 1 (if j_cond 1 (j_iv (l6.getD (9 * (v4 - 2)).toNatClampNeg .null)) (-1) = true then 0 else 1) 0 = true → ¬ (((9 * (v4 - 1)) + 1) < 0 ∨ l6.length ≤ ((9 * (v4 - 1)) + 1).toNatClampNeg)) (h14 : j_cond 1 (j_iv (l2.getD (v0 - 1).toNatClampNeg .null)) 35 = true → ¬ (j_cond 0 (if j_cond 1 (j_iv (l6.getD (9 * (v4 - 1)).toNatClampNeg .null)) (-1) = true then 0 else 1) 0 = true) → j_cond 1 (if j_cond 1 (j_iv (l6.getD (9 * (v4 - 2)).toNatClampNeg .null)) (-1) = true then 0 else 1) 0 = true → j_cond 1 (j_iv (l2.getD (v0 - 1).toNatClampNeg .null)) 43 = true → j_cond 1 (j_iv (l2.getD (v0 - 1).toNatClampNeg .null)) 45 = true → ¬ (((9 * ((v4 - 1) - 1)) + 1) < 0 ∨ l6.length ≤ ((9 * ((v4 - 1) - 1)) + 1).toNatClampNeg)) (h15 : j_cond 1 (j_iv (l2.getD (v0 - 1).toNatClampNeg .null)) 35 = true → ¬ (j_cond 0 (if j_cond 1 (j_iv (l6.getD (9 * (v4 - 1)).toNatClampNeg .null)) (-1) = true then 0 else 1) 0 = true) → j_cond 1 (if j_cond 1 (j_iv (l6.getD (9 * (v4 - 2)).toNatClampNeg .null)) (-1) = true then 0 else 1) 0 = true → j_cond 1 (j_iv (l2.getD (v0 - 1).toNatClampNeg .null)) 43 = true → ¬ (j_cond 1 (j_iv (l2.getD (v0 - 1).toNatClampNeg .null)) 45 = true) → ¬ (((9 * ((v4 - 1) - 1)) + 1) < 0 ∨ l6.length ≤ ((9 * ((v4 - 1) - 1)) + 1).toNatClampNeg)) (h16 : j_cond 1 (j_iv (l2.getD (v0 - 1).toNatClampNeg .null)) 35 = true → ¬ (j_cond 0 (if j_cond 1 (j_iv (l6.getD (9 * (v4 - 1)).toNatClampNeg .null)) (-1) = true then 0 else 1) 0 = true) → j_cond 1 (if j_cond 1 (j_iv (l6.getD (9 * (v4 - 2)).toNatClampNeg .null)) (-1) = true then 0 else 1) 0 = true → ¬ (j_cond 1 (j_iv (l2.getD (v0 - 1).toNatClampNeg .null)) 43 = true) → ¬ (((9 * ((v4 - 1) - 1)) + 1) < 0 ∨ l6.length ≤ ((9 * ((v4 - 1) - 1)) + 1).toNatClampNeg)) (h17 : ¬ (j_cond 1 (j_iv (l2.getD (v0 - 1).toNatClampNeg .null)) 35 = true) → ¬ ((9 * (v4 - 1)) < 0 ∨ l6.length ≤ (9 * (v4 - 1)).toNatClampNeg)) (h18 : ¬ (j_cond 1 (j_iv (l2.getD (v0 - 1).toNatClampNeg .null)) 35 = true) → j_cond 0 (if j_cond 1 (j_iv (l6.getD (9 * (v4 - 1)).toNatClampNeg .null)) (-1) = true then 0 else 1) 0 = true → ¬ ((9 * (v4 - 1)) < 0 ∨ l6.length ≤ (9 * (v4 - 1)).toNatClampNeg)) (h19 : ¬ (j_cond 1 (j_iv (l2.getD (v0 - 1).toNatClampNeg .null)) 35 = true) → j_cond 0 (if j_cond 1 (j_iv (l6.getD (9 * (v4 - 1)).toNatClampNeg .null)) (-1) = true then 0 else 1) 0 = true → ¬ (((9 * (v4 - 1)) + 1) < 0 ∨ l6.length ≤ ((9 * (v4 - 1)) + 1).toNatClampNeg)) : j_Ev X (d + 1) 200 [.ref (r0 + 1)] m (if j_cond 1 (j_iv (l2.getD (v0 - 1).toNatClampNeg .null)) 35 = true then (if j_cond 0 (if j_cond 1 (j_iv (l6.getD (9 * (v4 - 1)).toNatClampNeg .null)) (-1) = true then 0 else 1) 0 = true then (if j_cond 1 v9 0 = true then (if j_cond 1 v9 2 = true then (.inl none, (j_put (j_put (j_put m r0 70 (.int (v0 - 1))) r0 75 (.int v9)) r0 76 (.int v10))) else (if j_cond 3 v10 0 = true then (.inl none, (j_put (j_put (j_put m r0 70 (.int (v0 - 1))) r0 75 (.int v9)) r0 76 (.int v10))) else (.inl none, (j_put (j_put (j_put m r0 70 (.int (v0 - 1))) r0 75 (.int v9)) r0 76 (.int v8))))) else (if j_cond 1 2 2 = true then (.inl none, (j_put (j_put (j_put m r0 70 (.int (v0 - 1))) r0 75 (.int 2)) r0 76 (.int v10))) else (if j_cond 3 v10 0 = true then (.inl none, (j_put (j_put (j_put m r0 70 (.int (v0 - 1))) r0 75 (.int 2)) r0 76 (.int v10))) else (.inl none, (j_put (j_put (j_put m r0 70 (.int (v0 - 1))) r0 75 (.int 2)) r0 76 (.int v8)))))) else (if j_cond 1 (if j_cond 1 (j_iv (l6.getD (9 * (v4 - 2)).toNatClampNeg .null)) (-1) = true then 0 else 1) 0 = true then (if j_cond 1 (j_iv (l2.getD (v0 - 1).toNatClampNeg .null)) 43 = true then (if j_cond 1 (j_iv (l2.getD (v0 - 1).toNatClampNeg .null)) 45 = true then (.inl none, (j_sto (j_put (j_put m r0 70 (.int (v0 - 1))) r0 72 (.int (v4 - 1))) v5 ((9 * ((v4 - 1) - 1)) + 1).toNatClampNeg (.int (j_nar 50 ((j_iv (l6.getD ((9 * (v4 - 2)) + 1).toNatClampNeg .null)) * (j_iv (l6.getD ((9 * (v4 - 1)) + 1).toNatClampNeg .null))))))) else (.inl none, (j_sto (j_put (j_put m r0 70 (.int (v0 - 1))) r0 72 (.int (v4 - 1))) v5 ((9 * ((v4 - 1) - 1)) + 1).toNatClampNeg (.int (j_nar 50 ((j_iv (l6.getD ((9 * (v4 - 2)) + 1).toNatClampNeg .null)) - (j_iv (l6.getD ((9 * (v4 - 1)) + 1).toNatClampNeg .null)))))))) else (.inl none, (j_sto (j_put (j_put m r0 70 (.int (v0 - 1))) r0 72 (.int (v4 - 1))) v5 ((9 * ((v4 - 1) - 1)) + 1).toNatClampNeg (.int (j_nar 50 ((j_iv (l6.getD ((9 * (v4 - 2)) + 1).toNatClampNeg .null)) + (j_iv (l6.getD ((9 * (v4 - 1)) + 1).toNatClampNeg .null)))))))) else (if j_cond 1 v9 0 = true then (if j_cond 1 v9 2 = true then (.inl none, (j_put (j_put (j_put m r0 70 (.int (v0 - 1))) r0 75 (.int v9)) r0 76 (.int v10))) else (if j_cond 3 v10 0 = true then (.inl none, (j_put (j_put (j_put m r0 70 (.int (v0 - 1))) r0 75 (.int v9)) r0 76 (.int v10))) else (.inl none, (j_put (j_put (j_put m r0 70 (.int (v0 - 1))) r0 75 (.int v9)) r0 76 (.int v8))))) else (if j_cond 1 2 2 = true then (.inl none, (j_put (j_put (j_put m r0 70 (.int (v0 - 1))) r0 75 (.int 2)) r0 76 (.int v10))) else (if j_cond 3 v10 0 = true then (.inl none, (j_put (j_put (j_put m r0 70 (.int (v0 - 1))) r0 75 (.int 2)) r0 76 (.int v10))) else (.inl none, (j_put (j_put (j_put m r0 70 (.int (v0 - 1))) r0 75 (.int 2)) r0 76 (.int v8)))))))) else (if j_cond 0 (if j_cond 1 (j_iv (l6.getD (9 * (v4 - 1)).toNatClampNeg .null)) (-1) = true then 0 else 1) 0 = true then (.inl none, (j_sto (j_sto (j_put m r0 70 (.int (v0 - 1))) v5 ((9 * (v4 - 1)) + 1).toNatClampNeg (.int (j_nar 50 (j_iv (l6.getD (9 * (v4 - 1)).toNatClampNeg .null))))) v5 (9 * (v4 - 1)).toNatClampNeg (.int (j_nar 50 (-1))))) else (if j_cond 1 v9 0 = true then (if j_cond 1 v9 2 = true then (.inl none, (j_put (j_put (j_put m r0 70 (.int (v0 - 1))) r0 75 (.int v9)) r0 76 (.int v10))) else (if j_cond 3 v10 0 = true then (.inl none, (j_put (j_put (j_put m r0 70 (.int (v0 - 1))) r0 75 (.int v9)) r0 76 (.int v10))) else (.inl none, (j_put (j_put (j_put m r0 70 (.int (v0 - 1))) r0 75 (.int v9)) r0 76 (.int v8))))) else (if j_cond 1 2 2 = true then (.inl none, (j_put (j_put (j_put m r0 70 (.int (v0 - 1))) r0 75 (.int 2)) r0 76 (.int v10))) else (if j_cond 3 v10 0 = true then (.inl none, (j_put (j_put (j_put m r0 70 (.int (v0 - 1))) r0 75 (.int 2)) r0 76 (.int v10))) else (.inl none, (j_put (j_put (j_put m r0 70 (.int (v0 - 1))) r0 75 (.int 2)) r0 76 (.int v8)))))))) := by
  refine e_of hk_200 ?_
  refine gs_aload hk_200 rfl rfl rfl ?_
  refine gs_dup hk_200 rfl rfl rfl ?_
  refine gs_get hk_200 rfl h0 rfl ?_
  refine gs_push (x := 1) hk_200 rfl (by decide) rfl ?_
  refine gs_bin (z := (v0 - 1)) hk_200 rfl rfl rfl ?_
  refine gs_put hk_200 rfl h0 rfl rfl rfl ?_
  refine gs_aload hk_200 rfl rfl rfl ?_
  refine gs_get hk_200 rfl ((j_fld_putN (Or.inr (by decide))).trans h1) rfl ?_
  refine gs_aload hk_200 rfl rfl rfl ?_
  refine gs_get hk_200 rfl (j_fld_put h0) rfl ?_
  refine gs_ald hk_200 rfl ((j_arr_put13 h0 (by decide)).trans h2) (h3) rfl rfl ?_
  refine gs_istore hk_200 rfl (Nat.le_of_ble_eq_true rfl) rfl rfl ?_
  refine gs_iload hk_200 rfl rfl rfl ?_
  refine gs_push (x := 35) hk_200 rfl (by decide) rfl ?_
  by_cases c1 : j_cond 1 (j_iv (l2.getD (v0 - 1).toNatClampNeg .null)) 35 = true
  · rw [if_pos c1]
    refine gs_icT hk_200 rfl c1 ?_
    refine gs_aload hk_200 rfl rfl rfl ?_
    refine gs_aload hk_200 rfl rfl rfl ?_
    refine gs_get hk_200 rfl ((j_fld_putN (Or.inr (by decide))).trans h4) rfl ?_
    refine gs_push (x := 1) hk_200 rfl (by decide) rfl ?_
    refine gs_bin (z := (v4 - 1)) hk_200 rfl rfl rfl ?_
    refine gs_call (as := [.ref (r0 + 1), .int (v4 - 1)]) (rest := []) hk_200 rfl (Or.inr (Or.inr (Or.inr ⟨Or.inl rfl, j_recv_of (j_fld_put h0)⟩))) rfl rfl rfl (Nat.not_lt.mpr (Nat.le_of_ble_eq_true rfl)) (s_M_isNumber_199 ((j_fld_putN (Or.inr (by decide))).trans h5) ((j_arr_put13 h0 (by decide)).trans h6) (h7 (by assumption))) rfl ?_
    by_cases c2 : j_cond 0 (if j_cond 1 (j_iv (l6.getD (9 * (v4 - 1)).toNatClampNeg .null)) (-1) = true then 0 else 1) 0 = true
    · rw [if_pos c2]
      refine gs_ifT hk_200 rfl c2 ?_
      refine gs_aload hk_200 rfl rfl rfl ?_
      refine gs_push (x := 2) hk_200 rfl (by decide) rfl ?_
      refine gs_aload hk_200 rfl rfl rfl ?_
      refine gs_get hk_200 rfl ((j_fld_putN (Or.inr (by decide))).trans h8) rfl ?_
      by_cases c3 : j_cond 1 v9 0 = true
      · rw [if_pos c3]
        by_cases c4 : j_cond 1 v9 2 = true
        · rw [if_pos c4]
          refine gs_call (as := [.ref (r0 + 1), .int 2, .int v8]) (rest := []) hk_200 rfl (Or.inr (Or.inr (Or.inr ⟨Or.inl rfl, j_recv_of (j_fld_put h0)⟩))) rfl rfl rfl (Nat.not_lt.mpr (Nat.le_of_ble_eq_true rfl)) (j_evw (s_M_fails_195 ((j_fld_putN (Or.inr (by decide))).trans h9) ((j_fld_putN (Or.inr (by decide))).trans h10)) ((if_pos c3).trans ((if_pos c4).trans (rfl)))) rfl ?_
          exact gs_ret hk_200 rfl rfl
        · rw [if_neg c4]
          by_cases c5 : j_cond 3 v10 0 = true
          · rw [if_pos c5]
            refine gs_call (as := [.ref (r0 + 1), .int 2, .int v8]) (rest := []) hk_200 rfl (Or.inr (Or.inr (Or.inr ⟨Or.inl rfl, j_recv_of (j_fld_put h0)⟩))) rfl rfl rfl (Nat.not_lt.mpr (Nat.le_of_ble_eq_true rfl)) (j_evw (s_M_fails_195 ((j_fld_putN (Or.inr (by decide))).trans h9) ((j_fld_putN (Or.inr (by decide))).trans h10)) ((if_pos c3).trans ((if_neg c4).trans ((if_pos c5).trans (rfl))))) rfl ?_
            exact gs_ret hk_200 rfl rfl
          · rw [if_neg c5]
            refine gs_call (as := [.ref (r0 + 1), .int 2, .int v8]) (rest := []) hk_200 rfl (Or.inr (Or.inr (Or.inr ⟨Or.inl rfl, j_recv_of (j_fld_put h0)⟩))) rfl rfl rfl (Nat.not_lt.mpr (Nat.le_of_ble_eq_true rfl)) (j_evw (s_M_fails_195 ((j_fld_putN (Or.inr (by decide))).trans h9) ((j_fld_putN (Or.inr (by decide))).trans h10)) ((if_pos c3).trans ((if_neg c4).trans ((if_neg c5).trans (rfl))))) rfl ?_
            exact gs_ret hk_200 rfl rfl
      · rw [if_neg c3]
        by_cases c6 : j_cond 1 2 2 = true
        · rw [if_pos c6]
          refine gs_call (as := [.ref (r0 + 1), .int 2, .int v8]) (rest := []) hk_200 rfl (Or.inr (Or.inr (Or.inr ⟨Or.inl rfl, j_recv_of (j_fld_put h0)⟩))) rfl rfl rfl (Nat.not_lt.mpr (Nat.le_of_ble_eq_true rfl)) (j_evw (s_M_fails_195 ((j_fld_putN (Or.inr (by decide))).trans h9) ((j_fld_putN (Or.inr (by decide))).trans h10)) ((if_neg c3).trans ((if_pos c6).trans (rfl)))) rfl ?_
          exact gs_ret hk_200 rfl rfl
        · rw [if_neg c6]
          by_cases c7 : j_cond 3 v10 0 = true
          · rw [if_pos c7]
            refine gs_call (as := [.ref (r0 + 1), .int 2, .int v8]) (rest := []) hk_200 rfl (Or.inr (Or.inr (Or.inr ⟨Or.inl rfl, j_recv_of (j_fld_put h0)⟩))) rfl rfl rfl (Nat.not_lt.mpr (Nat.le_of_ble_eq_true rfl)) (j_evw (s_M_fails_195 ((j_fld_putN (Or.inr (by decide))).trans h9) ((j_fld_putN (Or.inr (by decide))).trans h10)) ((if_neg c3).trans ((if_neg c6).trans ((if_pos c7).trans (rfl))))) rfl ?_
            exact gs_ret hk_200 rfl rfl
          · rw [if_neg c7]
            refine gs_call (as := [.ref (r0 + 1), .int 2, .int v8]) (rest := []) hk_200 rfl (Or.inr (Or.inr (Or.inr ⟨Or.inl rfl, j_recv_of (j_fld_put h0)⟩))) rfl rfl rfl (Nat.not_lt.mpr (Nat.le_of_ble_eq_true rfl)) (j_evw (s_M_fails_195 ((j_fld_putN (Or.inr (by decide))).trans h9) ((j_fld_putN (Or.inr (by decide))).trans h10)) ((if_neg c3).trans ((if_neg c6).trans ((if_neg c7).trans (rfl))))) rfl ?_
            exact gs_ret hk_200 rfl rfl
    · rw [if_neg c2]
      refine gs_ifF hk_200 rfl (j_bf c2) rfl ?_
      refine gs_aload hk_200 rfl rfl rfl ?_
      refine gs_aload hk_200 rfl rfl rfl ?_
      refine gs_get hk_200 rfl ((j_fld_putN (Or.inr (by decide))).trans h4) rfl ?_
      refine gs_push (x := 2) hk_200 rfl (by decide) rfl ?_
      refine gs_bin (z := (v4 - 2)) hk_200 rfl rfl rfl ?_
      refine gs_call (as := [.ref (r0 + 1), .int (v4 - 2)]) (rest := []) hk_200 rfl (Or.inr (Or.inr (Or.inr ⟨Or.inl rfl, j_recv_of (j_fld_put h0)⟩))) rfl rfl rfl (Nat.not_lt.mpr (Nat.le_of_ble_eq_true rfl)) (s_M_isNumber_199 ((j_fld_putN (Or.inr (by decide))).trans h5) ((j_arr_put13 h0 (by decide)).trans h6) (h11 (by assumption) (by assumption))) rfl ?_
      by_cases c8 : j_cond 1 (if j_cond 1 (j_iv (l6.getD (9 * (v4 - 2)).toNatClampNeg .null)) (-1) = true then 0 else 1) 0 = true
      · rw [if_pos c8]
        refine gs_ifT hk_200 rfl c8 ?_
        refine gs_aload hk_200 rfl rfl rfl ?_
        refine gs_get hk_200 rfl ((j_fld_putN (Or.inr (by decide))).trans h5) rfl ?_
        refine gs_push (x := 9) hk_200 rfl (by decide) rfl ?_
        refine gs_aload hk_200 rfl rfl rfl ?_
        refine gs_get hk_200 rfl ((j_fld_putN (Or.inr (by decide))).trans h4) rfl ?_
        refine gs_push (x := 2) hk_200 rfl (by decide) rfl ?_
        refine gs_bin (z := (v4 - 2)) hk_200 rfl rfl rfl ?_
        refine gs_bin (z := (9 * (v4 - 2))) hk_200 rfl rfl rfl ?_
        refine gs_push (x := 1) hk_200 rfl (by decide) rfl ?_
        refine gs_bin (z := ((9 * (v4 - 2)) + 1)) hk_200 rfl rfl rfl ?_
        refine gs_ald hk_200 rfl ((j_arr_put13 h0 (by decide)).trans h6) (h12 (by assumption) (by assumption) (by assumption)) rfl rfl ?_
        refine gs_istore hk_200 rfl (Nat.le_of_ble_eq_true rfl) rfl rfl ?_
        refine gs_aload hk_200 rfl rfl rfl ?_
        refine gs_get hk_200 rfl ((j_fld_putN (Or.inr (by decide))).trans h5) rfl ?_
        refine gs_push (x := 9) hk_200 rfl (by decide) rfl ?_
        refine gs_aload hk_200 rfl rfl rfl ?_
        refine gs_get hk_200 rfl ((j_fld_putN (Or.inr (by decide))).trans h4) rfl ?_
        refine gs_push (x := 1) hk_200 rfl (by decide) rfl ?_
        refine gs_bin (z := (v4 - 1)) hk_200 rfl rfl rfl ?_
        refine gs_bin (z := (9 * (v4 - 1))) hk_200 rfl rfl rfl ?_
        refine gs_push (x := 1) hk_200 rfl (by decide) rfl ?_
        refine gs_bin (z := ((9 * (v4 - 1)) + 1)) hk_200 rfl rfl rfl ?_
        refine gs_ald hk_200 rfl ((j_arr_put13 h0 (by decide)).trans h6) (h13 (by assumption) (by assumption) (by assumption)) rfl rfl ?_
        refine gs_istore hk_200 rfl (Nat.le_of_ble_eq_true rfl) rfl rfl ?_
        refine gs_aload hk_200 rfl rfl rfl ?_
        refine gs_dup hk_200 rfl rfl rfl ?_
        refine gs_get hk_200 rfl ((j_fld_putN (Or.inr (by decide))).trans h4) rfl ?_
        refine gs_push (x := 1) hk_200 rfl (by decide) rfl ?_
        refine gs_bin (z := (v4 - 1)) hk_200 rfl rfl rfl ?_
        refine gs_put hk_200 rfl ((j_fld_putN (Or.inr (by decide))).trans h4) rfl rfl rfl ?_
        refine gs_aload hk_200 rfl rfl rfl ?_
        refine gs_get hk_200 rfl ((j_fld_putN (Or.inr (by decide))).trans ((j_fld_putN (Or.inr (by decide))).trans h5)) rfl ?_
        refine gs_push (x := 9) hk_200 rfl (by decide) rfl ?_
        refine gs_aload hk_200 rfl rfl rfl ?_
        refine gs_get hk_200 rfl (j_fld_put ((j_fld_putN (Or.inr (by decide))).trans h4)) rfl ?_
        refine gs_push (x := 1) hk_200 rfl (by decide) rfl ?_
        refine gs_bin (z := ((v4 - 1) - 1)) hk_200 rfl rfl rfl ?_
        refine gs_bin (z := (9 * ((v4 - 1) - 1))) hk_200 rfl rfl rfl ?_
        refine gs_push (x := 1) hk_200 rfl (by decide) rfl ?_
        refine gs_bin (z := ((9 * ((v4 - 1) - 1)) + 1)) hk_200 rfl rfl rfl ?_
        refine gs_iload hk_200 rfl rfl rfl ?_
        refine gs_push (x := 43) hk_200 rfl (by decide) rfl ?_
        by_cases c9 : j_cond 1 (j_iv (l2.getD (v0 - 1).toNatClampNeg .null)) 43 = true
        · rw [if_pos c9]
          refine gs_icT hk_200 rfl c9 ?_
          refine gs_iload hk_200 rfl rfl rfl ?_
          refine gs_push (x := 45) hk_200 rfl (by decide) rfl ?_
          by_cases c10 : j_cond 1 (j_iv (l2.getD (v0 - 1).toNatClampNeg .null)) 45 = true
          · rw [if_pos c10]
            refine gs_icT hk_200 rfl c10 ?_
            refine gs_iload hk_200 rfl rfl rfl ?_
            refine gs_iload hk_200 rfl rfl rfl ?_
            refine gs_bin (z := ((j_iv (l6.getD ((9 * (v4 - 2)) + 1).toNatClampNeg .null)) * (j_iv (l6.getD ((9 * (v4 - 1)) + 1).toNatClampNeg .null)))) hk_200 rfl rfl rfl ?_
            refine gs_ast hk_200 rfl ((j_arr_put13 ((j_fld_putN (Or.inr (by decide))).trans h4) (by decide)).trans ((j_arr_put13 h0 (by decide)).trans h6)) (h14 (by assumption) (by assumption) (by assumption) (by assumption) (by assumption)) rfl rfl ?_
            exact gs_ret hk_200 rfl rfl
          · rw [if_neg c10]
            refine gs_icF hk_200 rfl (j_bf c10) rfl ?_
            refine gs_iload hk_200 rfl rfl rfl ?_
            refine gs_iload hk_200 rfl rfl rfl ?_
            refine gs_bin (z := ((j_iv (l6.getD ((9 * (v4 - 2)) + 1).toNatClampNeg .null)) - (j_iv (l6.getD ((9 * (v4 - 1)) + 1).toNatClampNeg .null)))) hk_200 rfl rfl rfl ?_
            refine gs_goto hk_200 rfl ?_
            refine gs_ast hk_200 rfl ((j_arr_put13 ((j_fld_putN (Or.inr (by decide))).trans h4) (by decide)).trans ((j_arr_put13 h0 (by decide)).trans h6)) (h15 (by assumption) (by assumption) (by assumption) (by assumption) (by assumption)) rfl rfl ?_
            exact gs_ret hk_200 rfl rfl
        · rw [if_neg c9]
          refine gs_icF hk_200 rfl (j_bf c9) rfl ?_
          refine gs_iload hk_200 rfl rfl rfl ?_
          refine gs_iload hk_200 rfl rfl rfl ?_
          refine gs_bin (z := ((j_iv (l6.getD ((9 * (v4 - 2)) + 1).toNatClampNeg .null)) + (j_iv (l6.getD ((9 * (v4 - 1)) + 1).toNatClampNeg .null)))) hk_200 rfl rfl rfl ?_
          refine gs_goto hk_200 rfl ?_
          refine gs_ast hk_200 rfl ((j_arr_put13 ((j_fld_putN (Or.inr (by decide))).trans h4) (by decide)).trans ((j_arr_put13 h0 (by decide)).trans h6)) (h16 (by assumption) (by assumption) (by assumption) (by assumption)) rfl rfl ?_
          exact gs_ret hk_200 rfl rfl
      · rw [if_neg c8]
        refine gs_ifF hk_200 rfl (j_bf c8) rfl ?_
        refine gs_aload hk_200 rfl rfl rfl ?_
        refine gs_push (x := 2) hk_200 rfl (by decide) rfl ?_
        refine gs_aload hk_200 rfl rfl rfl ?_
        refine gs_get hk_200 rfl ((j_fld_putN (Or.inr (by decide))).trans h8) rfl ?_
        by_cases c11 : j_cond 1 v9 0 = true
        · rw [if_pos c11]
          by_cases c12 : j_cond 1 v9 2 = true
          · rw [if_pos c12]
            refine gs_call (as := [.ref (r0 + 1), .int 2, .int v8]) (rest := []) hk_200 rfl (Or.inr (Or.inr (Or.inr ⟨Or.inl rfl, j_recv_of (j_fld_put h0)⟩))) rfl rfl rfl (Nat.not_lt.mpr (Nat.le_of_ble_eq_true rfl)) (j_evw (s_M_fails_195 ((j_fld_putN (Or.inr (by decide))).trans h9) ((j_fld_putN (Or.inr (by decide))).trans h10)) ((if_pos c11).trans ((if_pos c12).trans (rfl)))) rfl ?_
            exact gs_ret hk_200 rfl rfl
          · rw [if_neg c12]
            by_cases c13 : j_cond 3 v10 0 = true
            · rw [if_pos c13]
              refine gs_call (as := [.ref (r0 + 1), .int 2, .int v8]) (rest := []) hk_200 rfl (Or.inr (Or.inr (Or.inr ⟨Or.inl rfl, j_recv_of (j_fld_put h0)⟩))) rfl rfl rfl (Nat.not_lt.mpr (Nat.le_of_ble_eq_true rfl)) (j_evw (s_M_fails_195 ((j_fld_putN (Or.inr (by decide))).trans h9) ((j_fld_putN (Or.inr (by decide))).trans h10)) ((if_pos c11).trans ((if_neg c12).trans ((if_pos c13).trans (rfl))))) rfl ?_
              exact gs_ret hk_200 rfl rfl
            · rw [if_neg c13]
              refine gs_call (as := [.ref (r0 + 1), .int 2, .int v8]) (rest := []) hk_200 rfl (Or.inr (Or.inr (Or.inr ⟨Or.inl rfl, j_recv_of (j_fld_put h0)⟩))) rfl rfl rfl (Nat.not_lt.mpr (Nat.le_of_ble_eq_true rfl)) (j_evw (s_M_fails_195 ((j_fld_putN (Or.inr (by decide))).trans h9) ((j_fld_putN (Or.inr (by decide))).trans h10)) ((if_pos c11).trans ((if_neg c12).trans ((if_neg c13).trans (rfl))))) rfl ?_
              exact gs_ret hk_200 rfl rfl
        · rw [if_neg c11]
          by_cases c14 : j_cond 1 2 2 = true
          · rw [if_pos c14]
            refine gs_call (as := [.ref (r0 + 1), .int 2, .int v8]) (rest := []) hk_200 rfl (Or.inr (Or.inr (Or.inr ⟨Or.inl rfl, j_recv_of (j_fld_put h0)⟩))) rfl rfl rfl (Nat.not_lt.mpr (Nat.le_of_ble_eq_true rfl)) (j_evw (s_M_fails_195 ((j_fld_putN (Or.inr (by decide))).trans h9) ((j_fld_putN (Or.inr (by decide))).trans h10)) ((if_neg c11).trans ((if_pos c14).trans (rfl)))) rfl ?_
            exact gs_ret hk_200 rfl rfl
          · rw [if_neg c14]
            by_cases c15 : j_cond 3 v10 0 = true
            · rw [if_pos c15]
              refine gs_call (as := [.ref (r0 + 1), .int 2, .int v8]) (rest := []) hk_200 rfl (Or.inr (Or.inr (Or.inr ⟨Or.inl rfl, j_recv_of (j_fld_put h0)⟩))) rfl rfl rfl (Nat.not_lt.mpr (Nat.le_of_ble_eq_true rfl)) (j_evw (s_M_fails_195 ((j_fld_putN (Or.inr (by decide))).trans h9) ((j_fld_putN (Or.inr (by decide))).trans h10)) ((if_neg c11).trans ((if_neg c14).trans ((if_pos c15).trans (rfl))))) rfl ?_
              exact gs_ret hk_200 rfl rfl
            · rw [if_neg c15]
              refine gs_call (as := [.ref (r0 + 1), .int 2, .int v8]) (rest := []) hk_200 rfl (Or.inr (Or.inr (Or.inr ⟨Or.inl rfl, j_recv_of (j_fld_put h0)⟩))) rfl rfl rfl (Nat.not_lt.mpr (Nat.le_of_ble_eq_true rfl)) (j_evw (s_M_fails_195 ((j_fld_putN (Or.inr (by decide))).trans h9) ((j_fld_putN (Or.inr (by decide))).trans h10)) ((if_neg c11).trans ((if_neg c14).trans ((if_neg c15).trans (rfl))))) rfl ?_
              exact gs_ret hk_200 rfl rfl
  · rw [if_neg c1]
    refine gs_icF hk_200 rfl (j_bf c1) rfl ?_
    refine gs_aload hk_200 rfl rfl rfl ?_
    refine gs_aload hk_200 rfl rfl rfl ?_
    refine gs_get hk_200 rfl ((j_fld_putN (Or.inr (by decide))).trans h4) rfl ?_
    refine gs_push (x := 1) hk_200 rfl (by decide) rfl ?_
    refine gs_bin (z := (v4 - 1)) hk_200 rfl rfl rfl ?_
    refine gs_call (as := [.ref (r0 + 1), .int (v4 - 1)]) (rest := []) hk_200 rfl (Or.inr (Or.inr (Or.inr ⟨Or.inl rfl, j_recv_of (j_fld_put h0)⟩))) rfl rfl rfl (Nat.not_lt.mpr (Nat.le_of_ble_eq_true rfl)) (s_M_isNumber_199 ((j_fld_putN (Or.inr (by decide))).trans h5) ((j_arr_put13 h0 (by decide)).trans h6) (h17 (by assumption))) rfl ?_
    by_cases c16 : j_cond 0 (if j_cond 1 (j_iv (l6.getD (9 * (v4 - 1)).toNatClampNeg .null)) (-1) = true then 0 else 1) 0 = true
    · rw [if_pos c16]
      refine gs_ifT hk_200 rfl c16 ?_
      refine gs_aload hk_200 rfl rfl rfl ?_
      refine gs_get hk_200 rfl ((j_fld_putN (Or.inr (by decide))).trans h5) rfl ?_
      refine gs_push (x := 9) hk_200 rfl (by decide) rfl ?_
      refine gs_aload hk_200 rfl rfl rfl ?_
      refine gs_get hk_200 rfl ((j_fld_putN (Or.inr (by decide))).trans h4) rfl ?_
      refine gs_push (x := 1) hk_200 rfl (by decide) rfl ?_
      refine gs_bin (z := (v4 - 1)) hk_200 rfl rfl rfl ?_
      refine gs_bin (z := (9 * (v4 - 1))) hk_200 rfl rfl rfl ?_
      refine gs_push (x := 1) hk_200 rfl (by decide) rfl ?_
      refine gs_bin (z := ((9 * (v4 - 1)) + 1)) hk_200 rfl rfl rfl ?_
      refine gs_aload hk_200 rfl rfl rfl ?_
      refine gs_get hk_200 rfl ((j_fld_putN (Or.inr (by decide))).trans h5) rfl ?_
      refine gs_push (x := 9) hk_200 rfl (by decide) rfl ?_
      refine gs_aload hk_200 rfl rfl rfl ?_
      refine gs_get hk_200 rfl ((j_fld_putN (Or.inr (by decide))).trans h4) rfl ?_
      refine gs_push (x := 1) hk_200 rfl (by decide) rfl ?_
      refine gs_bin (z := (v4 - 1)) hk_200 rfl rfl rfl ?_
      refine gs_bin (z := (9 * (v4 - 1))) hk_200 rfl rfl rfl ?_
      refine gs_ald hk_200 rfl ((j_arr_put13 h0 (by decide)).trans h6) (h18 (by assumption) (by assumption)) rfl rfl ?_
      refine gs_ast hk_200 rfl ((j_arr_put13 h0 (by decide)).trans h6) (h19 (by assumption) (by assumption)) rfl rfl ?_
      refine gs_aload hk_200 rfl rfl rfl ?_
      refine gs_get hk_200 rfl ((j_fld_sto ((j_arr_put13 h0 (by decide)).trans h6) (by decide)).trans ((j_fld_putN (Or.inr (by decide))).trans h5)) rfl ?_
      refine gs_push (x := 9) hk_200 rfl (by decide) rfl ?_
      refine gs_aload hk_200 rfl rfl rfl ?_
      refine gs_get hk_200 rfl ((j_fld_sto ((j_arr_put13 h0 (by decide)).trans h6) (by decide)).trans ((j_fld_putN (Or.inr (by decide))).trans h4)) rfl ?_
      refine gs_push (x := 1) hk_200 rfl (by decide) rfl ?_
      refine gs_bin (z := (v4 - 1)) hk_200 rfl rfl rfl ?_
      refine gs_bin (z := (9 * (v4 - 1))) hk_200 rfl rfl rfl ?_
      refine gs_push (x := (-1)) hk_200 rfl (by decide) rfl ?_
      refine gs_ast hk_200 rfl (j_arr_sto ((j_arr_put13 h0 (by decide)).trans h6)) (by simp only [List.length_set]; exact (h18 (by assumption) (by assumption))) rfl rfl ?_
      exact gs_ret hk_200 rfl rfl
    · rw [if_neg c16]
      refine gs_ifF hk_200 rfl (j_bf c16) rfl ?_
      refine gs_aload hk_200 rfl rfl rfl ?_
      refine gs_push (x := 2) hk_200 rfl (by decide) rfl ?_
      refine gs_aload hk_200 rfl rfl rfl ?_
      refine gs_get hk_200 rfl ((j_fld_putN (Or.inr (by decide))).trans h8) rfl ?_
      by_cases c17 : j_cond 1 v9 0 = true
      · rw [if_pos c17]
        by_cases c18 : j_cond 1 v9 2 = true
        · rw [if_pos c18]
          refine gs_call (as := [.ref (r0 + 1), .int 2, .int v8]) (rest := []) hk_200 rfl (Or.inr (Or.inr (Or.inr ⟨Or.inl rfl, j_recv_of (j_fld_put h0)⟩))) rfl rfl rfl (Nat.not_lt.mpr (Nat.le_of_ble_eq_true rfl)) (j_evw (s_M_fails_195 ((j_fld_putN (Or.inr (by decide))).trans h9) ((j_fld_putN (Or.inr (by decide))).trans h10)) ((if_pos c17).trans ((if_pos c18).trans (rfl)))) rfl ?_
          exact gs_ret hk_200 rfl rfl
        · rw [if_neg c18]
          by_cases c19 : j_cond 3 v10 0 = true
          · rw [if_pos c19]
            refine gs_call (as := [.ref (r0 + 1), .int 2, .int v8]) (rest := []) hk_200 rfl (Or.inr (Or.inr (Or.inr ⟨Or.inl rfl, j_recv_of (j_fld_put h0)⟩))) rfl rfl rfl (Nat.not_lt.mpr (Nat.le_of_ble_eq_true rfl)) (j_evw (s_M_fails_195 ((j_fld_putN (Or.inr (by decide))).trans h9) ((j_fld_putN (Or.inr (by decide))).trans h10)) ((if_pos c17).trans ((if_neg c18).trans ((if_pos c19).trans (rfl))))) rfl ?_
            exact gs_ret hk_200 rfl rfl
          · rw [if_neg c19]
            refine gs_call (as := [.ref (r0 + 1), .int 2, .int v8]) (rest := []) hk_200 rfl (Or.inr (Or.inr (Or.inr ⟨Or.inl rfl, j_recv_of (j_fld_put h0)⟩))) rfl rfl rfl (Nat.not_lt.mpr (Nat.le_of_ble_eq_true rfl)) (j_evw (s_M_fails_195 ((j_fld_putN (Or.inr (by decide))).trans h9) ((j_fld_putN (Or.inr (by decide))).trans h10)) ((if_pos c17).trans ((if_neg c18).trans ((if_neg c19).trans (rfl))))) rfl ?_
            exact gs_ret hk_200 rfl rfl
      · rw [if_neg c17]
        by_cases c20 : j_cond 1 2 2 = true
        · rw [if_pos c20]
          refine gs_call (as := [.ref (r0 + 1), .int 2, .int v8]) (rest := []) hk_200 rfl (Or.inr (Or.inr (Or.inr ⟨Or.inl rfl, j_recv_of (j_fld_put h0)⟩))) rfl rfl rfl (Nat.not_lt.mpr (Nat.le_of_ble_eq_true rfl)) (j_evw (s_M_fails_195 ((j_fld_putN (Or.inr (by decide))).trans h9) ((j_fld_putN (Or.inr (by decide))).trans h10)) ((if_neg c17).trans ((if_pos c20).trans (rfl)))) rfl ?_
          exact gs_ret hk_200 rfl rfl
        · rw [if_neg c20]
          by_cases c21 : j_cond 3 v10 0 = true
          · rw [if_pos c21]
            refine gs_call (as := [.ref (r0 + 1), .int 2, .int v8]) (rest := []) hk_200 rfl (Or.inr (Or.inr (Or.inr ⟨Or.inl rfl, j_recv_of (j_fld_put h0)⟩))) rfl rfl rfl (Nat.not_lt.mpr (Nat.le_of_ble_eq_true rfl)) (j_evw (s_M_fails_195 ((j_fld_putN (Or.inr (by decide))).trans h9) ((j_fld_putN (Or.inr (by decide))).trans h10)) ((if_neg c17).trans ((if_neg c20).trans ((if_pos c21).trans (rfl))))) rfl ?_
            exact gs_ret hk_200 rfl rfl
          · rw [if_neg c21]
            refine gs_call (as := [.ref (r0 + 1), .int 2, .int v8]) (rest := []) hk_200 rfl (Or.inr (Or.inr (Or.inr ⟨Or.inl rfl, j_recv_of (j_fld_put h0)⟩))) rfl rfl rfl (Nat.not_lt.mpr (Nat.le_of_ble_eq_true rfl)) (j_evw (s_M_fails_195 ((j_fld_putN (Or.inr (by decide))).trans h9) ((j_fld_putN (Or.inr (by decide))).trans h10)) ((if_neg c17).trans ((if_neg c20).trans ((if_neg c21).trans (rfl))))) rfl ?_
            exact gs_ret hk_200 rfl rfl
theorem hk_203 : jP[203]? = some (jc_203, 2, [], []) := by rfl
theorem s_M_opens_203 {X : List Int32} {d : Nat} {m : jM} {r0 : Nat} {p0 : Int32} {v0 : Nat} {v1 : Int32} {l2 : List Value} {v4 : Nat} {l5 : List Value} (h0 : j_fld m r0 12 68 = some (.ref (v0 + 1))) (h1 : j_fld m r0 12 70 = some (.int v1)) (h2 : j_arr m v0 50 = some l2) (h3 : ¬ (v1 < 0 ∨ l2.length ≤ v1.toNatClampNeg)) (h4 : j_fld m r0 12 69 = some (.ref (v4 + 1))) (h5 : j_arr m v4 50 = some l5) (h6 : v0 ≠ v4) (h7 : ¬ (v1 < 0 ∨ l5.length ≤ v1.toNatClampNeg)) : j_Ev X (d) 203 [.ref (r0 + 1), .int p0] m (.inl none, (j_put (j_sto (j_sto m v0 v1.toNatClampNeg (.int (j_nar 50 p0))) v4 v1.toNatClampNeg (.int (j_nar 50 1))) r0 70 (.int (v1 + 1)))) := by
  refine e_of hk_203 ?_
  refine gs_aload hk_203 rfl rfl rfl ?_
  refine gs_get hk_203 rfl h0 rfl ?_
  refine gs_aload hk_203 rfl rfl rfl ?_
  refine gs_get hk_203 rfl h1 rfl ?_
  refine gs_iload hk_203 rfl rfl rfl ?_
  refine gs_ast hk_203 rfl h2 (h3) rfl rfl ?_
  refine gs_aload hk_203 rfl rfl rfl ?_
  refine gs_get hk_203 rfl ((j_fld_sto h2 (by decide)).trans h4) rfl ?_
  refine gs_aload hk_203 rfl rfl rfl ?_
  refine gs_get hk_203 rfl ((j_fld_sto h2 (by decide)).trans h1) rfl ?_
  refine gs_push (x := 1) hk_203 rfl (by decide) rfl ?_
  refine gs_ast hk_203 rfl ((j_arr_stoN h6).trans h5) (h7) rfl rfl ?_
  refine gs_aload hk_203 rfl rfl rfl ?_
  refine gs_dup hk_203 rfl rfl rfl ?_
  refine gs_get hk_203 rfl ((j_fld_sto ((j_arr_stoN h6).trans h5) (by decide)).trans ((j_fld_sto h2 (by decide)).trans h1)) rfl ?_
  refine gs_push (x := 1) hk_203 rfl (by decide) rfl ?_
  refine gs_bin (z := (v1 + 1)) hk_203 rfl rfl rfl ?_
  refine gs_put hk_203 rfl ((j_fld_sto ((j_arr_stoN h6).trans h5) (by decide)).trans ((j_fld_sto h2 (by decide)).trans h1)) rfl rfl rfl ?_
  exact gs_ret hk_203 rfl rfl
theorem hk_205 : jP[205]? = some (jc_205, 3, [], []) := by rfl
theorem s_M_item_205 {X : List Int32} {d : Nat} {m : jM} {r0 : Nat} {v0 : Nat} {v1 : Int32} {l2 : List Value} {v4 : Int32} {v5 : Nat} {l6 : List Value} {v12 : Int32} {v13 : Int32} {v14 : Int32} (h0 : j_fld m r0 12 65 = some (.ref (v0 + 1))) (h1 : j_fld m r0 12 67 = some (.int v1)) (h2 : j_arr m v0 50 = some l2) (h3 : ¬ ((v1 + 1) < 0 ∨ l2.length ≤ (v1 + 1).toNatClampNeg)) (h4 : j_fld m r0 12 72 = some (.int v4)) (h5 : j_fld m r0 12 71 = some (.ref (v5 + 1))) (h6 : j_arr m v5 50 = some l6) (h7 : ¬ ((9 * (v4 - 1)) < 0 ∨ l6.length ≤ (9 * (v4 - 1)).toNatClampNeg)) (h8 : j_cond 0 (if j_cond 1 (j_iv (l6.getD (9 * (v4 - 1)).toNatClampNeg .null)) (-1) = true then 0 else 1) 0 = true → ¬ ((9 * (v4 - 1)) < 0 ∨ l6.length ≤ (9 * (v4 - 1)).toNatClampNeg)) (h9 : j_cond 0 (if j_cond 1 (j_iv (l6.getD (9 * (v4 - 1)).toNatClampNeg .null)) (-1) = true then 0 else 1) 0 = true → j_cond 2 ((j_iv (l2.getD (v1 + 1).toNatClampNeg .null)) - 48) (j_iv (l6.getD (9 * (v4 - 1)).toNatClampNeg .null)) = true → ¬ ((((9 * (v4 - 1)) + 1) + ((j_iv (l2.getD (v1 + 1).toNatClampNeg .null)) - 48)) < 0 ∨ l6.length ≤ (((9 * (v4 - 1)) + 1) + ((j_iv (l2.getD (v1 + 1).toNatClampNeg .null)) - 48)).toNatClampNeg)) (h10 : j_cond 0 (if j_cond 1 (j_iv (l6.getD (9 * (v4 - 1)).toNatClampNeg .null)) (-1) = true then 0 else 1) 0 = true → j_cond 2 ((j_iv (l2.getD (v1 + 1).toNatClampNeg .null)) - 48) (j_iv (l6.getD (9 * (v4 - 1)).toNatClampNeg .null)) = true → ¬ (((9 * (v4 - 1)) + 1) < 0 ∨ l6.length ≤ ((9 * (v4 - 1)) + 1).toNatClampNeg)) (h11 : j_cond 0 (if j_cond 1 (j_iv (l6.getD (9 * (v4 - 1)).toNatClampNeg .null)) (-1) = true then 0 else 1) 0 = true → j_cond 2 ((j_iv (l2.getD (v1 + 1).toNatClampNeg .null)) - 48) (j_iv (l6.getD (9 * (v4 - 1)).toNatClampNeg .null)) = true → ¬ ((9 * (v4 - 1)) < 0 ∨ l6.length ≤ (9 * (v4 - 1)).toNatClampNeg)) (h12 : j_fld m r0 12 80 = some (.int v12)) (h13 : j_fld m r0 12 75 = some (.int v13)) (h14 : j_fld m r0 12 76 = some (.int v14)) : j_Ev X (d + 1) 205 [.ref (r0 + 1)] m (if j_cond 0 (if j_cond 1 (j_iv (l6.getD (9 * (v4 - 1)).toNatClampNeg .null)) (-1) = true then 0 else 1) 0 = true then (if j_cond 2 ((j_iv (l2.getD (v1 + 1).toNatClampNeg .null)) - 48) (j_iv (l6.getD (9 * (v4 - 1)).toNatClampNeg .null)) = true then (.inl none, (j_sto (j_sto (j_put m r0 67 (.int (v1 + 2))) v5 ((9 * (v4 - 1)) + 1).toNatClampNeg (.int (j_nar 50 (j_iv (l6.getD (((9 * (v4 - 1)) + 1) + ((j_iv (l2.getD (v1 + 1).toNatClampNeg .null)) - 48)).toNatClampNeg .null))))) v5 (9 * (v4 - 1)).toNatClampNeg (.int (j_nar 50 (-1))))) else (if j_cond 1 v13 0 = true then (if j_cond 1 v13 3 = true then (.inl none, (j_put (j_put (j_put m r0 67 (.int (v1 + 2))) r0 75 (.int v13)) r0 76 (.int v14))) else (if j_cond 3 v14 0 = true then (.inl none, (j_put (j_put (j_put m r0 67 (.int (v1 + 2))) r0 75 (.int v13)) r0 76 (.int v14))) else (.inl none, (j_put (j_put (j_put m r0 67 (.int (v1 + 2))) r0 75 (.int v13)) r0 76 (.int v12))))) else (if j_cond 1 3 3 = true then (.inl none, (j_put (j_put (j_put m r0 67 (.int (v1 + 2))) r0 75 (.int 3)) r0 76 (.int v14))) else (if j_cond 3 v14 0 = true then (.inl none, (j_put (j_put (j_put m r0 67 (.int (v1 + 2))) r0 75 (.int 3)) r0 76 (.int v14))) else (.inl none, (j_put (j_put (j_put m r0 67 (.int (v1 + 2))) r0 75 (.int 3)) r0 76 (.int v12))))))) else (if j_cond 1 v13 0 = true then (if j_cond 1 v13 2 = true then (.inl none, (j_put (j_put (j_put m r0 67 (.int (v1 + 2))) r0 75 (.int v13)) r0 76 (.int v14))) else (if j_cond 3 v14 0 = true then (.inl none, (j_put (j_put (j_put m r0 67 (.int (v1 + 2))) r0 75 (.int v13)) r0 76 (.int v14))) else (.inl none, (j_put (j_put (j_put m r0 67 (.int (v1 + 2))) r0 75 (.int v13)) r0 76 (.int v12))))) else (if j_cond 1 2 2 = true then (.inl none, (j_put (j_put (j_put m r0 67 (.int (v1 + 2))) r0 75 (.int 2)) r0 76 (.int v14))) else (if j_cond 3 v14 0 = true then (.inl none, (j_put (j_put (j_put m r0 67 (.int (v1 + 2))) r0 75 (.int 2)) r0 76 (.int v14))) else (.inl none, (j_put (j_put (j_put m r0 67 (.int (v1 + 2))) r0 75 (.int 2)) r0 76 (.int v12))))))) := by
  refine e_of hk_205 ?_
  refine gs_aload hk_205 rfl rfl rfl ?_
  refine gs_get hk_205 rfl h0 rfl ?_
  refine gs_aload hk_205 rfl rfl rfl ?_
  refine gs_get hk_205 rfl h1 rfl ?_
  refine gs_push (x := 1) hk_205 rfl (by decide) rfl ?_
  refine gs_bin (z := (v1 + 1)) hk_205 rfl rfl rfl ?_
  refine gs_ald hk_205 rfl h2 (h3) rfl rfl ?_
  refine gs_push (x := 48) hk_205 rfl (by decide) rfl ?_
  refine gs_bin (z := ((j_iv (l2.getD (v1 + 1).toNatClampNeg .null)) - 48)) hk_205 rfl rfl rfl ?_
  refine gs_istore hk_205 rfl (Nat.le_of_ble_eq_true rfl) rfl rfl ?_
  refine gs_aload hk_205 rfl rfl rfl ?_
  refine gs_dup hk_205 rfl rfl rfl ?_
  refine gs_get hk_205 rfl h1 rfl ?_
  refine gs_push (x := 2) hk_205 rfl (by decide) rfl ?_
  refine gs_bin (z := (v1 + 2)) hk_205 rfl rfl rfl ?_
  refine gs_put hk_205 rfl h1 rfl rfl rfl ?_
  refine gs_push (x := 9) hk_205 rfl (by decide) rfl ?_
  refine gs_aload hk_205 rfl rfl rfl ?_
  refine gs_get hk_205 rfl ((j_fld_putN (Or.inr (by decide))).trans h4) rfl ?_
  refine gs_push (x := 1) hk_205 rfl (by decide) rfl ?_
  refine gs_bin (z := (v4 - 1)) hk_205 rfl rfl rfl ?_
  refine gs_bin (z := (9 * (v4 - 1))) hk_205 rfl rfl rfl ?_
  refine gs_istore hk_205 rfl (Nat.le_of_ble_eq_true rfl) rfl rfl ?_
  refine gs_aload hk_205 rfl rfl rfl ?_
  refine gs_aload hk_205 rfl rfl rfl ?_
  refine gs_get hk_205 rfl ((j_fld_putN (Or.inr (by decide))).trans h4) rfl ?_
  refine gs_push (x := 1) hk_205 rfl (by decide) rfl ?_
  refine gs_bin (z := (v4 - 1)) hk_205 rfl rfl rfl ?_
  refine gs_call (as := [.ref (r0 + 1), .int (v4 - 1)]) (rest := []) hk_205 rfl (Or.inr (Or.inr (Or.inr ⟨Or.inl rfl, j_recv_of ((j_fld_putN (Or.inr (by decide))).trans h0)⟩))) rfl rfl rfl (Nat.not_lt.mpr (Nat.le_of_ble_eq_true rfl)) (s_M_isNumber_199 ((j_fld_putN (Or.inr (by decide))).trans h5) ((j_arr_put13 h1 (by decide)).trans h6) h7) rfl ?_
  by_cases c1 : j_cond 0 (if j_cond 1 (j_iv (l6.getD (9 * (v4 - 1)).toNatClampNeg .null)) (-1) = true then 0 else 1) 0 = true
  · rw [if_pos c1]
    refine gs_ifT hk_205 rfl c1 ?_
    refine gs_iload hk_205 rfl rfl rfl ?_
    refine gs_aload hk_205 rfl rfl rfl ?_
    refine gs_get hk_205 rfl ((j_fld_putN (Or.inr (by decide))).trans h5) rfl ?_
    refine gs_iload hk_205 rfl rfl rfl ?_
    refine gs_ald hk_205 rfl ((j_arr_put13 h1 (by decide)).trans h6) (h8 (by assumption)) rfl rfl ?_
    by_cases c2 : j_cond 2 ((j_iv (l2.getD (v1 + 1).toNatClampNeg .null)) - 48) (j_iv (l6.getD (9 * (v4 - 1)).toNatClampNeg .null)) = true
    · rw [if_pos c2]
      refine gs_icT hk_205 rfl c2 ?_
      refine gs_aload hk_205 rfl rfl rfl ?_
      refine gs_get hk_205 rfl ((j_fld_putN (Or.inr (by decide))).trans h5) rfl ?_
      refine gs_iload hk_205 rfl rfl rfl ?_
      refine gs_push (x := 1) hk_205 rfl (by decide) rfl ?_
      refine gs_bin (z := ((9 * (v4 - 1)) + 1)) hk_205 rfl rfl rfl ?_
      refine gs_aload hk_205 rfl rfl rfl ?_
      refine gs_get hk_205 rfl ((j_fld_putN (Or.inr (by decide))).trans h5) rfl ?_
      refine gs_iload hk_205 rfl rfl rfl ?_
      refine gs_push (x := 1) hk_205 rfl (by decide) rfl ?_
      refine gs_bin (z := ((9 * (v4 - 1)) + 1)) hk_205 rfl rfl rfl ?_
      refine gs_iload hk_205 rfl rfl rfl ?_
      refine gs_bin (z := (((9 * (v4 - 1)) + 1) + ((j_iv (l2.getD (v1 + 1).toNatClampNeg .null)) - 48))) hk_205 rfl rfl rfl ?_
      refine gs_ald hk_205 rfl ((j_arr_put13 h1 (by decide)).trans h6) (h9 (by assumption) (by assumption)) rfl rfl ?_
      refine gs_ast hk_205 rfl ((j_arr_put13 h1 (by decide)).trans h6) (h10 (by assumption) (by assumption)) rfl rfl ?_
      refine gs_aload hk_205 rfl rfl rfl ?_
      refine gs_get hk_205 rfl ((j_fld_sto ((j_arr_put13 h1 (by decide)).trans h6) (by decide)).trans ((j_fld_putN (Or.inr (by decide))).trans h5)) rfl ?_
      refine gs_iload hk_205 rfl rfl rfl ?_
      refine gs_push (x := (-1)) hk_205 rfl (by decide) rfl ?_
      refine gs_ast hk_205 rfl (j_arr_sto ((j_arr_put13 h1 (by decide)).trans h6)) (by simp only [List.length_set]; exact (h11 (by assumption) (by assumption))) rfl rfl ?_
      exact gs_ret hk_205 rfl rfl
    · rw [if_neg c2]
      refine gs_icF hk_205 rfl (j_bf c2) rfl ?_
      refine gs_aload hk_205 rfl rfl rfl ?_
      refine gs_push (x := 3) hk_205 rfl (by decide) rfl ?_
      refine gs_aload hk_205 rfl rfl rfl ?_
      refine gs_get hk_205 rfl ((j_fld_putN (Or.inr (by decide))).trans h12) rfl ?_
      by_cases c3 : j_cond 1 v13 0 = true
      · rw [if_pos c3]
        by_cases c4 : j_cond 1 v13 3 = true
        · rw [if_pos c4]
          refine gs_call (as := [.ref (r0 + 1), .int 3, .int v12]) (rest := []) hk_205 rfl (Or.inr (Or.inr (Or.inr ⟨Or.inl rfl, j_recv_of ((j_fld_putN (Or.inr (by decide))).trans h0)⟩))) rfl rfl rfl (Nat.not_lt.mpr (Nat.le_of_ble_eq_true rfl)) (j_evw (s_M_fails_195 ((j_fld_putN (Or.inr (by decide))).trans h13) ((j_fld_putN (Or.inr (by decide))).trans h14)) ((if_pos c3).trans ((if_pos c4).trans (rfl)))) rfl ?_
          refine gs_goto hk_205 rfl ?_
          exact gs_ret hk_205 rfl rfl
        · rw [if_neg c4]
          by_cases c5 : j_cond 3 v14 0 = true
          · rw [if_pos c5]
            refine gs_call (as := [.ref (r0 + 1), .int 3, .int v12]) (rest := []) hk_205 rfl (Or.inr (Or.inr (Or.inr ⟨Or.inl rfl, j_recv_of ((j_fld_putN (Or.inr (by decide))).trans h0)⟩))) rfl rfl rfl (Nat.not_lt.mpr (Nat.le_of_ble_eq_true rfl)) (j_evw (s_M_fails_195 ((j_fld_putN (Or.inr (by decide))).trans h13) ((j_fld_putN (Or.inr (by decide))).trans h14)) ((if_pos c3).trans ((if_neg c4).trans ((if_pos c5).trans (rfl))))) rfl ?_
            refine gs_goto hk_205 rfl ?_
            exact gs_ret hk_205 rfl rfl
          · rw [if_neg c5]
            refine gs_call (as := [.ref (r0 + 1), .int 3, .int v12]) (rest := []) hk_205 rfl (Or.inr (Or.inr (Or.inr ⟨Or.inl rfl, j_recv_of ((j_fld_putN (Or.inr (by decide))).trans h0)⟩))) rfl rfl rfl (Nat.not_lt.mpr (Nat.le_of_ble_eq_true rfl)) (j_evw (s_M_fails_195 ((j_fld_putN (Or.inr (by decide))).trans h13) ((j_fld_putN (Or.inr (by decide))).trans h14)) ((if_pos c3).trans ((if_neg c4).trans ((if_neg c5).trans (rfl))))) rfl ?_
            refine gs_goto hk_205 rfl ?_
            exact gs_ret hk_205 rfl rfl
      · rw [if_neg c3]
        by_cases c6 : j_cond 1 3 3 = true
        · rw [if_pos c6]
          refine gs_call (as := [.ref (r0 + 1), .int 3, .int v12]) (rest := []) hk_205 rfl (Or.inr (Or.inr (Or.inr ⟨Or.inl rfl, j_recv_of ((j_fld_putN (Or.inr (by decide))).trans h0)⟩))) rfl rfl rfl (Nat.not_lt.mpr (Nat.le_of_ble_eq_true rfl)) (j_evw (s_M_fails_195 ((j_fld_putN (Or.inr (by decide))).trans h13) ((j_fld_putN (Or.inr (by decide))).trans h14)) ((if_neg c3).trans ((if_pos c6).trans (rfl)))) rfl ?_
          refine gs_goto hk_205 rfl ?_
          exact gs_ret hk_205 rfl rfl
        · rw [if_neg c6]
          by_cases c7 : j_cond 3 v14 0 = true
          · rw [if_pos c7]
            refine gs_call (as := [.ref (r0 + 1), .int 3, .int v12]) (rest := []) hk_205 rfl (Or.inr (Or.inr (Or.inr ⟨Or.inl rfl, j_recv_of ((j_fld_putN (Or.inr (by decide))).trans h0)⟩))) rfl rfl rfl (Nat.not_lt.mpr (Nat.le_of_ble_eq_true rfl)) (j_evw (s_M_fails_195 ((j_fld_putN (Or.inr (by decide))).trans h13) ((j_fld_putN (Or.inr (by decide))).trans h14)) ((if_neg c3).trans ((if_neg c6).trans ((if_pos c7).trans (rfl))))) rfl ?_
            refine gs_goto hk_205 rfl ?_
            exact gs_ret hk_205 rfl rfl
          · rw [if_neg c7]
            refine gs_call (as := [.ref (r0 + 1), .int 3, .int v12]) (rest := []) hk_205 rfl (Or.inr (Or.inr (Or.inr ⟨Or.inl rfl, j_recv_of ((j_fld_putN (Or.inr (by decide))).trans h0)⟩))) rfl rfl rfl (Nat.not_lt.mpr (Nat.le_of_ble_eq_true rfl)) (j_evw (s_M_fails_195 ((j_fld_putN (Or.inr (by decide))).trans h13) ((j_fld_putN (Or.inr (by decide))).trans h14)) ((if_neg c3).trans ((if_neg c6).trans ((if_neg c7).trans (rfl))))) rfl ?_
            refine gs_goto hk_205 rfl ?_
            exact gs_ret hk_205 rfl rfl
  · rw [if_neg c1]
    refine gs_ifF hk_205 rfl (j_bf c1) rfl ?_
    refine gs_aload hk_205 rfl rfl rfl ?_
    refine gs_push (x := 2) hk_205 rfl (by decide) rfl ?_
    refine gs_aload hk_205 rfl rfl rfl ?_
    refine gs_get hk_205 rfl ((j_fld_putN (Or.inr (by decide))).trans h12) rfl ?_
    by_cases c8 : j_cond 1 v13 0 = true
    · rw [if_pos c8]
      by_cases c9 : j_cond 1 v13 2 = true
      · rw [if_pos c9]
        refine gs_call (as := [.ref (r0 + 1), .int 2, .int v12]) (rest := []) hk_205 rfl (Or.inr (Or.inr (Or.inr ⟨Or.inl rfl, j_recv_of ((j_fld_putN (Or.inr (by decide))).trans h0)⟩))) rfl rfl rfl (Nat.not_lt.mpr (Nat.le_of_ble_eq_true rfl)) (j_evw (s_M_fails_195 ((j_fld_putN (Or.inr (by decide))).trans h13) ((j_fld_putN (Or.inr (by decide))).trans h14)) ((if_pos c8).trans ((if_pos c9).trans (rfl)))) rfl ?_
        refine gs_goto hk_205 rfl ?_
        exact gs_ret hk_205 rfl rfl
      · rw [if_neg c9]
        by_cases c10 : j_cond 3 v14 0 = true
        · rw [if_pos c10]
          refine gs_call (as := [.ref (r0 + 1), .int 2, .int v12]) (rest := []) hk_205 rfl (Or.inr (Or.inr (Or.inr ⟨Or.inl rfl, j_recv_of ((j_fld_putN (Or.inr (by decide))).trans h0)⟩))) rfl rfl rfl (Nat.not_lt.mpr (Nat.le_of_ble_eq_true rfl)) (j_evw (s_M_fails_195 ((j_fld_putN (Or.inr (by decide))).trans h13) ((j_fld_putN (Or.inr (by decide))).trans h14)) ((if_pos c8).trans ((if_neg c9).trans ((if_pos c10).trans (rfl))))) rfl ?_
          refine gs_goto hk_205 rfl ?_
          exact gs_ret hk_205 rfl rfl
        · rw [if_neg c10]
          refine gs_call (as := [.ref (r0 + 1), .int 2, .int v12]) (rest := []) hk_205 rfl (Or.inr (Or.inr (Or.inr ⟨Or.inl rfl, j_recv_of ((j_fld_putN (Or.inr (by decide))).trans h0)⟩))) rfl rfl rfl (Nat.not_lt.mpr (Nat.le_of_ble_eq_true rfl)) (j_evw (s_M_fails_195 ((j_fld_putN (Or.inr (by decide))).trans h13) ((j_fld_putN (Or.inr (by decide))).trans h14)) ((if_pos c8).trans ((if_neg c9).trans ((if_neg c10).trans (rfl))))) rfl ?_
          refine gs_goto hk_205 rfl ?_
          exact gs_ret hk_205 rfl rfl
    · rw [if_neg c8]
      by_cases c11 : j_cond 1 2 2 = true
      · rw [if_pos c11]
        refine gs_call (as := [.ref (r0 + 1), .int 2, .int v12]) (rest := []) hk_205 rfl (Or.inr (Or.inr (Or.inr ⟨Or.inl rfl, j_recv_of ((j_fld_putN (Or.inr (by decide))).trans h0)⟩))) rfl rfl rfl (Nat.not_lt.mpr (Nat.le_of_ble_eq_true rfl)) (j_evw (s_M_fails_195 ((j_fld_putN (Or.inr (by decide))).trans h13) ((j_fld_putN (Or.inr (by decide))).trans h14)) ((if_neg c8).trans ((if_pos c11).trans (rfl)))) rfl ?_
        refine gs_goto hk_205 rfl ?_
        exact gs_ret hk_205 rfl rfl
      · rw [if_neg c11]
        by_cases c12 : j_cond 3 v14 0 = true
        · rw [if_pos c12]
          refine gs_call (as := [.ref (r0 + 1), .int 2, .int v12]) (rest := []) hk_205 rfl (Or.inr (Or.inr (Or.inr ⟨Or.inl rfl, j_recv_of ((j_fld_putN (Or.inr (by decide))).trans h0)⟩))) rfl rfl rfl (Nat.not_lt.mpr (Nat.le_of_ble_eq_true rfl)) (j_evw (s_M_fails_195 ((j_fld_putN (Or.inr (by decide))).trans h13) ((j_fld_putN (Or.inr (by decide))).trans h14)) ((if_neg c8).trans ((if_neg c11).trans ((if_pos c12).trans (rfl))))) rfl ?_
          refine gs_goto hk_205 rfl ?_
          exact gs_ret hk_205 rfl rfl
        · rw [if_neg c12]
          refine gs_call (as := [.ref (r0 + 1), .int 2, .int v12]) (rest := []) hk_205 rfl (Or.inr (Or.inr (Or.inr ⟨Or.inl rfl, j_recv_of ((j_fld_putN (Or.inr (by decide))).trans h0)⟩))) rfl rfl rfl (Nat.not_lt.mpr (Nat.le_of_ble_eq_true rfl)) (j_evw (s_M_fails_195 ((j_fld_putN (Or.inr (by decide))).trans h13) ((j_fld_putN (Or.inr (by decide))).trans h14)) ((if_neg c8).trans ((if_neg c11).trans ((if_neg c12).trans (rfl))))) rfl ?_
          refine gs_goto hk_205 rfl ?_
          exact gs_ret hk_205 rfl rfl
theorem hk_245 : jP[245]? = some (jc_245, 1, [], []) := by rfl
theorem s_M_runs_245 {X : List Int32} {d : Nat} {m : jM} {r0 : Nat} {v0 : Int32} {v1 : Int32} (h0 : j_fld m r0 12 79 = some (.int v0)) (h1 : j_fld m r0 12 20 = some (.int v1)) : j_Ev X (d) 245 [.ref (r0 + 1)] m (.inl (some (.int v1)), (j_put m r0 79 (.int 0))) := by
  refine e_of hk_245 ?_
  refine gs_aload hk_245 rfl rfl rfl ?_
  refine gs_push (x := 0) hk_245 rfl (by decide) rfl ?_
  refine gs_put hk_245 rfl h0 rfl rfl rfl ?_
  refine gs_aload hk_245 rfl rfl rfl ?_
  refine gs_get hk_245 rfl ((j_fld_putN (Or.inr (by decide))).trans h1) rfl ?_
  exact gs_iret hk_245 rfl (Or.inl rfl) rfl
theorem hk_246 : jP[246]? = some (jc_246, 1, [], []) := by rfl
theorem s_M_found_246 {X : List Int32} {d : Nat} {m : jM} {r0 : Nat} {v0 : Int32} {v1 : Int32} (h0 : j_fld m r0 12 79 = some (.int v0)) (h1 : j_fld m r0 12 21 = some (.int v1)) : j_Ev X (d) 246 [.ref (r0 + 1)] m (.inl (some (.int v1)), (j_put m r0 79 (.int 0))) := by
  refine e_of hk_246 ?_
  refine gs_aload hk_246 rfl rfl rfl ?_
  refine gs_push (x := 0) hk_246 rfl (by decide) rfl ?_
  refine gs_put hk_246 rfl h0 rfl rfl rfl ?_
  refine gs_aload hk_246 rfl rfl rfl ?_
  refine gs_get hk_246 rfl ((j_fld_putN (Or.inr (by decide))).trans h1) rfl ?_
  exact gs_iret hk_246 rfl (Or.inl rfl) rfl
theorem hk_19 : jP[19]? = some (jc_19, 2, [], []) := by rfl
theorem s_X4_push_19 {X : List Int32} {d : Nat} {m : jM} {r0 : Nat} {p0 : Int32} {v0 : Nat} {v1 : Int32} {v2 : Nat} {l3 : List Value} {v5 : Nat} {l6 : List Value} (h0 : j_fld m r0 4 1 = some (.ref (v0 + 1))) (h1 : j_fld m r0 4 2 = some (.int v1)) (h2 : j_fld m v0 8 0 = some (.ref (v2 + 1))) (h3 : j_arr m v2 50 = some l3) (h4 : ¬ (j_cond 2 v1 0 = true) → ¬ (j_cond 3 v1 27 = true) → ¬ (v1 < 0 ∨ l3.length ≤ v1.toNatClampNeg)) (h5 : j_fld m v0 8 1 = some (.ref (v5 + 1))) (h6 : j_arr m v5 50 = some l6) (h7 : v2 ≠ v5) (h8 : ¬ (j_cond 2 v1 0 = true) → ¬ (j_cond 3 v1 27 = true) → ¬ ((v1 * 8) < 0 ∨ l6.length ≤ (v1 * 8).toNatClampNeg)) : j_Ev X (d + 1) 19 [.ref (r0 + 1), .int p0] m (if j_cond 2 v1 0 = true then (.inl (some (.int 0)), (j_put m r0 2 (.int (v1 + 1)))) else (if j_cond 3 v1 27 = true then (.inl (some (.int 0)), (j_put m r0 2 (.int (v1 + 1)))) else (.inl (some (.int 0)), (j_put (j_sto (j_sto m v2 v1.toNatClampNeg (.int (j_nar 50 1))) v5 (v1 * 8).toNatClampNeg (.int (j_nar 50 p0))) r0 2 (.int (v1 + 1)))))) := by
  refine e_of hk_19 ?_
  refine gs_aload hk_19 rfl rfl rfl ?_
  refine gs_get hk_19 rfl h0 rfl ?_
  refine gs_aload hk_19 rfl rfl rfl ?_
  refine gs_get hk_19 rfl h1 rfl ?_
  refine gs_iload hk_19 rfl rfl rfl ?_
  by_cases c1 : j_cond 2 v1 0 = true
  · rw [if_pos c1]
    refine gs_call (as := [.ref (v0 + 1), .int v1, .int p0]) (rest := []) hk_19 rfl (Or.inr (Or.inr (Or.inr ⟨Or.inl rfl, j_recv_of h2⟩))) rfl rfl rfl (Nat.not_lt.mpr (Nat.le_of_ble_eq_true rfl)) (j_evw (s_X8_putNumber_68 h2 h3 h4 h5 h6 h7 h8) ((if_pos c1).trans (rfl))) rfl ?_
    refine gs_aload hk_19 rfl rfl rfl ?_
    refine gs_dup hk_19 rfl rfl rfl ?_
    refine gs_get hk_19 rfl h1 rfl ?_
    refine gs_push (x := 1) hk_19 rfl (by decide) rfl ?_
    refine gs_bin (z := (v1 + 1)) hk_19 rfl rfl rfl ?_
    refine gs_put hk_19 rfl h1 rfl rfl rfl ?_
    refine gs_push (x := 0) hk_19 rfl (by decide) rfl ?_
    exact gs_iret hk_19 rfl (Or.inl rfl) rfl
  · rw [if_neg c1]
    by_cases c2 : j_cond 3 v1 27 = true
    · rw [if_pos c2]
      refine gs_call (as := [.ref (v0 + 1), .int v1, .int p0]) (rest := []) hk_19 rfl (Or.inr (Or.inr (Or.inr ⟨Or.inl rfl, j_recv_of h2⟩))) rfl rfl rfl (Nat.not_lt.mpr (Nat.le_of_ble_eq_true rfl)) (j_evw (s_X8_putNumber_68 h2 h3 h4 h5 h6 h7 h8) ((if_neg c1).trans ((if_pos c2).trans (rfl)))) rfl ?_
      refine gs_aload hk_19 rfl rfl rfl ?_
      refine gs_dup hk_19 rfl rfl rfl ?_
      refine gs_get hk_19 rfl h1 rfl ?_
      refine gs_push (x := 1) hk_19 rfl (by decide) rfl ?_
      refine gs_bin (z := (v1 + 1)) hk_19 rfl rfl rfl ?_
      refine gs_put hk_19 rfl h1 rfl rfl rfl ?_
      refine gs_push (x := 0) hk_19 rfl (by decide) rfl ?_
      exact gs_iret hk_19 rfl (Or.inl rfl) rfl
    · rw [if_neg c2]
      refine gs_call (as := [.ref (v0 + 1), .int v1, .int p0]) (rest := []) hk_19 rfl (Or.inr (Or.inr (Or.inr ⟨Or.inl rfl, j_recv_of h2⟩))) rfl rfl rfl (Nat.not_lt.mpr (Nat.le_of_ble_eq_true rfl)) (j_evw (s_X8_putNumber_68 h2 h3 h4 h5 h6 h7 h8) ((if_neg c1).trans ((if_neg c2).trans (rfl)))) rfl ?_
      refine gs_aload hk_19 rfl rfl rfl ?_
      refine gs_dup hk_19 rfl rfl rfl ?_
      refine gs_get hk_19 rfl ((j_fld_sto ((j_arr_stoN h7).trans h6) (by decide)).trans ((j_fld_sto h3 (by decide)).trans h1)) rfl ?_
      refine gs_push (x := 1) hk_19 rfl (by decide) rfl ?_
      refine gs_bin (z := (v1 + 1)) hk_19 rfl rfl rfl ?_
      refine gs_put hk_19 rfl ((j_fld_sto ((j_arr_stoN h7).trans h6) (by decide)).trans ((j_fld_sto h3 (by decide)).trans h1)) rfl rfl rfl ?_
      refine gs_push (x := 0) hk_19 rfl (by decide) rfl ?_
      exact gs_iret hk_19 rfl (Or.inl rfl) rfl
