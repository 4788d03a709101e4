/-! ===== leaves with writing loops (printed by wip/whole/gen27.py) ===== -/
theorem hk_193 : jP[193]? = some (jc_193, 6, [], []) := by rfl
theorem j_nar50 (x : Int32) : j_nar 50 x = x := rfl
theorem t_copies_193 {X : List Int32} {d : Nat} {m : jM} {r qs qd so dp : Nat} {vs us : List Value} (a1 : j_arr m qs 50 = some vs) (b1 : j_arr m qd 50 = some us) (h1 : so + 9 ≤ vs.length) (h2 : dp + 9 ≤ us.length) (h3 : vs.length < 2147483648) (h4 : us.length < 2147483648) (hal : qs ≠ qd ∨ dp ≤ so ∨ so + 9 ≤ dp) : ∃ m', j_Ev X d 193 [.ref (r + 1), .ref (qs + 1), .int (Int32.ofNat so), .ref (qd + 1), .int (Int32.ofNat dp)] m (.inl none, m') ∧ s_fr m m' [qd] ∧ j_arr m' qd 50 = some (j_cpy vs us so dp 9) := by
  have H := g_rex (X := X) (d := d) (k := 193) (n := 9) (m := m) (st := fun j => (2, [.ref (r + 1), .ref (qs + 1), .int (Int32.ofNat so), .ref (qd + 1), .int (Int32.ofNat dp), .int (Int32.ofNat j)], [])) (fun j m' => s_fr m m' [qd] ∧ j_arr m' qd 50 = some (j_cpy vs us so dp j)) ⟨s_fr.refl _ _, by rw [j_cpy_0]; exact b1⟩ (by
    intro j m1 hj ⟨hf, hi⟩
    refine ⟨j_sto m1 qd (dp + j) (.int (j_iv (vs.getD (so + j) .null))), ⟨hf.trans (s_fr_sto ..), by rw [j_arr_sto hi, j_cpy_s]⟩, fun o hn => ?_⟩
    have hs : ∃ ws, j_arr m1 qs 50 = some ws ∧ ws.length = vs.length ∧ ws.getD (so + j) .null = vs.getD (so + j) .null := by
      by_cases hq : qs = qd
      · subst hq
        have hvu : vs = us := Option.some.inj (a1.symm.trans b1)
        subst hvu
        refine ⟨_, hi, j_cpy_len .., ?_⟩
        rw [j_cpy_get, if_pos (by omega)]
        have hn : ¬ (dp ≤ so + j ∧ so + j < dp + j) := by
          rcases hal with h | h | h
          · exact absurd rfl h
          · omega
          · omega
        rw [if_neg hn]
      · exact ⟨vs, (hf.arr (by simpa using hq)).trans a1, rfl, rfl⟩
    obtain ⟨ws, c1, c2, c3⟩ := hs
    have e1 : (Int32.ofNat (dp + j)).toNatClampNeg = dp + j := n_clamp (by omega)
    have e2 : j_sto m1 qd (Int32.ofNat (dp + j)).toNatClampNeg (.int (j_nar 50 (j_iv (vs.getD (so + j) .null)))) = j_sto m1 qd (dp + j) (.int (j_iv (vs.getD (so + j) .null))) := by rw [e1, j_nar50]
    refine gs_iload hk_193 rfl rfl rfl ?_
    refine gs_push (x := 9) hk_193 rfl (by decide) rfl ?_
    refine gs_icF hk_193 rfl (n_c3F (i := j) (n := 9) (by omega) (by decide) hj) rfl ?_
    refine gs_aload hk_193 rfl rfl rfl ?_
    refine gs_iload hk_193 rfl rfl rfl ?_
    refine gs_iload hk_193 rfl rfl rfl ?_
    refine gs_bin (z := (Int32.ofNat (dp + j))) hk_193 rfl (congrArg some (n_add dp j)) rfl ?_
    refine gs_aload hk_193 rfl rfl rfl ?_
    refine gs_iload hk_193 rfl rfl rfl ?_
    refine gs_iload hk_193 rfl rfl rfl ?_
    refine gs_bin (z := (Int32.ofNat (so + j))) hk_193 rfl (congrArg some (n_add so j)) rfl ?_
    refine gs_ald (y := j_iv (vs.getD (so + j) .null)) hk_193 rfl c1 (n_ix (by omega) (by omega)) (by rw [n_clamp (by omega), c3]) rfl ?_
    refine gs_ast hk_193 rfl hi (n_ix (by omega) (by rw [j_cpy_len]; omega)) e2 rfl ?_
    refine gs_iinc (y := (Int32.ofNat (j + 1))) hk_193 rfl rfl (n_succ j) rfl rfl ?_
    exact gs_goto hk_193 rfl (hn))
  obtain ⟨m', ⟨i1, i2⟩, H⟩ := H
  refine ⟨m', e_of hk_193 ?_, i1, i2⟩
  refine gs_push (x := 0) hk_193 rfl (by decide) rfl ?_
  refine gs_istore hk_193 rfl (Nat.le_of_ble_eq_true rfl) rfl rfl ?_
  refine H _ ?_
  refine gs_iload hk_193 rfl rfl rfl ?_
  refine gs_push (x := 9) hk_193 rfl (by decide) rfl ?_
  refine gs_icT hk_193 rfl (n_c3T (i := 9) (n := 9) (by decide) (by decide) (Nat.le_refl 9)) ?_
  exact gs_ret hk_193 rfl rfl
