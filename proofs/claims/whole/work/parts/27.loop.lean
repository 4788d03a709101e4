/-! ===== leaves with writing loops (printed by wip/whole/gen27.py) ===== -/
theorem hk_193 : jP[193]? = some (jc_193, 6, [], []) := by rfl
theorem j_nar50 (x : Int32) : j_nar 50 x = x := rfl
theorem t_copies_193 {X : List Int32} {d : Nat} {m : jM} {r qs qd so dp : Nat} {vs us : List Value} (a1 : j_arr m qs 50 = some vs) (b1 : j_arr m qd 50 = some us) (h1 : so + 9 ≤ vs.length) (h2 : dp + 9 ≤ us.length) (h3 : vs.length < 2147483648) (h4 : us.length < 2147483648) (hal : qs ≠ qd ∨ dp ≤ so ∨ so + 9 ≤ dp) : ∃ m', j_Ev X d 193 [.ref (r + 1), .ref (qs + 1), .int (Int32.ofNat so), .ref (qd + 1), .int (Int32.ofNat dp)] m (.inl none, m') ∧ s_fr m m' [qd] ∧ j_arr m' qd 50 = some (j_cpy vs us so dp 9) := by
  have H := g_rex (X := X) (d := d) (k := 193) (n := 9) (m := m) (st := fun j => (2, [.ref (r + 1), .ref (qs + 1), .int (Int32.ofNat so), .ref (qd + 1), .int (Int32.ofNat dp), .int (Int32.ofNat j)], [])) (fun j m' => s_fr m m' [qd] ∧ j_arr m' qd 50 = some (j_cpy vs us so dp j)) ⟨s_fr.refl _ _, by rw [j_cpy_0]; exact b1⟩ (by
    intro j m1 hj ⟨hf, hi⟩
    refine ⟨j_sto m1 qd (dp + j) (.int (j_iv (vs.getD (so + j) .null))), ⟨hf.trans (s_fr_sto ..), by rw [j_arr_sto hi, j_cpy_s]⟩, fun o hn => ?_⟩
    have hs : ∃ ws, j_arr m1 qs 50 = some ws ∧ ws.length = vs.length ∧ ws.getD (so + j) .null = vs.getD (so + j) .null := by
      by_cases hq : qs = qd
      · subst hq
        have hvu : vs = us := Option.some.inj (a1.symm.trans b1)
        subst hvu
        refine ⟨_, hi, j_cpy_len .., ?_⟩
        rw [j_cpy_get, if_pos (by omega)]
        have hn : ¬ (dp ≤ so + j ∧ so + j < dp + j) := by
          rcases hal with h | h | h
          · exact absurd rfl h
          · omega
          · omega
        rw [if_neg hn]
      · exact ⟨vs, (hf.arr (by simpa using hq)).trans a1, rfl, rfl⟩
    obtain ⟨ws, c1, c2, c3⟩ := hs
    have e1 : (Int32.ofNat (dp + j)).toNatClampNeg = dp + j := n_clamp (by omega)
    have e2 : j_sto m1 qd (Int32.ofNat (dp + j)).toNatClampNeg (.int (j_nar 50 (j_iv (vs.getD (so + j) .null)))) = j_sto m1 qd (dp + j) (.int (j_iv (vs.getD (so + j) .null))) := by rw [e1, j_nar50]
    refine gs_iload hk_193 rfl rfl rfl ?_
    refine gs_push (x := 9) hk_193 rfl (by decide) rfl ?_
    refine gs_icF hk_193 rfl (n_c3F (i := j) (n := 9) (by omega) (by decide) hj) rfl ?_
    refine gs_aload hk_193 rfl rfl rfl ?_
    refine gs_iload hk_193 rfl rfl rfl ?_
    refine gs_iload hk_193 rfl rfl rfl ?_
    refine gs_bin (z := (Int32.ofNat (dp + j))) hk_193 rfl (congrArg some (n_add dp j)) rfl ?_
    refine gs_aload hk_193 rfl rfl rfl ?_
    refine gs_iload hk_193 rfl rfl rfl ?_
    refine gs_iload hk_193 rfl rfl rfl ?_
    refine gs_bin (z := (Int32.ofNat (so + j))) hk_193 rfl (congrArg some (n_add so j)) rfl ?_
    refine gs_ald (y := j_iv (vs.getD (so + j) .null)) hk_193 rfl c1 (n_ix (by omega) (by omega)) (by rw [n_clamp (by omega), c3]) rfl ?_
    refine gs_ast hk_193 rfl hi (n_ix (by omega) (by rw [j_cpy_len]; omega)) e2 rfl ?_
    refine gs_iinc (y := (Int32.ofNat (j + 1))) hk_193 rfl rfl (n_succ j) rfl rfl ?_
    exact gs_goto hk_193 rfl (hn))
  obtain ⟨m', ⟨i1, i2⟩, H⟩ := H
  refine ⟨m', e_of hk_193 ?_, i1, i2⟩
  refine gs_push (x := 0) hk_193 rfl (by decide) rfl ?_
  refine gs_istore hk_193 rfl (Nat.le_of_ble_eq_true rfl) rfl rfl ?_
  refine H _ ?_
  refine gs_iload hk_193 rfl rfl rfl ?_
  refine gs_push (x := 9) hk_193 rfl (by decide) rfl ?_
  refine gs_icT hk_193 rfl (n_c3T (i := 9) (n := 9) (by decide) (by decide) (Nat.le_refl 9)) ?_
  exact gs_ret hk_193 rfl rfl
theorem hk_221 : jP[221]? = some (jc_221, 5, [], []) := by rfl
theorem t_moves_221 {X : List Int32} {d : Nat} {m : jM} {q so dp n : Nat} {vs : List Value} (a1 : j_arr m q 50 = some vs) (h1 : so + n ≤ vs.length) (h2 : dp + n ≤ vs.length) (h3 : vs.length < 2147483648) (hal : dp ≤ so ∨ so + n ≤ dp) : ∃ m', j_Ev X d 221 [.ref (q + 1), .int (Int32.ofNat so), .int (Int32.ofNat dp), .int (Int32.ofNat n)] m (.inl none, m') ∧ s_fr m m' [q] ∧ j_arr m' q 50 = some (j_cpy vs vs so dp n) := by
  have H := g_rex (X := X) (d := d) (k := 221) (n := n) (m := m) (st := fun j => (2, [.ref (q + 1), .int (Int32.ofNat so), .int (Int32.ofNat dp), .int (Int32.ofNat n), .int (Int32.ofNat j)], [])) (fun j m' => s_fr m m' [q] ∧ j_arr m' q 50 = some (j_cpy vs vs so dp j)) ⟨s_fr.refl _ _, by rw [j_cpy_0]; exact a1⟩ (by
    intro j m1 hj ⟨hf, hi⟩
    refine ⟨j_sto m1 q (dp + j) (.int (j_iv (vs.getD (so + j) .null))), ⟨hf.trans (s_fr_sto ..), by rw [j_arr_sto hi, j_cpy_s]⟩, fun o hn => ?_⟩
    have c3 : (j_cpy vs vs so dp j).getD (so + j) .null = vs.getD (so + j) .null := by
      rw [j_cpy_get, if_pos (by omega), if_neg (by omega)]
    have e1 : (Int32.ofNat (dp + j)).toNatClampNeg = dp + j := n_clamp (by omega)
    have e2 : j_sto m1 q (Int32.ofNat (dp + j)).toNatClampNeg (.int (j_nar 50 (j_iv (vs.getD (so + j) .null)))) = j_sto m1 q (dp + j) (.int (j_iv (vs.getD (so + j) .null))) := by rw [e1, j_nar50]
    refine gs_iload hk_221 rfl rfl rfl ?_
    refine gs_iload hk_221 rfl rfl rfl ?_
    refine gs_icF hk_221 rfl (n_c3F (by omega) (by omega) hj) rfl ?_
    refine gs_aload hk_221 rfl rfl rfl ?_
    refine gs_iload hk_221 rfl rfl rfl ?_
    refine gs_iload hk_221 rfl rfl rfl ?_
    refine gs_bin (z := (Int32.ofNat (dp + j))) hk_221 rfl (congrArg some (n_add dp j)) rfl ?_
    refine gs_aload hk_221 rfl rfl rfl ?_
    refine gs_iload hk_221 rfl rfl rfl ?_
    refine gs_iload hk_221 rfl rfl rfl ?_
    refine gs_bin (z := (Int32.ofNat (so + j))) hk_221 rfl (congrArg some (n_add so j)) rfl ?_
    refine gs_ald (y := j_iv (vs.getD (so + j) .null)) hk_221 rfl hi (n_ix (by omega) (by rw [j_cpy_len]; omega)) (by rw [n_clamp (by omega), c3]) rfl ?_
    refine gs_ast hk_221 rfl hi (n_ix (by omega) (by rw [j_cpy_len]; omega)) e2 rfl ?_
    refine gs_iinc (y := (Int32.ofNat (j + 1))) hk_221 rfl rfl (n_succ j) rfl rfl ?_
    exact gs_goto hk_221 rfl (hn))
  obtain ⟨m', ⟨i1, i2⟩, H⟩ := H
  refine ⟨m', e_of hk_221 ?_, i1, i2⟩
  refine gs_push (x := 0) hk_221 rfl (by decide) rfl ?_
  refine gs_istore hk_221 rfl (Nat.le_of_ble_eq_true rfl) rfl rfl ?_
  refine H _ ?_
  refine gs_iload hk_221 rfl rfl rfl ?_
  refine gs_iload hk_221 rfl rfl rfl ?_
  refine gs_icT hk_221 rfl (n_c3T (by omega) (by omega) (Nat.le_refl n)) ?_
  exact gs_ret hk_221 rfl rfl
def j_fil (us : List Value) (f : Nat → Value) (n : Nat) : List Value := (List.range us.length).map (fun i => if i < n then f i else us.getD i .null)
theorem j_fil_len (us : List Value) (f : Nat → Value) (n : Nat) : (j_fil us f n).length = us.length := by simp [j_fil]
theorem j_fil_get {us : List Value} {f : Nat → Value} {n i : Nat} : (j_fil us f n).getD i .null = if i < us.length then (if i < n then f i else us.getD i .null) else .null := by
  by_cases h : i < us.length <;> simp [j_fil, h]
theorem j_fil_0 (us : List Value) (f : Nat → Value) : j_fil us f 0 = us := by
  apply List.ext_getElem (j_fil_len ..)
  intro i h1 h2
  simp [j_fil, h2]
theorem j_fil_s {us : List Value} {f : Nat → Value} {n : Nat} : (j_fil us f n).set n (f n) = j_fil us f (n + 1) := by
  apply List.ext_getElem (by simp [j_fil_len])
  intro i h1 h2
  rw [List.getElem_set]
  have hi : i < us.length := by simpa [j_fil_len] using h2
  by_cases he : n = i
  · subst he
    simp [j_fil]
  · rw [if_neg he]
    have : (i < n) ↔ (i < n + 1) := by omega
    simp [j_fil, this]
theorem hk_67 : jP[67]? = some (jc_67, 2, [], []) := by rfl
theorem t_clear_67 {X : List Int32} {d : Nat} {m : jM} {r q : Nat} {us : List Value} (h0 : j_fld m r 8 0 = some (.ref (q + 1))) (a1 : j_arr m q 50 = some us) (h1 : us.length = 27) : ∃ m', j_Ev X d 67 [.ref (r + 1)] m (.inl none, m') ∧ s_fr m m' [q] ∧ j_arr m' q 50 = some (j_fil us (fun _ => .int 0) 27) := by
  have hrq : r ≠ q := by
    intro h
    subst h
    obtain ⟨fs, e, -⟩ := j_fldE h0
    have := e.symm.trans (j_arrE a1)
    simp at this
  have H := g_rex (X := X) (d := d) (k := 67) (n := 27) (m := m) (st := fun j => (2, [.ref (r + 1), .int (Int32.ofNat j)], [])) (fun j m' => s_fr m m' [q] ∧ j_arr m' q 50 = some (j_fil us (fun _ => .int 0) j)) ⟨s_fr.refl _ _, by rw [j_fil_0]; exact a1⟩ (by
    intro j m1 hj ⟨hf, hi⟩
    refine ⟨j_sto m1 q j (.int 0), ⟨hf.trans (s_fr_sto ..), by rw [j_arr_sto hi]; exact congrArg some j_fil_s⟩, fun o hn => ?_⟩
    have c0 : j_fld m1 r 8 0 = some (.ref (q + 1)) := (hf.fld (by simpa using hrq)).trans h0
    have e1 : (Int32.ofNat j).toNatClampNeg = j := n_clamp (by omega)
    have e2 : j_sto m1 q (Int32.ofNat j).toNatClampNeg (.int (j_nar 50 0)) = j_sto m1 q j (.int 0) := by rw [e1, j_nar50]
    refine gs_iload hk_67 rfl rfl rfl ?_
    refine gs_push (x := 27) hk_67 rfl (by decide) rfl ?_
    refine gs_icF hk_67 rfl (n_c3F (i := j) (n := 27) (by omega) (by decide) hj) rfl ?_
    refine gs_aload hk_67 rfl rfl rfl ?_
    refine gs_get hk_67 rfl c0 rfl ?_
    refine gs_iload hk_67 rfl rfl rfl ?_
    refine gs_push (x := 0) hk_67 rfl (by decide) rfl ?_
    refine gs_ast hk_67 rfl hi (n_ix (by omega) (by rw [j_fil_len]; omega)) e2 rfl ?_
    refine gs_iinc (y := (Int32.ofNat (j + 1))) hk_67 rfl rfl (n_succ j) rfl rfl ?_
    exact gs_goto hk_67 rfl (hn))
  obtain ⟨m', ⟨i1, i2⟩, H⟩ := H
  refine ⟨m', e_of hk_67 ?_, i1, i2⟩
  refine gs_push (x := 0) hk_67 rfl (by decide) rfl ?_
  refine gs_istore hk_67 rfl (Nat.le_of_ble_eq_true rfl) rfl rfl ?_
  refine H _ ?_
  refine gs_iload hk_67 rfl rfl rfl ?_
  refine gs_push (x := 27) hk_67 rfl (by decide) rfl ?_
  refine gs_icT hk_67 rfl (n_c3T (i := 27) (n := 27) (by decide) (by decide) (Nat.le_refl 27)) ?_
  exact gs_ret hk_67 rfl rfl
/-- a text with its row and its room -/
def s_tx (m : jM) (r q n : Nat) (T : List Int32) : Prop := ∃ vs, j_fld m r 7 0 = some (.ref (q + 1)) ∧ j_arr m q 51 = some vs ∧ j_fld m r 7 1 = some (.int (Int32.ofNat T.length)) ∧ T.length ≤ n ∧ vs.length = n ∧ n < 2147483648 ∧ (∀ j, j < T.length → j_iv (vs.getD j .null) = T.getD j 0) ∧ ∀ j, j < T.length → j_nar 51 (T.getD j 0) = T.getD j 0
theorem s_tx.txt {m : jM} {r q n : Nat} {T : List Int32} (h : s_tx m r q n T) : s_txt m r T := by
  obtain ⟨vs, h0, h1, h2, h3, h4, h5, h6, -⟩ := h
  exact ⟨q, vs, h0, h1, h2, h4 ▸ h3, h4 ▸ h5, h6⟩
theorem s_tx.fr {m m' : jM} {r q n : Nat} {T : List Int32} {W : List Nat} (h : s_tx m r q n T) (hf : s_fr m m' W) (hr : r ∉ W) (hq : q ∉ W) : s_tx m' r q n T := by
  obtain ⟨vs, h0, h1, h2, h3⟩ := h
  exact ⟨vs, (hf.fld hr).trans h0, (hf.arr hq).trans h1, (hf.fld hr).trans h2, h3⟩
theorem j_tags {m : jM} {r q t b t2 : Nat} {v : Value} {vs : List Value} (h : j_fld m r t b = some v) (h2 : j_arr m q t2 = some vs) (ht : t ≠ t2) : r ≠ q := by
  intro hq
  subst hq
  obtain ⟨fs, e, -⟩ := j_fldE h
  have := e.symm.trans (j_arrE h2)
  simp only [Option.some.injEq, Prod.mk.injEq] at this
  exact ht this.1
theorem hk_61 : jP[61]? = some (jc_61, 3, [], []) := by rfl
theorem t_take_61 {X : List Int32} {d : Nat} {m : jM} {r w qa qb na nb : Nat} {A B : List Int32} (hA : s_tx m r qa na A) (hB : s_tx m w qb nb B) (hr : r ≠ w) (hq : qa ≠ qb) (hn : B.length ≤ na) : ∃ m', j_Ev X d 61 [.ref (r + 1), .ref (w + 1)] m (.inl none, m') ∧ s_fr m m' [r, qa] ∧ s_tx m' r qa na B := by
  obtain ⟨va, a0, a1, a2, a3, a4, a5, a6, a7⟩ := hA
  obtain ⟨vb, b0, b1, b2, b3, b4, b5, b6, b7⟩ := hB
  have hra : r ≠ qa := j_tags a0 a1 (by decide)
  have hwa : w ≠ qa := j_tags b0 a1 (by decide)
  have H := g_rex (X := X) (d := d) (k := 61) (n := B.length) (m := m) (st := fun j => (2, [.ref (r + 1), .ref (w + 1), .int (Int32.ofNat j)], [])) (fun j m' => s_fr m m' [qa] ∧ j_arr m' qa 51 = some (j_fil va (fun i => .int (B.getD i 0)) j)) ⟨s_fr.refl _ _, by rw [j_fil_0]; exact a1⟩ (by
    intro j m1 hj ⟨hf, hi⟩
    refine ⟨j_sto m1 qa j (.int (B.getD j 0)), ⟨hf.trans (s_fr_sto ..), by rw [j_arr_sto hi]; exact congrArg some j_fil_s⟩, fun o hn => ?_⟩
    have c0 : j_fld m1 r 7 0 = some (.ref (qa + 1)) := (hf.fld (by simpa using hra)).trans a0
    have c1 : j_fld m1 w 7 0 = some (.ref (qb + 1)) := (hf.fld (by simpa using hwa)).trans b0
    have c2 : j_fld m1 w 7 1 = some (.int (Int32.ofNat B.length)) := (hf.fld (by simpa using hwa)).trans b2
    have c3 : j_arr m1 qb 51 = some vb := (hf.arr (by simpa using hq.symm)).trans b1
    have e1 : (Int32.ofNat j).toNatClampNeg = j := n_clamp (by omega)
    have e2 : j_sto m1 qa (Int32.ofNat j).toNatClampNeg (.int (j_nar 51 (B.getD j 0))) = j_sto m1 qa j (.int (B.getD j 0)) := by rw [e1, b7 j hj]
    refine gs_iload hk_61 rfl rfl rfl ?_
    refine gs_aload hk_61 rfl rfl rfl ?_
    refine gs_get hk_61 rfl c2 rfl ?_
    refine gs_icF hk_61 rfl (n_c3F (by omega) (by omega) hj) rfl ?_
    refine gs_aload hk_61 rfl rfl rfl ?_
    refine gs_get hk_61 rfl c0 rfl ?_
    refine gs_iload hk_61 rfl rfl rfl ?_
    refine gs_aload hk_61 rfl rfl rfl ?_
    refine gs_get hk_61 rfl c1 rfl ?_
    refine gs_iload hk_61 rfl rfl rfl ?_
    refine gs_ald (y := B.getD j 0) hk_61 rfl c3 (n_ix (by omega) (by omega)) (by rw [e1]; exact b6 j hj) rfl ?_
    refine gs_ast hk_61 rfl hi (n_ix (by omega) (by rw [j_fil_len]; omega)) e2 rfl ?_
    refine gs_iinc (y := (Int32.ofNat (j + 1))) hk_61 rfl rfl (n_succ j) rfl rfl ?_
    exact gs_goto hk_61 rfl (hn))
  obtain ⟨m1, ⟨i1, i2⟩, H⟩ := H
  have c2 : j_fld m1 w 7 1 = some (.int (Int32.ofNat B.length)) := (i1.fld (by simpa using hwa)).trans b2
  have c4 : j_fld m1 r 7 1 = some (.int (Int32.ofNat A.length)) := (i1.fld (by simpa using hra)).trans a2
  have c5 : j_fld m1 r 7 0 = some (.ref (qa + 1)) := (i1.fld (by simpa using hra)).trans a0
  refine ⟨j_put m1 r 1 (.int (Int32.ofNat B.length)), e_of hk_61 ?_, (i1.mono (by simp)).trans ((s_fr_put ..).mono (by simp)), ⟨_, (j_fld_putN (Or.inr (by decide))).trans c5, (j_arr_put13 c4 (by decide)).trans i2, j_fld_put c4, hn, by rw [j_fil_len]; exact a4, a5, fun j hj => ?_, b7⟩⟩
  · refine gs_push (x := 0) hk_61 rfl (by decide) rfl ?_
    refine gs_istore hk_61 rfl (Nat.le_of_ble_eq_true rfl) rfl rfl ?_
    refine H _ ?_
    refine gs_iload hk_61 rfl rfl rfl ?_
    refine gs_aload hk_61 rfl rfl rfl ?_
    refine gs_get hk_61 rfl c2 rfl ?_
    refine gs_icT hk_61 rfl (n_c3T (by omega) (by omega) (Nat.le_refl _)) ?_
    refine gs_aload hk_61 rfl rfl rfl ?_
    refine gs_aload hk_61 rfl rfl rfl ?_
    refine gs_get hk_61 rfl c2 rfl ?_
    refine gs_put hk_61 rfl c4 rfl rfl rfl ?_
    exact gs_ret hk_61 rfl rfl
  · rw [j_fil_get, if_pos (by omega), if_pos hj]; rfl
