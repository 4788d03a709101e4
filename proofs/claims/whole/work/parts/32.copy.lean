/-! ===== the store copies one value (printed by wip/whole/gen32.py) ===== -/
theorem hk_71 : jP[71]? = some (jc_71, 5, [], []) := by rfl
theorem n_mul8 (n : Nat) : Int32.ofNat n * 8 = Int32.ofNat (n * 8) := (Int32.ofNat_mul n 8).symm
theorem t_copy_71 {X : List Int32} {d : Nat} {m : jM} {r w qa pa qb pb i k : Nat} {K V K2 V2 : Nat → Int32} (hA : s_st m r qa pa K V) (hB : s_st m w qb pb K2 V2) (h1 : pb ≠ qa) (h2 : pb ≠ pa) (hi : i < 27) (hk : k < 27) : ∃ m', j_Ev X d 71 [.ref (r + 1), .int (Int32.ofNat i), .ref (w + 1), .int (Int32.ofNat k)] m (.inl none, m') ∧ s_fr m m' [qa, pa] ∧ s_st m' r qa pa (fun z => if z = i then K2 k else K z) (fun z => if i * 8 ≤ z ∧ z < i * 8 + 8 then V2 (k * 8 + (z - i * 8)) else V z) := by
  obtain ⟨ka, va, a0, a1, a2, a3, a4, a5, a6, a7, a8⟩ := hA
  obtain ⟨kb, vb, b0, b1, b2, b3, b4, b5, b6, b7, b8⟩ := hB
  have hra : r ≠ qa := j_tags a0 a2 (by decide)
  have hrp : r ≠ pa := j_tags a0 a3 (by decide)
  have hwa : w ≠ qa := j_tags b0 a2 (by decide)
  have hwp : w ≠ pa := j_tags b0 a3 (by decide)
  have f0 := s_fr_sto m qa i (.int (K2 k))
  have a3' : j_arr (j_sto m qa i (.int (K2 k))) pa 50 = some va := (f0.arr (by simpa using a8.symm)).trans a3
  have H := g_rex (X := X) (d := d) (k := 71) (n := 8) (m := j_sto m qa i (.int (K2 k))) (st := fun j => (20, [.ref (r + 1), .int (Int32.ofNat i), .ref (w + 1), .int (Int32.ofNat k), .int (Int32.ofNat j)], [])) (fun j m' => s_fr (j_sto m qa i (.int (K2 k))) m' [pa] ∧ j_arr m' pa 50 = some (j_cpy vb va (k * 8) (i * 8) j)) ⟨s_fr.refl _ _, by rw [j_cpy_0]; exact a3'⟩ (by
    intro j m1 hj ⟨hf, hv⟩
    refine ⟨j_sto m1 pa (i * 8 + j) (.int (j_iv (vb.getD (k * 8 + j) .null))), ⟨hf.trans (s_fr_sto ..), by rw [j_arr_sto hv, j_cpy_s]⟩, fun o hn => ?_⟩
    have c1 : j_fld m1 r 8 1 = some (.ref (pa + 1)) := (hf.fld (by simpa using hrp)).trans ((f0.fld (by simpa using hra)).trans a1)
    have c2 : j_fld m1 w 8 1 = some (.ref (pb + 1)) := (hf.fld (by simpa using hwp)).trans ((f0.fld (by simpa using hwa)).trans b1)
    have c3 : j_arr m1 pb 50 = some vb := (hf.arr (by simpa using h2)).trans ((f0.arr (by simpa using h1)).trans b3)
    have e1 : (Int32.ofNat (i * 8 + j)).toNatClampNeg = i * 8 + j := n_clamp (by omega)
    have e2 : j_sto m1 pa (Int32.ofNat (i * 8 + j)).toNatClampNeg (.int (j_nar 50 (j_iv (vb.getD (k * 8 + j) .null)))) = j_sto m1 pa (i * 8 + j) (.int (j_iv (vb.getD (k * 8 + j) .null))) := by rw [e1, j_nar50]
    refine gs_iload hk_71 rfl rfl rfl ?_
    refine gs_push (x := 8) hk_71 rfl (by decide) rfl ?_
    refine gs_icF hk_71 rfl (n_c3F (i := j) (n := 8) (by omega) (by decide) hj) rfl ?_
    refine gs_aload hk_71 rfl rfl rfl ?_
    refine gs_get hk_71 rfl c1 rfl ?_
    refine gs_iload hk_71 rfl rfl rfl ?_
    refine gs_push (x := 8) hk_71 rfl (by decide) rfl ?_
    refine gs_bin (z := (Int32.ofNat (i * 8))) hk_71 rfl (congrArg some (n_mul8 i)) rfl ?_
    refine gs_iload hk_71 rfl rfl rfl ?_
    refine gs_bin (z := (Int32.ofNat (i * 8 + j))) hk_71 rfl (congrArg some (n_add (i * 8) j)) rfl ?_
    refine gs_aload hk_71 rfl rfl rfl ?_
    refine gs_get hk_71 rfl c2 rfl ?_
    refine gs_iload hk_71 rfl rfl rfl ?_
    refine gs_push (x := 8) hk_71 rfl (by decide) rfl ?_
    refine gs_bin (z := (Int32.ofNat (k * 8))) hk_71 rfl (congrArg some (n_mul8 k)) rfl ?_
    refine gs_iload hk_71 rfl rfl rfl ?_
    refine gs_bin (z := (Int32.ofNat (k * 8 + j))) hk_71 rfl (congrArg some (n_add (k * 8) j)) rfl ?_
    refine gs_ald (y := j_iv (vb.getD (k * 8 + j) .null)) hk_71 rfl c3 (n_ix (by omega) (by omega)) (by rw [n_clamp (by omega)]) rfl ?_
    refine gs_ast hk_71 rfl hv (n_ix (by omega) (by rw [j_cpy_len]; omega)) e2 rfl ?_
    refine gs_iinc (y := (Int32.ofNat (j + 1))) hk_71 rfl rfl (n_succ j) rfl rfl ?_
    exact gs_goto hk_71 rfl (hn))
  obtain ⟨m', ⟨i1, i2⟩, H⟩ := H
  have e3 : (Int32.ofNat i).toNatClampNeg = i := n_clamp (by omega)
  have e4 : j_sto m qa (Int32.ofNat i).toNatClampNeg (.int (j_nar 50 (K2 k))) = j_sto m qa i (.int (K2 k)) := by rw [e3, j_nar50]
  refine ⟨m', e_of hk_71 ?_, (f0.mono (by simp)).trans (i1.mono (by simp)), ⟨ka.set i (.int (K2 k)), _, (i1.fld (by simpa using hrp)).trans ((f0.fld (by simpa using hra)).trans a0), (i1.fld (by simpa using hrp)).trans ((f0.fld (by simpa using hra)).trans a1), (i1.arr (by simpa using a8)).trans (j_arr_sto a2), i2, by rw [List.length_set]; exact a4, by rw [j_cpy_len]; exact a5, fun z hz => ?_, fun z hz => ?_, a8⟩⟩
  · refine gs_iload hk_71 rfl rfl rfl ?_
    refine gs_ifF hk_71 rfl (n_c2F (by omega)) rfl ?_
    refine gs_iload hk_71 rfl rfl rfl ?_
    refine gs_push (x := 27) hk_71 rfl (by decide) rfl ?_
    refine gs_icF hk_71 rfl (n_c3F (i := i) (n := 27) (by omega) (by decide) hi) rfl ?_
    refine gs_iload hk_71 rfl rfl rfl ?_
    refine gs_ifF hk_71 rfl (n_c2F (by omega)) rfl ?_
    refine gs_iload hk_71 rfl rfl rfl ?_
    refine gs_push (x := 27) hk_71 rfl (by decide) rfl ?_
    refine gs_icF hk_71 rfl (n_c3F (i := k) (n := 27) (by omega) (by decide) hk) rfl ?_
    refine gs_aload hk_71 rfl rfl rfl ?_
    refine gs_get hk_71 rfl a0 rfl ?_
    refine gs_iload hk_71 rfl rfl rfl ?_
    refine gs_aload hk_71 rfl rfl rfl ?_
    refine gs_get hk_71 rfl b0 rfl ?_
    refine gs_iload hk_71 rfl rfl rfl ?_
    refine gs_ald (y := K2 k) hk_71 rfl b2 (n_ix (by omega) (by omega)) (by rw [n_clamp (by omega)]; exact b6 k hk) rfl ?_
    refine gs_ast hk_71 rfl a2 (n_ix (by omega) (by omega)) e4 rfl ?_
    refine gs_push (x := 0) hk_71 rfl (by decide) rfl ?_
    refine gs_istore hk_71 rfl (Nat.le_of_ble_eq_true rfl) rfl rfl ?_
    refine H _ ?_
    refine gs_iload hk_71 rfl rfl rfl ?_
    refine gs_push (x := 8) hk_71 rfl (by decide) rfl ?_
    refine gs_icT hk_71 rfl (n_c3T (i := 8) (n := 8) (by decide) (by decide) (Nat.le_refl 8)) ?_
    exact gs_ret hk_71 rfl rfl
  · show j_iv ((ka.set i (.int (K2 k))).getD z .null) = if z = i then K2 k else K z
    by_cases hzi : z = i
    · subst hzi
      rw [if_pos rfl, List.getD_eq_getElem?_getD, List.getElem?_set_self (by omega)]; rfl
    · rw [if_neg hzi, List.getD_eq_getElem?_getD, List.getElem?_set_ne (Ne.symm hzi), ← List.getD_eq_getElem?_getD]; exact a6 z hz
  · show j_iv ((j_cpy vb va (k * 8) (i * 8) 8).getD z .null) = if i * 8 ≤ z ∧ z < i * 8 + 8 then V2 (k * 8 + (z - i * 8)) else V z
    rw [j_cpy_get, if_pos (by omega)]
    by_cases hr : i * 8 ≤ z ∧ z < i * 8 + 8
    · rw [if_pos hr, if_pos hr]
      exact b7 _ (by omega)
    · rw [if_neg hr, if_neg hr]
      exact a7 z hz
