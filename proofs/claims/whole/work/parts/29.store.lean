/-! ===== the class's store of values: 27 shapes, 216 items (printed by wip/whole/gen29.py) ===== -/
def s_st (m : jM) (r q p : Nat) (K V : Nat → Int32) : Prop := ∃ ks vs, j_fld m r 8 0 = some (.ref (q + 1)) ∧ j_fld m r 8 1 = some (.ref (p + 1)) ∧ j_arr m q 50 = some ks ∧ j_arr m p 50 = some vs ∧ ks.length = 27 ∧ vs.length = 216 ∧ (∀ i, i < 27 → j_iv (ks.getD i .null) = K i) ∧ (∀ i, i < 216 → j_iv (vs.getD i .null) = V i) ∧ q ≠ p
theorem s_st.fr {m m' : jM} {r q p : Nat} {K V : Nat → Int32} {W : List Nat} (h : s_st m r q p K V) (hf : s_fr m m' W) (hr : r ∉ W) (hq : q ∉ W) (hp : p ∉ W) : s_st m' r q p K V := by
  obtain ⟨ks, vs, h0, h1, h2, h3, h4⟩ := h
  exact ⟨ks, vs, (hf.fld hr).trans h0, (hf.fld hr).trans h1, (hf.arr hq).trans h2, (hf.arr hp).trans h3, h4⟩
theorem n_c2F {i : Nat} (hi : i < 2147483648) : j_cond 2 (Int32.ofNat i) 0 = false := by
  have : ¬ Int32.ofNat i < Int32.ofNat 0 := by rw [n_lt hi (by decide)]; omega
  exact decide_eq_false this
theorem hk_74 : jP[74]? = some (jc_74, 2, [], []) := by rfl
theorem t_areNumbersAlone_74 {X : List Int32} {d : Nat} {m : jM} {r q p : Nat} {K V : Nat → Int32} (h : s_st m r q p K V) : j_Ev X d 74 [.ref (r + 1)] m (.inl (some (.int (if (List.range 27).all (fun i => decide (K i < 2)) = true then 1 else 0))), m) := by
  obtain ⟨ks, vs, h0, h1, h2, h3, h4, h5, h6, h7, h8⟩ := h
  refine e_of hk_74 ?_
  refine gs_push (x := 0) hk_74 rfl (by decide) rfl ?_
  refine gs_istore hk_74 rfl (Nat.le_of_ble_eq_true rfl) rfl rfl ?_
  have hq : (List.range 27).findIdx (fun i => !decide (K i < 2)) ≤ 27 := by
    have := List.findIdx_le_length (p := fun i => !decide (K i < 2)) (xs := List.range 27)
    rwa [List.length_range] at this
  generalize hz : (List.range 27).findIdx (fun i => !decide (K i < 2)) = z at hq
  have hlo : ∀ j, j < z → K j < 2 := by
    intro j hj
    have := List.not_of_lt_findIdx (p := fun i => !decide (K i < 2)) (xs := List.range 27) (i := j) (by rw [hz]; exact hj)
    simpa using this
  refine g_rep (n := z) (st := fun j => (2, [.ref (r + 1), .int (Int32.ofNat j)], [])) (mm := fun _ => m) ?_ ?_
  · intro j hj hn
    have hjb : j < 27 := by omega
    have hk := hlo j hj
    refine gs_iload hk_74 rfl rfl rfl ?_
    refine gs_push (x := 27) hk_74 rfl (by decide) rfl ?_
    refine gs_icF hk_74 rfl (n_c3F (i := j) (n := 27) (by omega) (by decide) hjb) rfl ?_
    refine gs_aload hk_74 rfl rfl rfl ?_
    refine gs_get hk_74 rfl h0 rfl ?_
    refine gs_iload hk_74 rfl rfl rfl ?_
    refine gs_ald (y := K j) hk_74 rfl h2 (n_ix (by omega) (by omega)) (by rw [n_clamp (by omega)]; exact h6 j hjb) rfl ?_
    refine gs_push (x := 2) hk_74 rfl (by decide) rfl ?_
    refine gs_icT hk_74 rfl (decide_eq_true hk) ?_
    refine gs_iinc (y := (Int32.ofNat (j + 1))) hk_74 rfl rfl (n_succ j) rfl rfl ?_
    exact gs_goto hk_74 rfl (hn)
  · by_cases hc : z < 27
    · have hne : ¬ K z < 2 := by
        have := List.findIdx_getElem (p := fun i => !decide (K i < 2)) (xs := List.range 27) (w := by rw [hz, List.length_range]; exact hc)
        simp only [hz] at this
        simpa using this
      rw [if_neg (fun h => hne (of_decide_eq_true (List.all_eq_true.mp h z (List.mem_range.mpr hc))))]
      refine gs_iload hk_74 rfl rfl rfl ?_
      refine gs_push (x := 27) hk_74 rfl (by decide) rfl ?_
      refine gs_icF hk_74 rfl (n_c3F (i := z) (n := 27) (by omega) (by decide) hc) rfl ?_
      refine gs_aload hk_74 rfl rfl rfl ?_
      refine gs_get hk_74 rfl h0 rfl ?_
      refine gs_iload hk_74 rfl rfl rfl ?_
      refine gs_ald (y := K z) hk_74 rfl h2 (n_ix (by omega) (by omega)) (by rw [n_clamp (by omega)]; exact h6 z hc) rfl ?_
      refine gs_push (x := 2) hk_74 rfl (by decide) rfl ?_
      refine gs_icF hk_74 rfl (decide_eq_false hne) rfl ?_
      refine gs_push (x := 0) hk_74 rfl (by decide) rfl ?_
      exact gs_iret hk_74 rfl (Or.inr (by decide)) rfl
    · rw [if_pos (List.all_eq_true.mpr (fun i hi => decide_eq_true (hlo i (by have := List.mem_range.mp hi; omega))))]
      refine gs_iload hk_74 rfl rfl rfl ?_
      refine gs_push (x := 27) hk_74 rfl (by decide) rfl ?_
      refine gs_icT hk_74 rfl (n_c3T (i := z) (n := 27) (by omega) (by decide) (by omega)) ?_
      refine gs_push (x := 1) hk_74 rfl (by decide) rfl ?_
      exact gs_iret hk_74 rfl (Or.inr (by decide)) rfl
theorem hk_72 : jP[72]? = some (jc_72, 2, [], []) := by rfl
theorem t_takeAll_72 {X : List Int32} {d : Nat} {m : jM} {r w qa pa qb pb : Nat} {K V K2 V2 : Nat → Int32} (hA : s_st m r qa pa K V) (hB : s_st m w qb pb K2 V2) (hp : pb ≠ qa) : ∃ m', j_Ev X d 72 [.ref (r + 1), .ref (w + 1)] m (.inl none, m') ∧ s_fr m m' [qa, pa] ∧ s_st m' r qa pa K2 V2 := by
  obtain ⟨ka, va, a0, a1, a2, a3, a4, a5, a6, a7, a8⟩ := hA
  obtain ⟨kb, vb, b0, b1, b2, b3, b4, b5, b6, b7, b8⟩ := hB
  have hra : r ≠ qa := j_tags a0 a2 (by decide)
  have hrp : r ≠ pa := j_tags a0 a3 (by decide)
  have hwa : w ≠ qa := j_tags b0 a2 (by decide)
  have f1 := j_cp_fr m qa kb ka 0 0 27
  have c0 : j_fld (j_cp m qa kb ka 0 0 27) w 8 1 = some (.ref (pb + 1)) := (f1.fld (by simpa using hwa)).trans b1
  have c1 : j_fld (j_cp m qa kb ka 0 0 27) r 8 1 = some (.ref (pa + 1)) := (f1.fld (by simpa using hra)).trans a1
  have c2 : j_arr (j_cp m qa kb ka 0 0 27) pb 50 = some vb := (f1.arr (by simpa using hp)).trans b3
  have c3 : j_arr (j_cp m qa kb ka 0 0 27) pa 50 = some va := (f1.arr (by simpa using a8.symm)).trans a3
  have f2 := j_cp_fr (j_cp m qa kb ka 0 0 27) pa vb va 0 0 216
  refine ⟨j_cp (j_cp m qa kb ka 0 0 27) pa vb va 0 0 216, e_of hk_72 ?_, (f1.mono (by simp)).trans (f2.mono (by simp)), ⟨_, _, (f2.fld (by simpa using hrp)).trans ((f1.fld (by simpa using hra)).trans a0), (f2.fld (by simpa using hrp)).trans c1, (f2.arr (by simpa using a8)).trans (j_cp_arr a2), j_cp_arr c3, by rw [j_cpy_len]; exact a4, by rw [j_cpy_len]; exact a5, fun i hi => ?_, fun i hi => ?_, a8⟩⟩
  · refine gs_aload hk_72 rfl rfl rfl ?_
    refine gs_get hk_72 rfl b0 rfl ?_
    refine gs_push (x := 0) hk_72 rfl (by decide) rfl ?_
    refine gs_aload hk_72 rfl rfl rfl ?_
    refine gs_get hk_72 rfl a0 rfl ?_
    refine gs_push (x := 0) hk_72 rfl (by decide) rfl ?_
    refine gs_push (x := 27) hk_72 rfl (by decide) rfl ?_
    refine gs_acopy hk_72 rfl b2 a2 ⟨by decide, by decide, by decide, by rw [b4]; decide, by rw [a4]; decide⟩ (Nat.le_of_ble_eq_true rfl) (rfl) rfl ?_
    refine gs_aload hk_72 rfl rfl rfl ?_
    refine gs_get hk_72 rfl c0 rfl ?_
    refine gs_push (x := 0) hk_72 rfl (by decide) rfl ?_
    refine gs_aload hk_72 rfl rfl rfl ?_
    refine gs_get hk_72 rfl c1 rfl ?_
    refine gs_push (x := 0) hk_72 rfl (by decide) rfl ?_
    refine gs_push (x := 216) hk_72 rfl (by decide) rfl ?_
    refine gs_acopy hk_72 rfl c2 c3 ⟨by decide, by decide, by decide, by rw [b5]; decide, by rw [a5]; decide⟩ (Nat.le_of_ble_eq_true rfl) (rfl) rfl ?_
    exact gs_ret hk_72 rfl rfl
  · rw [j_cpy_get, if_pos (by omega), if_pos (by omega)]
    show j_iv (kb.getD (0 + (i - 0)) .null) = K2 i
    rw [Nat.zero_add, Nat.sub_zero]; exact b6 i hi
  · rw [j_cpy_get, if_pos (by omega), if_pos (by omega)]
    show j_iv (vb.getD (0 + (i - 0)) .null) = V2 i
    rw [Nat.zero_add, Nat.sub_zero]; exact b7 i hi
