/-! ===== the store takes a number (printed by wip/whole/gen33.py) ===== -/
theorem j_set_iv {ks : List Value} {i z : Nat} {v : Int32} {K : Nat → Int32} (hi : i < ks.length) (h : j_iv (ks.getD z .null) = K z) : j_iv ((ks.set i (.int v)).getD z .null) = if z = i then v else K z := by
  by_cases hzi : z = i
  · subst hzi
    rw [if_pos rfl, List.getD_eq_getElem?_getD, List.getElem?_set_self hi]; rfl
  · rw [if_neg hzi, List.getD_eq_getElem?_getD, List.getElem?_set_ne (Ne.symm hzi), ← List.getD_eq_getElem?_getD]; exact h
theorem t_putNumber_68 {X : List Int32} {d : Nat} {m : jM} {r q p i : Nat} {v : Int32} {K V : Nat → Int32} (hA : s_st m r q p K V) (hi : i < 27) : ∃ m', j_Ev X d 68 [.ref (r + 1), .int (Int32.ofNat i), .int v] m (.inl none, m') ∧ s_fr m m' [q, p] ∧ s_st m' r q p (fun z => if z = i then 1 else K z) (fun z => if z = i * 8 then v else V z) := by
  obtain ⟨ks, vs, a0, a1, a2, a3, a4, a5, a6, a7, a8⟩ := hA
  have hrq : r ≠ q := j_tags a0 a2 (by decide)
  have hrp : r ≠ p := j_tags a0 a3 (by decide)
  have f0 := s_fr_sto m q i (.int 1)
  have f1 := s_fr_sto (j_sto m q i (.int 1)) p (i * 8) (.int v)
  have c1 : j_fld (j_sto m q i (.int 1)) r 8 1 = some (.ref (p + 1)) := (f0.fld (by simpa using hrq)).trans a1
  have c3 : j_arr (j_sto m q i (.int 1)) p 50 = some vs := (f0.arr (by simpa using a8.symm)).trans a3
  have e1 : (Int32.ofNat i).toNatClampNeg = i := n_clamp (by omega)
  have e2 : (Int32.ofNat (i * 8)).toNatClampNeg = i * 8 := n_clamp (by omega)
  have e3 : j_sto m q (Int32.ofNat i).toNatClampNeg (.int (j_nar 50 1)) = j_sto m q i (.int 1) := by rw [e1, j_nar50]
  have e4 : j_sto (j_sto m q i (.int 1)) p (Int32.ofNat (i * 8)).toNatClampNeg (.int (j_nar 50 v)) = j_sto (j_sto m q i (.int 1)) p (i * 8) (.int v) := by rw [e2, j_nar50]
  refine ⟨j_sto (j_sto m q i (.int 1)) p (i * 8) (.int v), e_of hk_68 ?_, (f0.mono (by simp)).trans (f1.mono (by simp)), ⟨ks.set i (.int 1), vs.set (i * 8) (.int v), (f1.fld (by simpa using hrp)).trans ((f0.fld (by simpa using hrq)).trans a0), (f1.fld (by simpa using hrp)).trans c1, (f1.arr (by simpa using a8)).trans (j_arr_sto a2), j_arr_sto c3, by rw [List.length_set]; exact a4, by rw [List.length_set]; exact a5, fun z hz => j_set_iv (by omega) (a6 z hz), fun z hz => j_set_iv (by omega) (a7 z hz), a8⟩⟩
  refine gs_iload hk_68 rfl rfl rfl ?_
  refine gs_ifF hk_68 rfl (n_c2F (by omega)) rfl ?_
  refine gs_iload hk_68 rfl rfl rfl ?_
  refine gs_push (x := 27) hk_68 rfl (by decide) rfl ?_
  refine gs_icF hk_68 rfl (n_c3F (i := i) (n := 27) (by omega) (by decide) hi) rfl ?_
  refine gs_aload hk_68 rfl rfl rfl ?_
  refine gs_get hk_68 rfl a0 rfl ?_
  refine gs_iload hk_68 rfl rfl rfl ?_
  refine gs_push (x := 1) hk_68 rfl (by decide) rfl ?_
  refine gs_ast hk_68 rfl a2 (n_ix (by omega) (by omega)) e3 rfl ?_
  refine gs_aload hk_68 rfl rfl rfl ?_
  refine gs_get hk_68 rfl c1 rfl ?_
  refine gs_iload hk_68 rfl rfl rfl ?_
  refine gs_push (x := 8) hk_68 rfl (by decide) rfl ?_
  refine gs_bin (z := (Int32.ofNat (i * 8))) hk_68 rfl (congrArg some (n_mul8 i)) rfl ?_
  refine gs_iload hk_68 rfl rfl rfl ?_
  refine gs_ast hk_68 rfl c3 (n_ix (by omega) (by omega)) e4 rfl ?_
  exact gs_ret hk_68 rfl rfl
