/-! ===== the store begins a row and takes an item (printed by wip/whole/gen39.py) ===== -/
theorem t_putRow_69 {X : List Int32} {d : Nat} {m : jM} {r q p i : Nat} {K V : Nat → Int32} (hA : s_st m r q p K V) (hi : i < 27) : ∃ m', j_Ev X d 69 [.ref (r + 1), .int (Int32.ofNat i)] m (.inl none, m') ∧ s_fr m m' [q] ∧ s_st m' r q p (fun z => if z = i then 2 else K z) V := by
  obtain ⟨ks, vs, a0, a1, a2, a3, a4, a5, a6, a7, a8⟩ := hA
  have hrq : r ≠ q := j_tags a0 a2 (by decide)
  have f0 := s_fr_sto m q i (.int 2)
  have e1 : (Int32.ofNat i).toNatClampNeg = i := n_clamp (by omega)
  have e3 : j_sto m q (Int32.ofNat i).toNatClampNeg (.int (j_nar 50 2)) = j_sto m q i (.int 2) := by rw [e1, j_nar50]
  refine ⟨j_sto m q i (.int 2), e_of hk_69 ?_, f0, ⟨ks.set i (.int 2), vs, (f0.fld (by simpa using hrq)).trans a0, (f0.fld (by simpa using hrq)).trans a1, j_arr_sto a2, (f0.arr (by simpa using a8.symm)).trans a3, by rw [List.length_set]; exact a4, a5, fun z hz => j_set_iv (by omega) (a6 z hz), a7, a8⟩⟩
  refine gs_iload hk_69 rfl rfl rfl ?_
  refine gs_ifF hk_69 rfl (n_c2F (by omega)) rfl ?_
  refine gs_iload hk_69 rfl rfl rfl ?_
  refine gs_push (x := 27) hk_69 rfl (by decide) rfl ?_
  refine gs_icF hk_69 rfl (n_c3F (i := i) (n := 27) (by omega) (by decide) hi) rfl ?_
  refine gs_aload hk_69 rfl rfl rfl ?_
  refine gs_get hk_69 rfl a0 rfl ?_
  refine gs_iload hk_69 rfl rfl rfl ?_
  refine gs_push (x := 2) hk_69 rfl (by decide) rfl ?_
  refine gs_ast hk_69 rfl a2 (n_ix (by omega) (by omega)) e3 rfl ?_
  exact gs_ret hk_69 rfl rfl
theorem t_addItem_70 {X : List Int32} {d : Nat} {m : jM} {r q p i c : Nat} {v : Int32} {K V : Nat → Int32} (hA : s_st m r q p K V) (hi : i < 27) (hc : c < 8) (hk : K i = Int32.ofNat (c + 2)) : ∃ m', j_Ev X d 70 [.ref (r + 1), .int (Int32.ofNat i), .int v] m (.inl none, m') ∧ s_fr m m' [q, p] ∧ s_st m' r q p (fun z => if z = i then Int32.ofNat (c + 3) else K z) (fun z => if z = i * 8 + c then v else V z) := by
  obtain ⟨ks, vs, a0, a1, a2, a3, a4, a5, a6, a7, a8⟩ := hA
  have hrq : r ≠ q := j_tags a0 a2 (by decide)
  have hrp : r ≠ p := j_tags a0 a3 (by decide)
  have f0 := s_fr_sto m p (i * 8 + c) (.int v)
  have f1 := s_fr_sto (j_sto m p (i * 8 + c) (.int v)) q i (.int (Int32.ofNat (c + 3)))
  have c0 : j_fld (j_sto m p (i * 8 + c) (.int v)) r 8 0 = some (.ref (q + 1)) := (f0.fld (by simpa using hrp)).trans a0
  have c1 : j_fld (j_sto m p (i * 8 + c) (.int v)) r 8 1 = some (.ref (p + 1)) := (f0.fld (by simpa using hrp)).trans a1
  have c3 : j_arr (j_sto m p (i * 8 + c) (.int v)) q 50 = some ks := (f0.arr (by simpa using a8)).trans a2
  have e1 : (Int32.ofNat i).toNatClampNeg = i := n_clamp (by omega)
  have e2 : (Int32.ofNat (i * 8 + c)).toNatClampNeg = i * 8 + c := n_clamp (by omega)
  have e3 : j_sto m p (Int32.ofNat (i * 8 + c)).toNatClampNeg (.int (j_nar 50 v)) = j_sto m p (i * 8 + c) (.int v) := by rw [e2, j_nar50]
  have e4 : j_sto (j_sto m p (i * 8 + c) (.int v)) q (Int32.ofNat i).toNatClampNeg (.int (j_nar 50 (Int32.ofNat (c + 3)))) = j_sto (j_sto m p (i * 8 + c) (.int v)) q i (.int (Int32.ofNat (c + 3))) := by rw [e1, j_nar50]
  have e5 : j_iv (ks.getD (Int32.ofNat i).toNatClampNeg .null) = Int32.ofNat (c + 2) := by rw [e1, a6 i hi, hk]
  refine ⟨j_sto (j_sto m p (i * 8 + c) (.int v)) q i (.int (Int32.ofNat (c + 3))), e_of hk_70 ?_, (f0.mono (by simp)).trans (f1.mono (by simp)), ⟨ks.set i (.int (Int32.ofNat (c + 3))), vs.set (i * 8 + c) (.int v), (f1.fld (by simpa using hrq)).trans c0, (f1.fld (by simpa using hrq)).trans c1, j_arr_sto c3, (f1.arr (by simpa using a8.symm)).trans (j_arr_sto a3), by rw [List.length_set]; exact a4, by rw [List.length_set]; exact a5, fun z hz => j_set_iv (by omega) (a6 z hz), fun z hz => j_set_iv (by omega) (a7 z hz), a8⟩⟩
  refine gs_iload hk_70 rfl rfl rfl ?_
  refine gs_ifF hk_70 rfl (n_c2F (by omega)) rfl ?_
  refine gs_iload hk_70 rfl rfl rfl ?_
  refine gs_push (x := 27) hk_70 rfl (by decide) rfl ?_
  refine gs_icF hk_70 rfl (n_c3F (i := i) (n := 27) (by omega) (by decide) hi) rfl ?_
  refine gs_aload hk_70 rfl rfl rfl ?_
  refine gs_get hk_70 rfl a0 rfl ?_
  refine gs_iload hk_70 rfl rfl rfl ?_
  refine gs_ald (y := (Int32.ofNat (c + 2))) hk_70 rfl a2 (n_ix (by omega) (by omega)) (e5) rfl ?_
  refine gs_push (x := 2) hk_70 rfl (by decide) rfl ?_
  refine gs_bin (z := (Int32.ofNat c)) hk_70 rfl (congrArg some (n_pred2 c)) rfl ?_
  refine gs_goto hk_70 rfl ?_
  refine gs_istore hk_70 rfl (Nat.le_of_ble_eq_true rfl) rfl rfl ?_
  refine gs_iload hk_70 rfl rfl rfl ?_
  refine gs_ifF hk_70 rfl (n_c2F (by omega)) rfl ?_
  refine gs_iload hk_70 rfl rfl rfl ?_
  refine gs_push (x := 8) hk_70 rfl (by decide) rfl ?_
  refine gs_icF hk_70 rfl (n_c3F (i := c) (n := 8) (by omega) (by decide) hc) rfl ?_
  refine gs_aload hk_70 rfl rfl rfl ?_
  refine gs_get hk_70 rfl a1 rfl ?_
  refine gs_iload hk_70 rfl rfl rfl ?_
  refine gs_push (x := 8) hk_70 rfl (by decide) rfl ?_
  refine gs_bin (z := (Int32.ofNat (i * 8))) hk_70 rfl (congrArg some (n_mul8 i)) rfl ?_
  refine gs_iload hk_70 rfl rfl rfl ?_
  refine gs_bin (z := (Int32.ofNat (i * 8 + c))) hk_70 rfl (congrArg some (n_add (i * 8) c)) rfl ?_
  refine gs_iload hk_70 rfl rfl rfl ?_
  refine gs_ast hk_70 rfl a3 (n_ix (by omega) (by omega)) e3 rfl ?_
  refine gs_aload hk_70 rfl rfl rfl ?_
  refine gs_get hk_70 rfl c0 rfl ?_
  refine gs_iload hk_70 rfl rfl rfl ?_
  refine gs_dup2 hk_70 rfl ⟨rfl, rfl⟩ rfl ?_
  refine gs_ald (y := (Int32.ofNat (c + 2))) hk_70 rfl c3 (n_ix (by omega) (by omega)) (e5) rfl ?_
  refine gs_push (x := 1) hk_70 rfl (by decide) rfl ?_
  refine gs_bin (z := (Int32.ofNat (c + 3))) hk_70 rfl (congrArg some (n_succ (c + 2))) rfl ?_
  refine gs_ast hk_70 rfl c3 (n_ix (by omega) (by omega)) e4 rfl ?_
  exact gs_ret hk_70 rfl rfl
