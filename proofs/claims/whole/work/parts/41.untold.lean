/-! ===== a name of the mask without a value (printed by wip/whole/gen41.py) ===== -/
theorem hk_31 : jP[31]? = some (jc_31, 3, [], []) := by rfl
theorem t_isUntold_31 {X : List Int32} {d : Nat} {m : jM} {r w q p : Nat} {b : Int32} {K V : Nat → Int32} (h0 : j_fld m r 4 0 = some (.ref (w + 1))) (hW : s_st m w q p K V) : j_Ev X (d + 1) 31 [.ref (r + 1), .int b] m (.inl (some (.int (if (List.range 26).any (fun j => decide (s_has b (Int32.ofNat j) = 1) && decide (K j = 0)) = true then 1 else 0))), m) := by
  obtain ⟨ks, vs, a0, a1, a2, a3, a4⟩ := id hW
  refine e_of hk_31 ?_
  refine gs_push (x := 0) hk_31 rfl (by decide) rfl ?_
  refine gs_istore hk_31 rfl (Nat.le_of_ble_eq_true rfl) rfl rfl ?_
  have hq : (List.range 26).findIdx (fun j => decide (s_has b (Int32.ofNat j) = 1) && decide (K j = 0)) ≤ 26 := by
    have := List.findIdx_le_length (p := (fun j => decide (s_has b (Int32.ofNat j) = 1) && decide (K j = 0))) (xs := List.range 26)
    rwa [List.length_range] at this
  generalize hz : (List.range 26).findIdx (fun j => decide (s_has b (Int32.ofNat j) = 1) && decide (K j = 0)) = z at hq
  have hlo : ∀ j, j < z → ¬ (s_has b (Int32.ofNat j) = 1 ∧ K j = 0) := by
    intro j hj
    have := List.not_of_lt_findIdx (p := (fun j => decide (s_has b (Int32.ofNat j) = 1) && decide (K j = 0))) (xs := List.range 26) (i := j) (by rw [hz]; exact hj)
    simpa using this
  have E1 : ∀ j, j < 26 → j_Ev X d 63 [.ref (w + 1), .int (Int32.ofNat j)] m (.inl (some (.int (K j))), m) := by
    intro j hj
    have := t_shapeOf_63 (X := X) (d := d) (x := Int32.ofNat j) hW
    rwa [s_k_n (by omega)] at this
  have E0 : ∀ j, j_Ev X d 126 [.int b, .int (Int32.ofNat j)] m (.inl (some (.int (s_has b (Int32.ofNat j)))), m) := fun j => t_has_126
  refine g_rep (n := z) (st := fun j => (2, [.ref (r + 1), .int b, .int (Int32.ofNat j)], [])) (mm := fun _ => m) ?_ ?_
  · intro j hj hn
    have hjb : j < 26 := by omega
    have hk := hlo j hj
    by_cases hb : s_has b (Int32.ofNat j) = 1
    · have hkj : ¬ K j = 0 := fun h => hk ⟨hb, h⟩
      refine gs_iload hk_31 rfl rfl rfl ?_
      refine gs_push (x := 26) hk_31 rfl (by decide) rfl ?_
      refine gs_icF hk_31 rfl (n_c3F (i := j) (n := 26) (by omega) (by decide) hjb) rfl ?_
      refine gs_iload hk_31 rfl rfl rfl ?_
      refine gs_iload hk_31 rfl rfl rfl ?_
      refine gs_call (as := [.int b, .int (Int32.ofNat j)]) (rest := []) hk_31 rfl (Or.inr (Or.inl rfl)) rfl rfl rfl (Nat.not_lt.mpr (Nat.le_of_ble_eq_true rfl)) (E0 j) rfl ?_
      refine gs_ifF hk_31 rfl (by rw [hb]; decide) rfl ?_
      refine gs_aload hk_31 rfl rfl rfl ?_
      refine gs_get hk_31 rfl h0 rfl ?_
      refine gs_iload hk_31 rfl rfl rfl ?_
      refine gs_call (as := [.ref (w + 1), .int (Int32.ofNat j)]) (rest := []) hk_31 rfl (Or.inr (Or.inr (Or.inr ⟨Or.inl rfl, j_recv_of a0⟩))) rfl rfl rfl (Nat.not_lt.mpr (Nat.le_of_ble_eq_true rfl)) (E1 j hjb) rfl ?_
      refine gs_ifT hk_31 rfl (by simp only [j_cond, hkj, decide_false, Bool.not_false]) ?_
      refine gs_iinc (y := (Int32.ofNat (j + 1))) hk_31 rfl rfl (n_succ j) rfl rfl ?_
      exact gs_goto hk_31 rfl (hn)
    · have hb0 := s_has_01 hb
      refine gs_iload hk_31 rfl rfl rfl ?_
      refine gs_push (x := 26) hk_31 rfl (by decide) rfl ?_
      refine gs_icF hk_31 rfl (n_c3F (i := j) (n := 26) (by omega) (by decide) hjb) rfl ?_
      refine gs_iload hk_31 rfl rfl rfl ?_
      refine gs_iload hk_31 rfl rfl rfl ?_
      refine gs_call (as := [.int b, .int (Int32.ofNat j)]) (rest := []) hk_31 rfl (Or.inr (Or.inl rfl)) rfl rfl rfl (Nat.not_lt.mpr (Nat.le_of_ble_eq_true rfl)) (E0 j) rfl ?_
      refine gs_ifT hk_31 rfl (by rw [hb0]; decide) ?_
      refine gs_iinc (y := (Int32.ofNat (j + 1))) hk_31 rfl rfl (n_succ j) rfl rfl ?_
      exact gs_goto hk_31 rfl (hn)
  · by_cases hc : z < 26
    · have hp : s_has b (Int32.ofNat z) = 1 ∧ K z = 0 := by
        have := List.findIdx_getElem (p := (fun j => decide (s_has b (Int32.ofNat j) = 1) && decide (K j = 0))) (xs := List.range 26) (w := by rw [hz, List.length_range]; exact hc)
        simp only [hz] at this
        simpa using this
      rw [if_pos (List.any_eq_true.mpr ⟨z, List.mem_range.mpr hc, by simp [hp.1, hp.2]⟩)]
      refine gs_iload hk_31 rfl rfl rfl ?_
      refine gs_push (x := 26) hk_31 rfl (by decide) rfl ?_
      refine gs_icF hk_31 rfl (n_c3F (i := z) (n := 26) (by omega) (by decide) hc) rfl ?_
      refine gs_iload hk_31 rfl rfl rfl ?_
      refine gs_iload hk_31 rfl rfl rfl ?_
      refine gs_call (as := [.int b, .int (Int32.ofNat z)]) (rest := []) hk_31 rfl (Or.inr (Or.inl rfl)) rfl rfl rfl (Nat.not_lt.mpr (Nat.le_of_ble_eq_true rfl)) (E0 z) rfl ?_
      refine gs_ifF hk_31 rfl (by rw [hp.1]; decide) rfl ?_
      refine gs_aload hk_31 rfl rfl rfl ?_
      refine gs_get hk_31 rfl h0 rfl ?_
      refine gs_iload hk_31 rfl rfl rfl ?_
      refine gs_call (as := [.ref (w + 1), .int (Int32.ofNat z)]) (rest := []) hk_31 rfl (Or.inr (Or.inr (Or.inr ⟨Or.inl rfl, j_recv_of a0⟩))) rfl rfl rfl (Nat.not_lt.mpr (Nat.le_of_ble_eq_true rfl)) (E1 z hc) rfl ?_
      refine gs_ifF hk_31 rfl (by simp only [j_cond, hp.2, decide_true, Bool.not_true]) rfl ?_
      refine gs_push (x := 1) hk_31 rfl (by decide) rfl ?_
      exact gs_iret hk_31 rfl (Or.inr (by decide)) rfl
    · rw [if_neg (by
        intro h
        obtain ⟨i, hi, hp⟩ := List.any_eq_true.mp h
        have hi := List.mem_range.mp hi
        exact hlo i (by omega) (by simpa using hp))]
      refine gs_iload hk_31 rfl rfl rfl ?_
      refine gs_push (x := 26) hk_31 rfl (by decide) rfl ?_
      refine gs_icT hk_31 rfl (n_c3T (i := z) (n := 26) (by omega) (by decide) (by omega)) ?_
      refine gs_push (x := 0) hk_31 rfl (by decide) rfl ?_
      exact gs_iret hk_31 rfl (Or.inr (by decide)) rfl
