/-! ===== the stack machine combines two numbers (printed by wip/whole/gen37.py) ===== -/
theorem n_pred2 (n : Nat) : Int32.ofNat (n + 2) - 2 = Int32.ofNat n := by
  have h : Int32.ofNat (n + 2) = Int32.ofNat n + 2 := by rw [Int32.ofNat_add]; rfl
  rw [h]
  apply Int32.toBitVec_inj.mp
  simp
def s_comb (op a b : Int32) : Int32 := if op = 4 then a + b else if op = 5 then a - b else a * b
theorem s_if1 {k : Int32} (h : k = 1) : (if k = 1 then (1 : Int32) else 0) = 1 := if_pos h
theorem s_if0 {k : Int32} (h : ¬ k = 1) : (if k = 1 then (1 : Int32) else 0) = 0 := if_neg h
theorem hk_22 : jP[22]? = some (jc_22, 6, [], []) := by rfl
theorem t_combNo0_22 {X : List Int32} {d : Nat} {m : jM} {r u q p n : Nat} {op : Int32} {K V : Nat → Int32} (h1 : j_fld m r 4 1 = some (.ref (u + 1))) (h2 : j_fld m r 4 2 = some (.int (Int32.ofNat (n + 2)))) (hS : s_st m u q p K V) (hn : n + 1 < 27) (hk : ¬ K n = 1) : j_Ev X (d + 1) 22 [.ref (r + 1), .int op] m (.inl (some (.int 2)), m) := by
  have E0 := t_isNumber_64 (X := X) (d := d) (x := Int32.ofNat n) hS
  rw [s_k_n (by omega)] at E0
  have E1 := t_isNumber_64 (X := X) (d := d) (x := Int32.ofNat (n + 1)) hS
  rw [s_k_n hn] at E1
  obtain ⟨ks, vs, a0, a1, a2, a3, a4⟩ := id hS
  rw [s_if0 hk] at E0
  refine e_of hk_22 ?_
  refine gs_aload hk_22 rfl rfl rfl ?_
  refine gs_get hk_22 rfl h2 rfl ?_
  refine gs_push (x := 2) hk_22 rfl (by decide) rfl ?_
  refine gs_bin (z := (Int32.ofNat n)) hk_22 rfl (congrArg some (n_pred2 n)) rfl ?_
  refine gs_istore hk_22 rfl (Nat.le_of_ble_eq_true rfl) rfl rfl ?_
  refine gs_aload hk_22 rfl rfl rfl ?_
  refine gs_get hk_22 rfl h2 rfl ?_
  refine gs_push (x := 1) hk_22 rfl (by decide) rfl ?_
  refine gs_bin (z := (Int32.ofNat (n + 1))) hk_22 rfl (congrArg some (n_pred (n + 1))) rfl ?_
  refine gs_istore hk_22 rfl (Nat.le_of_ble_eq_true rfl) rfl rfl ?_
  refine gs_aload hk_22 rfl rfl rfl ?_
  refine gs_get hk_22 rfl h1 rfl ?_
  refine gs_iload hk_22 rfl rfl rfl ?_
  refine gs_call (as := [.ref (u + 1), .int (Int32.ofNat n)]) (rest := []) hk_22 rfl (Or.inr (Or.inr (Or.inr ⟨Or.inl rfl, j_recv_of a0⟩))) rfl rfl rfl (Nat.not_lt.mpr (Nat.le_of_ble_eq_true rfl)) (E0) rfl ?_
  refine gs_ifT hk_22 rfl (by decide) ?_
  refine gs_push (x := 2) hk_22 rfl (by decide) rfl ?_
  exact gs_iret hk_22 rfl (Or.inl rfl) rfl
theorem t_combNo1_22 {X : List Int32} {d : Nat} {m : jM} {r u q p n : Nat} {op : Int32} {K V : Nat → Int32} (h1 : j_fld m r 4 1 = some (.ref (u + 1))) (h2 : j_fld m r 4 2 = some (.int (Int32.ofNat (n + 2)))) (hS : s_st m u q p K V) (hn : n + 1 < 27) (hk : K n = 1) (hk1 : ¬ K (n + 1) = 1) : j_Ev X (d + 1) 22 [.ref (r + 1), .int op] m (.inl (some (.int 2)), m) := by
  have E0 := t_isNumber_64 (X := X) (d := d) (x := Int32.ofNat n) hS
  rw [s_k_n (by omega)] at E0
  have E1 := t_isNumber_64 (X := X) (d := d) (x := Int32.ofNat (n + 1)) hS
  rw [s_k_n hn] at E1
  obtain ⟨ks, vs, a0, a1, a2, a3, a4⟩ := id hS
  rw [s_if1 hk] at E0
  rw [s_if0 hk1] at E1
  refine e_of hk_22 ?_
  refine gs_aload hk_22 rfl rfl rfl ?_
  refine gs_get hk_22 rfl h2 rfl ?_
  refine gs_push (x := 2) hk_22 rfl (by decide) rfl ?_
  refine gs_bin (z := (Int32.ofNat n)) hk_22 rfl (congrArg some (n_pred2 n)) rfl ?_
  refine gs_istore hk_22 rfl (Nat.le_of_ble_eq_true rfl) rfl rfl ?_
  refine gs_aload hk_22 rfl rfl rfl ?_
  refine gs_get hk_22 rfl h2 rfl ?_
  refine gs_push (x := 1) hk_22 rfl (by decide) rfl ?_
  refine gs_bin (z := (Int32.ofNat (n + 1))) hk_22 rfl (congrArg some (n_pred (n + 1))) rfl ?_
  refine gs_istore hk_22 rfl (Nat.le_of_ble_eq_true rfl) rfl rfl ?_
  refine gs_aload hk_22 rfl rfl rfl ?_
  refine gs_get hk_22 rfl h1 rfl ?_
  refine gs_iload hk_22 rfl rfl rfl ?_
  refine gs_call (as := [.ref (u + 1), .int (Int32.ofNat n)]) (rest := []) hk_22 rfl (Or.inr (Or.inr (Or.inr ⟨Or.inl rfl, j_recv_of a0⟩))) rfl rfl rfl (Nat.not_lt.mpr (Nat.le_of_ble_eq_true rfl)) (E0) rfl ?_
  refine gs_ifF hk_22 rfl (by decide) rfl ?_
  refine gs_aload hk_22 rfl rfl rfl ?_
  refine gs_get hk_22 rfl h1 rfl ?_
  refine gs_iload hk_22 rfl rfl rfl ?_
  refine gs_call (as := [.ref (u + 1), .int (Int32.ofNat (n + 1))]) (rest := []) hk_22 rfl (Or.inr (Or.inr (Or.inr ⟨Or.inl rfl, j_recv_of a0⟩))) rfl rfl rfl (Nat.not_lt.mpr (Nat.le_of_ble_eq_true rfl)) (E1) rfl ?_
  refine gs_ifF hk_22 rfl (by decide) rfl ?_
  refine gs_push (x := 2) hk_22 rfl (by decide) rfl ?_
  exact gs_iret hk_22 rfl (Or.inl rfl) rfl
theorem t_comb_22 {X : List Int32} {d : Nat} {m : jM} {r u q p n : Nat} {op : Int32} {K V : Nat → Int32} (h1 : j_fld m r 4 1 = some (.ref (u + 1))) (h2 : j_fld m r 4 2 = some (.int (Int32.ofNat (n + 2)))) (hS : s_st m u q p K V) (hn : n + 1 < 27) (hk : K n = 1) (hk1 : K (n + 1) = 1) : ∃ m', j_Ev X (d + 1) 22 [.ref (r + 1), .int op] m (.inl (some (.int 0)), m') ∧ s_fr m m' [r, q, p] ∧ s_st m' u q p (fun z => if z = n then 1 else K z) (fun z => if z = n * 8 then s_comb op (V (n * 8)) (V ((n + 1) * 8)) else V z) ∧ j_fld m' r 4 2 = some (.int (Int32.ofNat (n + 1))) := by
  have E0 := t_isNumber_64 (X := X) (d := d) (x := Int32.ofNat n) hS
  rw [s_k_n (by omega)] at E0
  have E1 := t_isNumber_64 (X := X) (d := d) (x := Int32.ofNat (n + 1)) hS
  rw [s_k_n hn] at E1
  obtain ⟨ks, vs, a0, a1, a2, a3, a4⟩ := id hS
  rw [s_if1 hk] at E0
  rw [s_if1 hk1] at E1
  have E2 := t_itemOf_66 (X := X) (d := d) (x := Int32.ofNat n) (y := Int32.ofNat 0) hS
  rw [s_v_n (by omega) (by decide)] at E2
  have E3 := t_itemOf_66 (X := X) (d := d) (x := Int32.ofNat (n + 1)) (y := Int32.ofNat 0) hS
  rw [s_v_n hn (by decide)] at E3
  obtain ⟨m1, E, f1, s1⟩ := t_putNumber_68 (X := X) (d := d) (v := s_comb op (V (n * 8)) (V ((n + 1) * 8))) hS (show n < 27 by omega)
  have hrq : r ≠ q := j_tags h2 a2 (by decide)
  have hrp : r ≠ p := j_tags h2 a3 (by decide)
  have hru : r ≠ u := j_tags2 h2 a0 (by decide)
  have c2 : j_fld m1 r 4 2 = some (.int (Int32.ofNat (n + 2))) := (f1.fld (by simp [hrq, hrp])).trans h2
  have f2 := s_fr_put m1 r 2 (.int (Int32.ofNat (n + 1)))
  refine ⟨j_put m1 r 2 (.int (Int32.ofNat (n + 1))), e_of hk_22 ?_, (f1.mono (by simp)).trans (f2.mono (by simp)), s1.fr f2 (by simpa using hru.symm) (by simpa using hrq.symm) (by simpa using hrp.symm), j_fld_put c2⟩
  by_cases o4 : op = 4
  · have hs : s_comb op (V (n * 8)) (V ((n + 1) * 8)) = V (n * 8) + V ((n + 1) * 8) := if_pos o4
    rw [hs] at E
    refine gs_aload hk_22 rfl rfl rfl ?_
    refine gs_get hk_22 rfl h2 rfl ?_
    refine gs_push (x := 2) hk_22 rfl (by decide) rfl ?_
    refine gs_bin (z := (Int32.ofNat n)) hk_22 rfl (congrArg some (n_pred2 n)) rfl ?_
    refine gs_istore hk_22 rfl (Nat.le_of_ble_eq_true rfl) rfl rfl ?_
    refine gs_aload hk_22 rfl rfl rfl ?_
    refine gs_get hk_22 rfl h2 rfl ?_
    refine gs_push (x := 1) hk_22 rfl (by decide) rfl ?_
    refine gs_bin (z := (Int32.ofNat (n + 1))) hk_22 rfl (congrArg some (n_pred (n + 1))) rfl ?_
    refine gs_istore hk_22 rfl (Nat.le_of_ble_eq_true rfl) rfl rfl ?_
    refine gs_aload hk_22 rfl rfl rfl ?_
    refine gs_get hk_22 rfl h1 rfl ?_
    refine gs_iload hk_22 rfl rfl rfl ?_
    refine gs_call (as := [.ref (u + 1), .int (Int32.ofNat n)]) (rest := []) hk_22 rfl (Or.inr (Or.inr (Or.inr ⟨Or.inl rfl, j_recv_of a0⟩))) rfl rfl rfl (Nat.not_lt.mpr (Nat.le_of_ble_eq_true rfl)) (E0) rfl ?_
    refine gs_ifF hk_22 rfl (by decide) rfl ?_
    refine gs_aload hk_22 rfl rfl rfl ?_
    refine gs_get hk_22 rfl h1 rfl ?_
    refine gs_iload hk_22 rfl rfl rfl ?_
    refine gs_call (as := [.ref (u + 1), .int (Int32.ofNat (n + 1))]) (rest := []) hk_22 rfl (Or.inr (Or.inr (Or.inr ⟨Or.inl rfl, j_recv_of a0⟩))) rfl rfl rfl (Nat.not_lt.mpr (Nat.le_of_ble_eq_true rfl)) (E1) rfl ?_
    refine gs_ifT hk_22 rfl (by decide) ?_
    refine gs_aload hk_22 rfl rfl rfl ?_
    refine gs_get hk_22 rfl h1 rfl ?_
    refine gs_iload hk_22 rfl rfl rfl ?_
    refine gs_push (x := 0) hk_22 rfl (by decide) rfl ?_
    refine gs_call (as := [.ref (u + 1), .int (Int32.ofNat n), .int 0]) (rest := []) hk_22 rfl (Or.inr (Or.inr (Or.inr ⟨Or.inl rfl, j_recv_of a0⟩))) rfl rfl rfl (Nat.not_lt.mpr (Nat.le_of_ble_eq_true rfl)) (E2) rfl ?_
    refine gs_istore hk_22 rfl (Nat.le_of_ble_eq_true rfl) rfl rfl ?_
    refine gs_aload hk_22 rfl rfl rfl ?_
    refine gs_get hk_22 rfl h1 rfl ?_
    refine gs_iload hk_22 rfl rfl rfl ?_
    refine gs_push (x := 0) hk_22 rfl (by decide) rfl ?_
    refine gs_call (as := [.ref (u + 1), .int (Int32.ofNat (n + 1)), .int 0]) (rest := []) hk_22 rfl (Or.inr (Or.inr (Or.inr ⟨Or.inl rfl, j_recv_of a0⟩))) rfl rfl rfl (Nat.not_lt.mpr (Nat.le_of_ble_eq_true rfl)) (E3) rfl ?_
    refine gs_istore hk_22 rfl (Nat.le_of_ble_eq_true rfl) rfl rfl ?_
    refine gs_aload hk_22 rfl rfl rfl ?_
    refine gs_get hk_22 rfl h1 rfl ?_
    refine gs_iload hk_22 rfl rfl rfl ?_
    refine gs_iload hk_22 rfl rfl rfl ?_
    refine gs_push (x := 4) hk_22 rfl (by decide) rfl ?_
    refine gs_icF hk_22 rfl (by simp only [j_cond, o4, decide_true, Bool.not_true]) rfl ?_
    refine gs_iload hk_22 rfl rfl rfl ?_
    refine gs_iload hk_22 rfl rfl rfl ?_
    refine gs_bin (z := ((V (n * 8)) + (V ((n + 1) * 8)))) hk_22 rfl (rfl) rfl ?_
    refine gs_goto hk_22 rfl ?_
    refine gs_call (as := [.ref (u + 1), .int (Int32.ofNat n), .int ((V (n * 8)) + (V ((n + 1) * 8)))]) (rest := []) hk_22 rfl (Or.inr (Or.inr (Or.inr ⟨Or.inl rfl, j_recv_of a0⟩))) rfl rfl rfl (Nat.not_lt.mpr (Nat.le_of_ble_eq_true rfl)) (E) rfl ?_
    refine gs_aload hk_22 rfl rfl rfl ?_
    refine gs_iload hk_22 rfl rfl rfl ?_
    refine gs_put hk_22 rfl c2 rfl rfl rfl ?_
    refine gs_push (x := 0) hk_22 rfl (by decide) rfl ?_
    exact gs_iret hk_22 rfl (Or.inl rfl) rfl
  · by_cases o5 : op = 5
    · have hs : s_comb op (V (n * 8)) (V ((n + 1) * 8)) = V (n * 8) - V ((n + 1) * 8) := (if_neg o4).trans (if_pos o5)
      rw [hs] at E
      refine gs_aload hk_22 rfl rfl rfl ?_
      refine gs_get hk_22 rfl h2 rfl ?_
      refine gs_push (x := 2) hk_22 rfl (by decide) rfl ?_
      refine gs_bin (z := (Int32.ofNat n)) hk_22 rfl (congrArg some (n_pred2 n)) rfl ?_
      refine gs_istore hk_22 rfl (Nat.le_of_ble_eq_true rfl) rfl rfl ?_
      refine gs_aload hk_22 rfl rfl rfl ?_
      refine gs_get hk_22 rfl h2 rfl ?_
      refine gs_push (x := 1) hk_22 rfl (by decide) rfl ?_
      refine gs_bin (z := (Int32.ofNat (n + 1))) hk_22 rfl (congrArg some (n_pred (n + 1))) rfl ?_
      refine gs_istore hk_22 rfl (Nat.le_of_ble_eq_true rfl) rfl rfl ?_
      refine gs_aload hk_22 rfl rfl rfl ?_
      refine gs_get hk_22 rfl h1 rfl ?_
      refine gs_iload hk_22 rfl rfl rfl ?_
      refine gs_call (as := [.ref (u + 1), .int (Int32.ofNat n)]) (rest := []) hk_22 rfl (Or.inr (Or.inr (Or.inr ⟨Or.inl rfl, j_recv_of a0⟩))) rfl rfl rfl (Nat.not_lt.mpr (Nat.le_of_ble_eq_true rfl)) (E0) rfl ?_
      refine gs_ifF hk_22 rfl (by decide) rfl ?_
      refine gs_aload hk_22 rfl rfl rfl ?_
      refine gs_get hk_22 rfl h1 rfl ?_
      refine gs_iload hk_22 rfl rfl rfl ?_
      refine gs_call (as := [.ref (u + 1), .int (Int32.ofNat (n + 1))]) (rest := []) hk_22 rfl (Or.inr (Or.inr (Or.inr ⟨Or.inl rfl, j_recv_of a0⟩))) rfl rfl rfl (Nat.not_lt.mpr (Nat.le_of_ble_eq_true rfl)) (E1) rfl ?_
      refine gs_ifT hk_22 rfl (by decide) ?_
      refine gs_aload hk_22 rfl rfl rfl ?_
      refine gs_get hk_22 rfl h1 rfl ?_
      refine gs_iload hk_22 rfl rfl rfl ?_
      refine gs_push (x := 0) hk_22 rfl (by decide) rfl ?_
      refine gs_call (as := [.ref (u + 1), .int (Int32.ofNat n), .int 0]) (rest := []) hk_22 rfl (Or.inr (Or.inr (Or.inr ⟨Or.inl rfl, j_recv_of a0⟩))) rfl rfl rfl (Nat.not_lt.mpr (Nat.le_of_ble_eq_true rfl)) (E2) rfl ?_
      refine gs_istore hk_22 rfl (Nat.le_of_ble_eq_true rfl) rfl rfl ?_
      refine gs_aload hk_22 rfl rfl rfl ?_
      refine gs_get hk_22 rfl h1 rfl ?_
      refine gs_iload hk_22 rfl rfl rfl ?_
      refine gs_push (x := 0) hk_22 rfl (by decide) rfl ?_
      refine gs_call (as := [.ref (u + 1), .int (Int32.ofNat (n + 1)), .int 0]) (rest := []) hk_22 rfl (Or.inr (Or.inr (Or.inr ⟨Or.inl rfl, j_recv_of a0⟩))) rfl rfl rfl (Nat.not_lt.mpr (Nat.le_of_ble_eq_true rfl)) (E3) rfl ?_
      refine gs_istore hk_22 rfl (Nat.le_of_ble_eq_true rfl) rfl rfl ?_
      refine gs_aload hk_22 rfl rfl rfl ?_
      refine gs_get hk_22 rfl h1 rfl ?_
      refine gs_iload hk_22 rfl rfl rfl ?_
      refine gs_iload hk_22 rfl rfl rfl ?_
      refine gs_push (x := 4) hk_22 rfl (by decide) rfl ?_
      refine gs_icT hk_22 rfl (by simp only [j_cond, o4, decide_false, Bool.not_false]) ?_
      refine gs_iload hk_22 rfl rfl rfl ?_
      refine gs_push (x := 5) hk_22 rfl (by decide) rfl ?_
      refine gs_icF hk_22 rfl (by simp only [j_cond, o5, decide_true, Bool.not_true]) rfl ?_
      refine gs_iload hk_22 rfl rfl rfl ?_
      refine gs_iload hk_22 rfl rfl rfl ?_
      refine gs_bin (z := ((V (n * 8)) - (V ((n + 1) * 8)))) hk_22 rfl (rfl) rfl ?_
      refine gs_goto hk_22 rfl ?_
      refine gs_call (as := [.ref (u + 1), .int (Int32.ofNat n), .int ((V (n * 8)) - (V ((n + 1) * 8)))]) (rest := []) hk_22 rfl (Or.inr (Or.inr (Or.inr ⟨Or.inl rfl, j_recv_of a0⟩))) rfl rfl rfl (Nat.not_lt.mpr (Nat.le_of_ble_eq_true rfl)) (E) rfl ?_
      refine gs_aload hk_22 rfl rfl rfl ?_
      refine gs_iload hk_22 rfl rfl rfl ?_
      refine gs_put hk_22 rfl c2 rfl rfl rfl ?_
      refine gs_push (x := 0) hk_22 rfl (by decide) rfl ?_
      exact gs_iret hk_22 rfl (Or.inl rfl) rfl
    · have hs : s_comb op (V (n * 8)) (V ((n + 1) * 8)) = V (n * 8) * V ((n + 1) * 8) := (if_neg o4).trans (if_neg o5)
      rw [hs] at E
      refine gs_aload hk_22 rfl rfl rfl ?_
      refine gs_get hk_22 rfl h2 rfl ?_
      refine gs_push (x := 2) hk_22 rfl (by decide) rfl ?_
      refine gs_bin (z := (Int32.ofNat n)) hk_22 rfl (congrArg some (n_pred2 n)) rfl ?_
      refine gs_istore hk_22 rfl (Nat.le_of_ble_eq_true rfl) rfl rfl ?_
      refine gs_aload hk_22 rfl rfl rfl ?_
      refine gs_get hk_22 rfl h2 rfl ?_
      refine gs_push (x := 1) hk_22 rfl (by decide) rfl ?_
      refine gs_bin (z := (Int32.ofNat (n + 1))) hk_22 rfl (congrArg some (n_pred (n + 1))) rfl ?_
      refine gs_istore hk_22 rfl (Nat.le_of_ble_eq_true rfl) rfl rfl ?_
      refine gs_aload hk_22 rfl rfl rfl ?_
      refine gs_get hk_22 rfl h1 rfl ?_
      refine gs_iload hk_22 rfl rfl rfl ?_
      refine gs_call (as := [.ref (u + 1), .int (Int32.ofNat n)]) (rest := []) hk_22 rfl (Or.inr (Or.inr (Or.inr ⟨Or.inl rfl, j_recv_of a0⟩))) rfl rfl rfl (Nat.not_lt.mpr (Nat.le_of_ble_eq_true rfl)) (E0) rfl ?_
      refine gs_ifF hk_22 rfl (by decide) rfl ?_
      refine gs_aload hk_22 rfl rfl rfl ?_
      refine gs_get hk_22 rfl h1 rfl ?_
      refine gs_iload hk_22 rfl rfl rfl ?_
      refine gs_call (as := [.ref (u + 1), .int (Int32.ofNat (n + 1))]) (rest := []) hk_22 rfl (Or.inr (Or.inr (Or.inr ⟨Or.inl rfl, j_recv_of a0⟩))) rfl rfl rfl (Nat.not_lt.mpr (Nat.le_of_ble_eq_true rfl)) (E1) rfl ?_
      refine gs_ifT hk_22 rfl (by decide) ?_
      refine gs_aload hk_22 rfl rfl rfl ?_
      refine gs_get hk_22 rfl h1 rfl ?_
      refine gs_iload hk_22 rfl rfl rfl ?_
      refine gs_push (x := 0) hk_22 rfl (by decide) rfl ?_
      refine gs_call (as := [.ref (u + 1), .int (Int32.ofNat n), .int 0]) (rest := []) hk_22 rfl (Or.inr (Or.inr (Or.inr ⟨Or.inl rfl, j_recv_of a0⟩))) rfl rfl rfl (Nat.not_lt.mpr (Nat.le_of_ble_eq_true rfl)) (E2) rfl ?_
      refine gs_istore hk_22 rfl (Nat.le_of_ble_eq_true rfl) rfl rfl ?_
      refine gs_aload hk_22 rfl rfl rfl ?_
      refine gs_get hk_22 rfl h1 rfl ?_
      refine gs_iload hk_22 rfl rfl rfl ?_
      refine gs_push (x := 0) hk_22 rfl (by decide) rfl ?_
      refine gs_call (as := [.ref (u + 1), .int (Int32.ofNat (n + 1)), .int 0]) (rest := []) hk_22 rfl (Or.inr (Or.inr (Or.inr ⟨Or.inl rfl, j_recv_of a0⟩))) rfl rfl rfl (Nat.not_lt.mpr (Nat.le_of_ble_eq_true rfl)) (E3) rfl ?_
      refine gs_istore hk_22 rfl (Nat.le_of_ble_eq_true rfl) rfl rfl ?_
      refine gs_aload hk_22 rfl rfl rfl ?_
      refine gs_get hk_22 rfl h1 rfl ?_
      refine gs_iload hk_22 rfl rfl rfl ?_
      refine gs_iload hk_22 rfl rfl rfl ?_
      refine gs_push (x := 4) hk_22 rfl (by decide) rfl ?_
      refine gs_icT hk_22 rfl (by simp only [j_cond, o4, decide_false, Bool.not_false]) ?_
      refine gs_iload hk_22 rfl rfl rfl ?_
      refine gs_push (x := 5) hk_22 rfl (by decide) rfl ?_
      refine gs_icT hk_22 rfl (by simp only [j_cond, o5, decide_false, Bool.not_false]) ?_
      refine gs_iload hk_22 rfl rfl rfl ?_
      refine gs_iload hk_22 rfl rfl rfl ?_
      refine gs_bin (z := ((V (n * 8)) * (V ((n + 1) * 8)))) hk_22 rfl (rfl) rfl ?_
      refine gs_call (as := [.ref (u + 1), .int (Int32.ofNat n), .int ((V (n * 8)) * (V ((n + 1) * 8)))]) (rest := []) hk_22 rfl (Or.inr (Or.inr (Or.inr ⟨Or.inl rfl, j_recv_of a0⟩))) rfl rfl rfl (Nat.not_lt.mpr (Nat.le_of_ble_eq_true rfl)) (E) rfl ?_
      refine gs_aload hk_22 rfl rfl rfl ?_
      refine gs_iload hk_22 rfl rfl rfl ?_
      refine gs_put hk_22 rfl c2 rfl rfl rfl ?_
      refine gs_push (x := 0) hk_22 rfl (by decide) rfl ?_
      exact gs_iret hk_22 rfl (Or.inl rfl) rfl
