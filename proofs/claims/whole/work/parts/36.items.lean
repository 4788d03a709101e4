/-! ===== the stack machine counts and picks items (printed by wip/whole/gen36.py) ===== -/
theorem s_k_n {K : Nat → Int32} {i : Nat} (hi : i < 27) : s_k K (Int32.ofNat i) = K i := by
  unfold s_k
  rw [if_neg (by rw [n_c2F (by omega)]; decide), if_neg (by have := n_c3F (i := i) (n := 27) (by omega) (by decide) hi; rw [show (27 : Int32) = Int32.ofNat 27 from rfl, this]; decide), n_clamp (by omega)]
theorem s_v_n {V : Nat → Int32} {i j : Nat} (hi : i < 27) (hj : j < 8) : s_v V (Int32.ofNat i) (Int32.ofNat j) = V (i * 8 + j) := by
  unfold s_v
  rw [if_neg (by rw [n_c2F (by omega)]; decide), if_neg (by have := n_c3F (i := i) (n := 27) (by omega) (by decide) hi; rw [show (27 : Int32) = Int32.ofNat 27 from rfl, this]; decide), if_neg (by rw [n_c2F (by omega)]; decide), if_neg (by have := n_c3F (i := j) (n := 8) (by omega) (by decide) hj; rw [show (8 : Int32) = Int32.ofNat 8 from rfl, this]; decide), n_clamp (by omega), n_clamp (by omega)]
def s_cnt (k : Int32) : Int32 := if k ≤ 2 then 0 else k - 2
theorem hk_25 : jP[25]? = some (jc_25, 2, [], []) := by rfl
theorem hk_24 : jP[24]? = some (jc_24, 3, [], []) := by rfl
theorem t_countNo_25 {X : List Int32} {d : Nat} {m : jM} {r u q p n : Nat} {K V : Nat → Int32} (h1 : j_fld m r 4 1 = some (.ref (u + 1))) (h2 : j_fld m r 4 2 = some (.int (Int32.ofNat (n + 1)))) (hS : s_st m u q p K V) (hn : n < 27) (hk : K n < 2) : j_Ev X (d + 1) 25 [.ref (r + 1)] m (.inl (some (.int 2)), m) := by
  have E0 := t_shapeOf_63 (X := X) (d := d) (x := Int32.ofNat n) hS
  rw [s_k_n hn] at E0
  have E1 := t_itemCount_65 (X := X) (d := d) (x := Int32.ofNat n) hS
  rw [s_k_n hn] at E1
  obtain ⟨ks, vs, a0, a1, -⟩ := id hS
  refine e_of hk_25 ?_
  refine gs_aload hk_25 rfl rfl rfl ?_
  refine gs_get hk_25 rfl h2 rfl ?_
  refine gs_push (x := 1) hk_25 rfl (by decide) rfl ?_
  refine gs_bin (z := (Int32.ofNat n)) hk_25 rfl (congrArg some (n_pred n)) rfl ?_
  refine gs_istore hk_25 rfl (Nat.le_of_ble_eq_true rfl) rfl rfl ?_
  refine gs_aload hk_25 rfl rfl rfl ?_
  refine gs_get hk_25 rfl h1 rfl ?_
  refine gs_iload hk_25 rfl rfl rfl ?_
  refine gs_call (as := [.ref (u + 1), .int (Int32.ofNat n)]) (rest := []) hk_25 rfl (Or.inr (Or.inr (Or.inr ⟨Or.inl rfl, j_recv_of a0⟩))) rfl rfl rfl (Nat.not_lt.mpr (Nat.le_of_ble_eq_true rfl)) (E0) rfl ?_
  refine gs_push (x := 2) hk_25 rfl (by decide) rfl ?_
  refine gs_icF hk_25 rfl (by simp only [j_cond, hk, decide_true, Bool.not_true]) rfl ?_
  refine gs_push (x := 2) hk_25 rfl (by decide) rfl ?_
  exact gs_iret hk_25 rfl (Or.inl rfl) rfl
theorem t_count_25 {X : List Int32} {d : Nat} {m : jM} {r u q p n : Nat} {K V : Nat → Int32} (h1 : j_fld m r 4 1 = some (.ref (u + 1))) (h2 : j_fld m r 4 2 = some (.int (Int32.ofNat (n + 1)))) (hS : s_st m u q p K V) (hn : n < 27) (hk : ¬ K n < 2) : ∃ m', j_Ev X (d + 1) 25 [.ref (r + 1)] m (.inl (some (.int 0)), m') ∧ s_fr m m' [q, p] ∧ s_st m' u q p (fun z => if z = n then 1 else K z) (fun z => if z = n * 8 then s_cnt (K n) else V z) := by
  have E0 := t_shapeOf_63 (X := X) (d := d) (x := Int32.ofNat n) hS
  rw [s_k_n hn] at E0
  have E1 := t_itemCount_65 (X := X) (d := d) (x := Int32.ofNat n) hS
  rw [s_k_n hn] at E1
  obtain ⟨ks, vs, a0, a1, -⟩ := id hS
  obtain ⟨m1, E, f1, s1⟩ := t_putNumber_68 (X := X) (d := d) (v := s_cnt (K n)) hS hn
  refine ⟨m1, e_of hk_25 ?_, f1, s1⟩
  refine gs_aload hk_25 rfl rfl rfl ?_
  refine gs_get hk_25 rfl h2 rfl ?_
  refine gs_push (x := 1) hk_25 rfl (by decide) rfl ?_
  refine gs_bin (z := (Int32.ofNat n)) hk_25 rfl (congrArg some (n_pred n)) rfl ?_
  refine gs_istore hk_25 rfl (Nat.le_of_ble_eq_true rfl) rfl rfl ?_
  refine gs_aload hk_25 rfl rfl rfl ?_
  refine gs_get hk_25 rfl h1 rfl ?_
  refine gs_iload hk_25 rfl rfl rfl ?_
  refine gs_call (as := [.ref (u + 1), .int (Int32.ofNat n)]) (rest := []) hk_25 rfl (Or.inr (Or.inr (Or.inr ⟨Or.inl rfl, j_recv_of a0⟩))) rfl rfl rfl (Nat.not_lt.mpr (Nat.le_of_ble_eq_true rfl)) (E0) rfl ?_
  refine gs_push (x := 2) hk_25 rfl (by decide) rfl ?_
  refine gs_icT hk_25 rfl (by simp only [j_cond, hk, decide_false, Bool.not_false]) ?_
  refine gs_aload hk_25 rfl rfl rfl ?_
  refine gs_get hk_25 rfl h1 rfl ?_
  refine gs_iload hk_25 rfl rfl rfl ?_
  refine gs_aload hk_25 rfl rfl rfl ?_
  refine gs_get hk_25 rfl h1 rfl ?_
  refine gs_iload hk_25 rfl rfl rfl ?_
  refine gs_call (as := [.ref (u + 1), .int (Int32.ofNat n)]) (rest := [.int (Int32.ofNat n), .ref (u + 1)]) hk_25 rfl (Or.inr (Or.inr (Or.inr ⟨Or.inl rfl, j_recv_of a0⟩))) rfl rfl rfl (Nat.not_lt.mpr (Nat.le_of_ble_eq_true rfl)) (E1) rfl ?_
  refine gs_call (as := [.ref (u + 1), .int (Int32.ofNat n), .int (s_cnt (K n))]) (rest := []) hk_25 rfl (Or.inr (Or.inr (Or.inr ⟨Or.inl rfl, j_recv_of a0⟩))) rfl rfl rfl (Nat.not_lt.mpr (Nat.le_of_ble_eq_true rfl)) (E) rfl ?_
  refine gs_push (x := 0) hk_25 rfl (by decide) rfl ?_
  exact gs_iret hk_25 rfl (Or.inl rfl) rfl
theorem t_pickNo_24 {X : List Int32} {d : Nat} {m : jM} {r u q p n : Nat} {K V : Nat → Int32} (h1 : j_fld m r 4 1 = some (.ref (u + 1))) (h2 : j_fld m r 4 2 = some (.int (Int32.ofNat (n + 1)))) (hS : s_st m u q p K V) (hn : n < 27) {x : Int32} (hk : K n < 2) : j_Ev X (d + 1) 24 [.ref (r + 1), .int x] m (.inl (some (.int 2)), m) := by
  have E0 := t_shapeOf_63 (X := X) (d := d) (x := Int32.ofNat n) hS
  rw [s_k_n hn] at E0
  have E1 := t_itemCount_65 (X := X) (d := d) (x := Int32.ofNat n) hS
  rw [s_k_n hn] at E1
  obtain ⟨ks, vs, a0, a1, -⟩ := id hS
  refine e_of hk_24 ?_
  refine gs_aload hk_24 rfl rfl rfl ?_
  refine gs_get hk_24 rfl h2 rfl ?_
  refine gs_push (x := 1) hk_24 rfl (by decide) rfl ?_
  refine gs_bin (z := (Int32.ofNat n)) hk_24 rfl (congrArg some (n_pred n)) rfl ?_
  refine gs_istore hk_24 rfl (Nat.le_of_ble_eq_true rfl) rfl rfl ?_
  refine gs_aload hk_24 rfl rfl rfl ?_
  refine gs_get hk_24 rfl h1 rfl ?_
  refine gs_iload hk_24 rfl rfl rfl ?_
  refine gs_call (as := [.ref (u + 1), .int (Int32.ofNat n)]) (rest := []) hk_24 rfl (Or.inr (Or.inr (Or.inr ⟨Or.inl rfl, j_recv_of a0⟩))) rfl rfl rfl (Nat.not_lt.mpr (Nat.le_of_ble_eq_true rfl)) (E0) rfl ?_
  refine gs_push (x := 2) hk_24 rfl (by decide) rfl ?_
  refine gs_icF hk_24 rfl (by simp only [j_cond, hk, decide_true, Bool.not_true]) rfl ?_
  refine gs_push (x := 2) hk_24 rfl (by decide) rfl ?_
  exact gs_iret hk_24 rfl (Or.inl rfl) rfl
theorem t_pickOut_24 {X : List Int32} {d : Nat} {m : jM} {r u q p n : Nat} {K V : Nat → Int32} (h1 : j_fld m r 4 1 = some (.ref (u + 1))) (h2 : j_fld m r 4 2 = some (.int (Int32.ofNat (n + 1)))) (hS : s_st m u q p K V) (hn : n < 27) {x : Int32} (hk : ¬ K n < 2) (hx : ¬ x < s_cnt (K n)) : j_Ev X (d + 1) 24 [.ref (r + 1), .int x] m (.inl (some (.int 3)), m) := by
  have E0 := t_shapeOf_63 (X := X) (d := d) (x := Int32.ofNat n) hS
  rw [s_k_n hn] at E0
  have E1 := t_itemCount_65 (X := X) (d := d) (x := Int32.ofNat n) hS
  rw [s_k_n hn] at E1
  obtain ⟨ks, vs, a0, a1, -⟩ := id hS
  refine e_of hk_24 ?_
  refine gs_aload hk_24 rfl rfl rfl ?_
  refine gs_get hk_24 rfl h2 rfl ?_
  refine gs_push (x := 1) hk_24 rfl (by decide) rfl ?_
  refine gs_bin (z := (Int32.ofNat n)) hk_24 rfl (congrArg some (n_pred n)) rfl ?_
  refine gs_istore hk_24 rfl (Nat.le_of_ble_eq_true rfl) rfl rfl ?_
  refine gs_aload hk_24 rfl rfl rfl ?_
  refine gs_get hk_24 rfl h1 rfl ?_
  refine gs_iload hk_24 rfl rfl rfl ?_
  refine gs_call (as := [.ref (u + 1), .int (Int32.ofNat n)]) (rest := []) hk_24 rfl (Or.inr (Or.inr (Or.inr ⟨Or.inl rfl, j_recv_of a0⟩))) rfl rfl rfl (Nat.not_lt.mpr (Nat.le_of_ble_eq_true rfl)) (E0) rfl ?_
  refine gs_push (x := 2) hk_24 rfl (by decide) rfl ?_
  refine gs_icT hk_24 rfl (by simp only [j_cond, hk, decide_false, Bool.not_false]) ?_
  refine gs_iload hk_24 rfl rfl rfl ?_
  refine gs_aload hk_24 rfl rfl rfl ?_
  refine gs_get hk_24 rfl h1 rfl ?_
  refine gs_iload hk_24 rfl rfl rfl ?_
  refine gs_call (as := [.ref (u + 1), .int (Int32.ofNat n)]) (rest := [.int x]) hk_24 rfl (Or.inr (Or.inr (Or.inr ⟨Or.inl rfl, j_recv_of a0⟩))) rfl rfl rfl (Nat.not_lt.mpr (Nat.le_of_ble_eq_true rfl)) (E1) rfl ?_
  refine gs_icF hk_24 rfl (decide_eq_false hx) rfl ?_
  refine gs_push (x := 3) hk_24 rfl (by decide) rfl ?_
  exact gs_iret hk_24 rfl (Or.inl rfl) rfl
theorem t_pick_24 {X : List Int32} {d : Nat} {m : jM} {r u q p n : Nat} {K V : Nat → Int32} (h1 : j_fld m r 4 1 = some (.ref (u + 1))) (h2 : j_fld m r 4 2 = some (.int (Int32.ofNat (n + 1)))) (hS : s_st m u q p K V) (hn : n < 27) {x : Int32} (hk : ¬ K n < 2) (hx : x < s_cnt (K n)) : ∃ m', j_Ev X (d + 1) 24 [.ref (r + 1), .int x] m (.inl (some (.int 0)), m') ∧ s_fr m m' [q, p] ∧ s_st m' u q p (fun z => if z = n then 1 else K z) (fun z => if z = n * 8 then s_v V (Int32.ofNat n) x else V z) := by
  have E0 := t_shapeOf_63 (X := X) (d := d) (x := Int32.ofNat n) hS
  rw [s_k_n hn] at E0
  have E1 := t_itemCount_65 (X := X) (d := d) (x := Int32.ofNat n) hS
  rw [s_k_n hn] at E1
  obtain ⟨ks, vs, a0, a1, -⟩ := id hS
  have E2 := t_itemOf_66 (X := X) (d := d) (x := Int32.ofNat n) (y := x) hS
  obtain ⟨m1, E, f1, s1⟩ := t_putNumber_68 (X := X) (d := d) (v := s_v V (Int32.ofNat n) x) hS hn
  refine ⟨m1, e_of hk_24 ?_, f1, s1⟩
  refine gs_aload hk_24 rfl rfl rfl ?_
  refine gs_get hk_24 rfl h2 rfl ?_
  refine gs_push (x := 1) hk_24 rfl (by decide) rfl ?_
  refine gs_bin (z := (Int32.ofNat n)) hk_24 rfl (congrArg some (n_pred n)) rfl ?_
  refine gs_istore hk_24 rfl (Nat.le_of_ble_eq_true rfl) rfl rfl ?_
  refine gs_aload hk_24 rfl rfl rfl ?_
  refine gs_get hk_24 rfl h1 rfl ?_
  refine gs_iload hk_24 rfl rfl rfl ?_
  refine gs_call (as := [.ref (u + 1), .int (Int32.ofNat n)]) (rest := []) hk_24 rfl (Or.inr (Or.inr (Or.inr ⟨Or.inl rfl, j_recv_of a0⟩))) rfl rfl rfl (Nat.not_lt.mpr (Nat.le_of_ble_eq_true rfl)) (E0) rfl ?_
  refine gs_push (x := 2) hk_24 rfl (by decide) rfl ?_
  refine gs_icT hk_24 rfl (by simp only [j_cond, hk, decide_false, Bool.not_false]) ?_
  refine gs_iload hk_24 rfl rfl rfl ?_
  refine gs_aload hk_24 rfl rfl rfl ?_
  refine gs_get hk_24 rfl h1 rfl ?_
  refine gs_iload hk_24 rfl rfl rfl ?_
  refine gs_call (as := [.ref (u + 1), .int (Int32.ofNat n)]) (rest := [.int x]) hk_24 rfl (Or.inr (Or.inr (Or.inr ⟨Or.inl rfl, j_recv_of a0⟩))) rfl rfl rfl (Nat.not_lt.mpr (Nat.le_of_ble_eq_true rfl)) (E1) rfl ?_
  refine gs_icT hk_24 rfl (decide_eq_true hx) ?_
  refine gs_aload hk_24 rfl rfl rfl ?_
  refine gs_get hk_24 rfl h1 rfl ?_
  refine gs_iload hk_24 rfl rfl rfl ?_
  refine gs_aload hk_24 rfl rfl rfl ?_
  refine gs_get hk_24 rfl h1 rfl ?_
  refine gs_iload hk_24 rfl rfl rfl ?_
  refine gs_iload hk_24 rfl rfl rfl ?_
  refine gs_call (as := [.ref (u + 1), .int (Int32.ofNat n), .int x]) (rest := [.int (Int32.ofNat n), .ref (u + 1)]) hk_24 rfl (Or.inr (Or.inr (Or.inr ⟨Or.inl rfl, j_recv_of a0⟩))) rfl rfl rfl (Nat.not_lt.mpr (Nat.le_of_ble_eq_true rfl)) (E2) rfl ?_
  refine gs_call (as := [.ref (u + 1), .int (Int32.ofNat n), .int (s_v V (Int32.ofNat n) x)]) (rest := []) hk_24 rfl (Or.inr (Or.inr (Or.inr ⟨Or.inl rfl, j_recv_of a0⟩))) rfl rfl rfl (Nat.not_lt.mpr (Nat.le_of_ble_eq_true rfl)) (E) rfl ?_
  refine gs_push (x := 0) hk_24 rfl (by decide) rfl ?_
  exact gs_iret hk_24 rfl (Or.inl rfl) rfl
