/-! ===== the stack machine sums up a row (printed by wip/whole/gen42.py) ===== -/
def s_sum (V : Nat → Int32) (n : Nat) : Nat → Int32
  | 0 => 0
  | j + 1 => s_sum V n j + V (n * 8 + j)
def s_mx (V : Nat → Int32) (n : Nat) : Nat → Int32
  | 0 => V (n * 8)
  | j + 1 => if s_mx V n j < V (n * 8 + j) then V (n * 8 + j) else s_mx V n j
def s_up (x : Int32) (V : Nat → Int32) (n c : Nat) : Int32 := if x = 18 then s_sum V n c else if c = 0 then 0 else s_mx V n c
theorem hk_29 : jP[29]? = some (jc_29, 6, [], []) := by rfl
theorem t_sumUp_29 {X : List Int32} {d : Nat} {m : jM} {r u q p n c : Nat} {x : Int32} {K V : Nat → Int32} (h1 : j_fld m r 4 1 = some (.ref (u + 1))) (h2 : j_fld m r 4 2 = some (.int (Int32.ofNat (n + 1)))) (hS : s_st m u q p K V) (hn : n < 27) (hc : c ≤ 8) (hk : s_cnt (K n) = Int32.ofNat c) : ∃ m', j_Ev X (d + 1) 29 [.ref (r + 1), .int x] m (.inl (some (.int 0)), m') ∧ s_fr m m' [q, p] ∧ s_st m' u q p (fun z => if z = n then 1 else K z) (fun z => if z = n * 8 then s_up x V n c else V z) := by
  have E1 := t_itemCount_65 (X := X) (d := d) (x := Int32.ofNat n) hS
  rw [s_k_n hn] at E1
  have E1 : j_Ev X d 65 [.ref (u + 1), .int (Int32.ofNat n)] m (.inl (some (.int (Int32.ofNat c))), m) := hk ▸ E1
  have E2 : ∀ j, j < 8 → j_Ev X d 66 [.ref (u + 1), .int (Int32.ofNat n), .int (Int32.ofNat j)] m (.inl (some (.int (V (n * 8 + j)))), m) := by
    intro j hj
    have := t_itemOf_66 (X := X) (d := d) (x := Int32.ofNat n) (y := Int32.ofNat j) hS
    rwa [s_v_n hn hj] at this
  have E20 : j_Ev X d 66 [.ref (u + 1), .int (Int32.ofNat n), .int 0] m (.inl (some (.int (V (n * 8)))), m) := E2 0 (by decide)
  obtain ⟨ks, vs, a0, a1, a4⟩ := id hS
  obtain ⟨m1, E, f1, s1⟩ := t_putNumber_68 (X := X) (d := d) (v := s_up x V n c) hS hn
  refine ⟨m1, e_of hk_29 ?_, f1, s1⟩
  refine gs_aload hk_29 rfl rfl rfl ?_
  refine gs_get hk_29 rfl h2 rfl ?_
  refine gs_push (x := 1) hk_29 rfl (by decide) rfl ?_
  refine gs_bin (z := (Int32.ofNat n)) hk_29 rfl (congrArg some (n_pred n)) rfl ?_
  refine gs_istore hk_29 rfl (Nat.le_of_ble_eq_true rfl) rfl rfl ?_
  refine gs_push (x := 0) hk_29 rfl (by decide) rfl ?_
  refine gs_istore hk_29 rfl (Nat.le_of_ble_eq_true rfl) rfl rfl ?_
  refine gs_aload hk_29 rfl rfl rfl ?_
  refine gs_get hk_29 rfl h1 rfl ?_
  refine gs_iload hk_29 rfl rfl rfl ?_
  refine gs_push (x := 0) hk_29 rfl (by decide) rfl ?_
  refine gs_call (as := [.ref (u + 1), .int (Int32.ofNat n), .int 0]) (rest := []) hk_29 rfl (Or.inr (Or.inr (Or.inr ⟨Or.inl rfl, j_recv_of a0⟩))) rfl rfl rfl (Nat.not_lt.mpr (Nat.le_of_ble_eq_true rfl)) (E20) rfl ?_
  refine gs_istore hk_29 rfl (Nat.le_of_ble_eq_true rfl) rfl rfl ?_
  refine gs_push (x := 0) hk_29 rfl (by decide) rfl ?_
  refine gs_istore hk_29 rfl (Nat.le_of_ble_eq_true rfl) rfl rfl ?_
  refine g_rep (n := c) (st := fun j => (15, [.ref (r + 1), .int x, .int (Int32.ofNat n), .int (s_sum V n j), .int (s_mx V n j), .int (Int32.ofNat j)], [])) (mm := fun _ => m) ?_ ?_
  · intro j hj hn2
    refine gs_iload hk_29 rfl rfl rfl ?_
    refine gs_aload hk_29 rfl rfl rfl ?_
    refine gs_get hk_29 rfl h1 rfl ?_
    refine gs_iload hk_29 rfl rfl rfl ?_
    refine gs_call (as := [.ref (u + 1), .int (Int32.ofNat n)]) (rest := [.int (Int32.ofNat j)]) hk_29 rfl (Or.inr (Or.inr (Or.inr ⟨Or.inl rfl, j_recv_of a0⟩))) rfl rfl rfl (Nat.not_lt.mpr (Nat.le_of_ble_eq_true rfl)) (E1) rfl ?_
    refine gs_icF hk_29 rfl (n_c3F (by omega) (by omega) hj) rfl ?_
    refine gs_iload hk_29 rfl rfl rfl ?_
    refine gs_aload hk_29 rfl rfl rfl ?_
    refine gs_get hk_29 rfl h1 rfl ?_
    refine gs_iload hk_29 rfl rfl rfl ?_
    refine gs_iload hk_29 rfl rfl rfl ?_
    refine gs_call (as := [.ref (u + 1), .int (Int32.ofNat n), .int (Int32.ofNat j)]) (rest := [.int (s_sum V n j)]) hk_29 rfl (Or.inr (Or.inr (Or.inr ⟨Or.inl rfl, j_recv_of a0⟩))) rfl rfl rfl (Nat.not_lt.mpr (Nat.le_of_ble_eq_true rfl)) (E2 j (by omega)) rfl ?_
    refine gs_bin (z := (s_sum V n (j + 1))) hk_29 rfl (rfl) rfl ?_
    refine gs_istore hk_29 rfl (Nat.le_of_ble_eq_true rfl) rfl rfl ?_
    refine gs_iload hk_29 rfl rfl rfl ?_
    refine gs_aload hk_29 rfl rfl rfl ?_
    refine gs_get hk_29 rfl h1 rfl ?_
    refine gs_iload hk_29 rfl rfl rfl ?_
    refine gs_iload hk_29 rfl rfl rfl ?_
    refine gs_call (as := [.ref (u + 1), .int (Int32.ofNat n), .int (Int32.ofNat j)]) (rest := [.int (s_mx V n j)]) hk_29 rfl (Or.inr (Or.inr (Or.inr ⟨Or.inl rfl, j_recv_of a0⟩))) rfl rfl rfl (Nat.not_lt.mpr (Nat.le_of_ble_eq_true rfl)) (E2 j (by omega)) rfl ?_
    refine gs_max hk_29 rfl (Nat.not_lt.mpr (Nat.le_of_ble_eq_true rfl)) rfl ?_
    refine gs_istore hk_29 rfl (Nat.le_of_ble_eq_true rfl) rfl rfl ?_
    refine gs_iinc (y := (Int32.ofNat (j + 1))) hk_29 rfl rfl (n_succ j) rfl rfl ?_
    exact gs_goto hk_29 rfl (hn2)
  · have hx := hn
    by_cases hc0 : c = 0
    · by_cases hx8 : x = 18
      · rw [show s_up x V n c = s_sum V n c from if_pos hx8] at E
        refine gs_iload hk_29 rfl rfl rfl ?_
        refine gs_aload hk_29 rfl rfl rfl ?_
        refine gs_get hk_29 rfl h1 rfl ?_
        refine gs_iload hk_29 rfl rfl rfl ?_
        refine gs_call (as := [.ref (u + 1), .int (Int32.ofNat n)]) (rest := [.int (Int32.ofNat c)]) hk_29 rfl (Or.inr (Or.inr (Or.inr ⟨Or.inl rfl, j_recv_of a0⟩))) rfl rfl rfl (Nat.not_lt.mpr (Nat.le_of_ble_eq_true rfl)) (E1) rfl ?_
        refine gs_icT hk_29 rfl (n_c3T (by omega) (by omega) (Nat.le_refl c)) ?_
        refine gs_aload hk_29 rfl rfl rfl ?_
        refine gs_get hk_29 rfl h1 rfl ?_
        refine gs_iload hk_29 rfl rfl rfl ?_
        refine gs_call (as := [.ref (u + 1), .int (Int32.ofNat n)]) (rest := []) hk_29 rfl (Or.inr (Or.inr (Or.inr ⟨Or.inl rfl, j_recv_of a0⟩))) rfl rfl rfl (Nat.not_lt.mpr (Nat.le_of_ble_eq_true rfl)) (E1) rfl ?_
        refine gs_ifF hk_29 rfl (by rw [hc0]; decide) rfl ?_
        refine gs_push (x := 0) hk_29 rfl (by decide) rfl ?_
        refine gs_istore hk_29 rfl (Nat.le_of_ble_eq_true rfl) rfl rfl ?_
        refine gs_aload hk_29 rfl rfl rfl ?_
        refine gs_get hk_29 rfl h1 rfl ?_
        refine gs_iload hk_29 rfl rfl rfl ?_
        refine gs_iload hk_29 rfl rfl rfl ?_
        refine gs_push (x := 18) hk_29 rfl (by decide) rfl ?_
        refine gs_icF hk_29 rfl (by simp only [j_cond, hx8, decide_true, Bool.not_true]) rfl ?_
        refine gs_iload hk_29 rfl rfl rfl ?_
        refine gs_goto hk_29 rfl ?_
        refine gs_call (as := [.ref (u + 1), .int (Int32.ofNat n), .int (s_sum V n c)]) (rest := []) hk_29 rfl (Or.inr (Or.inr (Or.inr ⟨Or.inl rfl, j_recv_of a0⟩))) rfl rfl rfl (Nat.not_lt.mpr (Nat.le_of_ble_eq_true rfl)) (E) rfl ?_
        refine gs_push (x := 0) hk_29 rfl (by decide) rfl ?_
        exact gs_iret hk_29 rfl (Or.inl rfl) rfl
      · rw [show s_up x V n c = 0 from (if_neg hx8).trans (if_pos hc0)] at E
        refine gs_iload hk_29 rfl rfl rfl ?_
        refine gs_aload hk_29 rfl rfl rfl ?_
        refine gs_get hk_29 rfl h1 rfl ?_
        refine gs_iload hk_29 rfl rfl rfl ?_
        refine gs_call (as := [.ref (u + 1), .int (Int32.ofNat n)]) (rest := [.int (Int32.ofNat c)]) hk_29 rfl (Or.inr (Or.inr (Or.inr ⟨Or.inl rfl, j_recv_of a0⟩))) rfl rfl rfl (Nat.not_lt.mpr (Nat.le_of_ble_eq_true rfl)) (E1) rfl ?_
        refine gs_icT hk_29 rfl (n_c3T (by omega) (by omega) (Nat.le_refl c)) ?_
        refine gs_aload hk_29 rfl rfl rfl ?_
        refine gs_get hk_29 rfl h1 rfl ?_
        refine gs_iload hk_29 rfl rfl rfl ?_
        refine gs_call (as := [.ref (u + 1), .int (Int32.ofNat n)]) (rest := []) hk_29 rfl (Or.inr (Or.inr (Or.inr ⟨Or.inl rfl, j_recv_of a0⟩))) rfl rfl rfl (Nat.not_lt.mpr (Nat.le_of_ble_eq_true rfl)) (E1) rfl ?_
        refine gs_ifF hk_29 rfl (by rw [hc0]; decide) rfl ?_
        refine gs_push (x := 0) hk_29 rfl (by decide) rfl ?_
        refine gs_istore hk_29 rfl (Nat.le_of_ble_eq_true rfl) rfl rfl ?_
        refine gs_aload hk_29 rfl rfl rfl ?_
        refine gs_get hk_29 rfl h1 rfl ?_
        refine gs_iload hk_29 rfl rfl rfl ?_
        refine gs_iload hk_29 rfl rfl rfl ?_
        refine gs_push (x := 18) hk_29 rfl (by decide) rfl ?_
        refine gs_icT hk_29 rfl (by simp only [j_cond, hx8, decide_false, Bool.not_false]) ?_
        refine gs_iload hk_29 rfl rfl rfl ?_
        refine gs_call (as := [.ref (u + 1), .int (Int32.ofNat n), .int 0]) (rest := []) hk_29 rfl (Or.inr (Or.inr (Or.inr ⟨Or.inl rfl, j_recv_of a0⟩))) rfl rfl rfl (Nat.not_lt.mpr (Nat.le_of_ble_eq_true rfl)) (E) rfl ?_
        refine gs_push (x := 0) hk_29 rfl (by decide) rfl ?_
        exact gs_iret hk_29 rfl (Or.inl rfl) rfl
    · have hcT : j_cond 1 (Int32.ofNat c) 0 = true := by
        have : ¬ Int32.ofNat c = Int32.ofNat 0 := by
          intro h
          have := congrArg Int32.toInt h
          rw [n_toInt (by omega), n_toInt (by decide)] at this
          omega
        simp only [j_cond, Bool.not_eq_true', decide_eq_false_iff_not]; exact this
      by_cases hx8 : x = 18
      · rw [show s_up x V n c = s_sum V n c from if_pos hx8] at E
        refine gs_iload hk_29 rfl rfl rfl ?_
        refine gs_aload hk_29 rfl rfl rfl ?_
        refine gs_get hk_29 rfl h1 rfl ?_
        refine gs_iload hk_29 rfl rfl rfl ?_
        refine gs_call (as := [.ref (u + 1), .int (Int32.ofNat n)]) (rest := [.int (Int32.ofNat c)]) hk_29 rfl (Or.inr (Or.inr (Or.inr ⟨Or.inl rfl, j_recv_of a0⟩))) rfl rfl rfl (Nat.not_lt.mpr (Nat.le_of_ble_eq_true rfl)) (E1) rfl ?_
        refine gs_icT hk_29 rfl (n_c3T (by omega) (by omega) (Nat.le_refl c)) ?_
        refine gs_aload hk_29 rfl rfl rfl ?_
        refine gs_get hk_29 rfl h1 rfl ?_
        refine gs_iload hk_29 rfl rfl rfl ?_
        refine gs_call (as := [.ref (u + 1), .int (Int32.ofNat n)]) (rest := []) hk_29 rfl (Or.inr (Or.inr (Or.inr ⟨Or.inl rfl, j_recv_of a0⟩))) rfl rfl rfl (Nat.not_lt.mpr (Nat.le_of_ble_eq_true rfl)) (E1) rfl ?_
        refine gs_ifT hk_29 rfl (hcT) ?_
        refine gs_aload hk_29 rfl rfl rfl ?_
        refine gs_get hk_29 rfl h1 rfl ?_
        refine gs_iload hk_29 rfl rfl rfl ?_
        refine gs_iload hk_29 rfl rfl rfl ?_
        refine gs_push (x := 18) hk_29 rfl (by decide) rfl ?_
        refine gs_icF hk_29 rfl (by simp only [j_cond, hx8, decide_true, Bool.not_true]) rfl ?_
        refine gs_iload hk_29 rfl rfl rfl ?_
        refine gs_goto hk_29 rfl ?_
        refine gs_call (as := [.ref (u + 1), .int (Int32.ofNat n), .int (s_sum V n c)]) (rest := []) hk_29 rfl (Or.inr (Or.inr (Or.inr ⟨Or.inl rfl, j_recv_of a0⟩))) rfl rfl rfl (Nat.not_lt.mpr (Nat.le_of_ble_eq_true rfl)) (E) rfl ?_
        refine gs_push (x := 0) hk_29 rfl (by decide) rfl ?_
        exact gs_iret hk_29 rfl (Or.inl rfl) rfl
      · rw [show s_up x V n c = s_mx V n c from (if_neg hx8).trans (if_neg hc0)] at E
        refine gs_iload hk_29 rfl rfl rfl ?_
        refine gs_aload hk_29 rfl rfl rfl ?_
        refine gs_get hk_29 rfl h1 rfl ?_
        refine gs_iload hk_29 rfl rfl rfl ?_
        refine gs_call (as := [.ref (u + 1), .int (Int32.ofNat n)]) (rest := [.int (Int32.ofNat c)]) hk_29 rfl (Or.inr (Or.inr (Or.inr ⟨Or.inl rfl, j_recv_of a0⟩))) rfl rfl rfl (Nat.not_lt.mpr (Nat.le_of_ble_eq_true rfl)) (E1) rfl ?_
        refine gs_icT hk_29 rfl (n_c3T (by omega) (by omega) (Nat.le_refl c)) ?_
        refine gs_aload hk_29 rfl rfl rfl ?_
        refine gs_get hk_29 rfl h1 rfl ?_
        refine gs_iload hk_29 rfl rfl rfl ?_
        refine gs_call (as := [.ref (u + 1), .int (Int32.ofNat n)]) (rest := []) hk_29 rfl (Or.inr (Or.inr (Or.inr ⟨Or.inl rfl, j_recv_of a0⟩))) rfl rfl rfl (Nat.not_lt.mpr (Nat.le_of_ble_eq_true rfl)) (E1) rfl ?_
        refine gs_ifT hk_29 rfl (hcT) ?_
        refine gs_aload hk_29 rfl rfl rfl ?_
        refine gs_get hk_29 rfl h1 rfl ?_
        refine gs_iload hk_29 rfl rfl rfl ?_
        refine gs_iload hk_29 rfl rfl rfl ?_
        refine gs_push (x := 18) hk_29 rfl (by decide) rfl ?_
        refine gs_icT hk_29 rfl (by simp only [j_cond, hx8, decide_false, Bool.not_false]) ?_
        refine gs_iload hk_29 rfl rfl rfl ?_
        refine gs_call (as := [.ref (u + 1), .int (Int32.ofNat n), .int (s_mx V n c)]) (rest := []) hk_29 rfl (Or.inr (Or.inr (Or.inr ⟨Or.inl rfl, j_recv_of a0⟩))) rfl rfl rfl (Nat.not_lt.mpr (Nat.le_of_ble_eq_true rfl)) (E) rfl ?_
        refine gs_push (x := 0) hk_29 rfl (by decide) rfl ?_
        exact gs_iret hk_29 rfl (Or.inl rfl) rfl
