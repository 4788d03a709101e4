/-! ===== the stack machine adds to a name (printed by wip/whole/gen38.py) ===== -/
theorem hk_23 : jP[23]? = some (jc_23, 3, [], []) := by rfl
theorem t_changeNo0_23 {X : List Int32} {d : Nat} {m : jM} {r w u q p q2 p2 n k : Nat} {K V K2 V2 : Nat → Int32} (h0 : j_fld m r 4 0 = some (.ref (w + 1))) (h1 : j_fld m r 4 1 = some (.ref (u + 1))) (h2 : j_fld m r 4 2 = some (.int (Int32.ofNat (n + 1)))) (hW : s_st m w q2 p2 K2 V2) (hS : s_st m u q p K V) (hn : n < 27) (hk : k < 27) (hc : ¬ K2 k = 1) : j_Ev X (d + 1) 23 [.ref (r + 1), .int (Int32.ofNat k)] m (.inl (some (.int 2)), m) := by
  have E0 := t_isNumber_64 (X := X) (d := d) (x := Int32.ofNat k) hW
  rw [s_k_n hk] at E0
  have E1 := t_isNumber_64 (X := X) (d := d) (x := Int32.ofNat n) hS
  rw [s_k_n hn] at E1
  obtain ⟨kw, vw, b0, b1, b2, b3, b4⟩ := id hW
  obtain ⟨ks, vs, a0, a1, a2, a3, a4⟩ := id hS
  rw [s_if0 hc] at E0
  refine e_of hk_23 ?_
  refine gs_aload hk_23 rfl rfl rfl ?_
  refine gs_get hk_23 rfl h2 rfl ?_
  refine gs_push (x := 1) hk_23 rfl (by decide) rfl ?_
  refine gs_bin (z := (Int32.ofNat n)) hk_23 rfl (congrArg some (n_pred n)) rfl ?_
  refine gs_istore hk_23 rfl (Nat.le_of_ble_eq_true rfl) rfl rfl ?_
  refine gs_aload hk_23 rfl rfl rfl ?_
  refine gs_get hk_23 rfl h0 rfl ?_
  refine gs_iload hk_23 rfl rfl rfl ?_
  refine gs_call (as := [.ref (w + 1), .int (Int32.ofNat k)]) (rest := []) hk_23 rfl (Or.inr (Or.inr (Or.inr ⟨Or.inl rfl, j_recv_of b0⟩))) rfl rfl rfl (Nat.not_lt.mpr (Nat.le_of_ble_eq_true rfl)) (E0) rfl ?_
  refine gs_ifT hk_23 rfl (by decide) ?_
  refine gs_push (x := 2) hk_23 rfl (by decide) rfl ?_
  exact gs_iret hk_23 rfl (Or.inl rfl) rfl
theorem t_changeNo1_23 {X : List Int32} {d : Nat} {m : jM} {r w u q p q2 p2 n k : Nat} {K V K2 V2 : Nat → Int32} (h0 : j_fld m r 4 0 = some (.ref (w + 1))) (h1 : j_fld m r 4 1 = some (.ref (u + 1))) (h2 : j_fld m r 4 2 = some (.int (Int32.ofNat (n + 1)))) (hW : s_st m w q2 p2 K2 V2) (hS : s_st m u q p K V) (hn : n < 27) (hk : k < 27) (hc : K2 k = 1) (hc1 : ¬ K n = 1) : j_Ev X (d + 1) 23 [.ref (r + 1), .int (Int32.ofNat k)] m (.inl (some (.int 2)), m) := by
  have E0 := t_isNumber_64 (X := X) (d := d) (x := Int32.ofNat k) hW
  rw [s_k_n hk] at E0
  have E1 := t_isNumber_64 (X := X) (d := d) (x := Int32.ofNat n) hS
  rw [s_k_n hn] at E1
  obtain ⟨kw, vw, b0, b1, b2, b3, b4⟩ := id hW
  obtain ⟨ks, vs, a0, a1, a2, a3, a4⟩ := id hS
  rw [s_if1 hc] at E0
  rw [s_if0 hc1] at E1
  refine e_of hk_23 ?_
  refine gs_aload hk_23 rfl rfl rfl ?_
  refine gs_get hk_23 rfl h2 rfl ?_
  refine gs_push (x := 1) hk_23 rfl (by decide) rfl ?_
  refine gs_bin (z := (Int32.ofNat n)) hk_23 rfl (congrArg some (n_pred n)) rfl ?_
  refine gs_istore hk_23 rfl (Nat.le_of_ble_eq_true rfl) rfl rfl ?_
  refine gs_aload hk_23 rfl rfl rfl ?_
  refine gs_get hk_23 rfl h0 rfl ?_
  refine gs_iload hk_23 rfl rfl rfl ?_
  refine gs_call (as := [.ref (w + 1), .int (Int32.ofNat k)]) (rest := []) hk_23 rfl (Or.inr (Or.inr (Or.inr ⟨Or.inl rfl, j_recv_of b0⟩))) rfl rfl rfl (Nat.not_lt.mpr (Nat.le_of_ble_eq_true rfl)) (E0) rfl ?_
  refine gs_ifF hk_23 rfl (by decide) rfl ?_
  refine gs_aload hk_23 rfl rfl rfl ?_
  refine gs_get hk_23 rfl h1 rfl ?_
  refine gs_iload hk_23 rfl rfl rfl ?_
  refine gs_call (as := [.ref (u + 1), .int (Int32.ofNat n)]) (rest := []) hk_23 rfl (Or.inr (Or.inr (Or.inr ⟨Or.inl rfl, j_recv_of a0⟩))) rfl rfl rfl (Nat.not_lt.mpr (Nat.le_of_ble_eq_true rfl)) (E1) rfl ?_
  refine gs_ifF hk_23 rfl (by decide) rfl ?_
  refine gs_push (x := 2) hk_23 rfl (by decide) rfl ?_
  exact gs_iret hk_23 rfl (Or.inl rfl) rfl
theorem t_change_23 {X : List Int32} {d : Nat} {m : jM} {r w u q p q2 p2 n k : Nat} {K V K2 V2 : Nat → Int32} (h0 : j_fld m r 4 0 = some (.ref (w + 1))) (h1 : j_fld m r 4 1 = some (.ref (u + 1))) (h2 : j_fld m r 4 2 = some (.int (Int32.ofNat (n + 1)))) (hW : s_st m w q2 p2 K2 V2) (hS : s_st m u q p K V) (hn : n < 27) (hk : k < 27) (hc : K2 k = 1) (hc1 : K n = 1) : ∃ m', j_Ev X (d + 1) 23 [.ref (r + 1), .int (Int32.ofNat k)] m (.inl (some (.int 0)), m') ∧ s_fr m m' [r, q2, p2] ∧ s_st m' w q2 p2 (fun z => if z = k then 1 else K2 z) (fun z => if z = k * 8 then V2 (k * 8) + V (n * 8) else V2 z) ∧ j_fld m' r 4 2 = some (.int (Int32.ofNat n)) := by
  have E0 := t_isNumber_64 (X := X) (d := d) (x := Int32.ofNat k) hW
  rw [s_k_n hk] at E0
  have E1 := t_isNumber_64 (X := X) (d := d) (x := Int32.ofNat n) hS
  rw [s_k_n hn] at E1
  obtain ⟨kw, vw, b0, b1, b2, b3, b4⟩ := id hW
  obtain ⟨ks, vs, a0, a1, a2, a3, a4⟩ := id hS
  rw [s_if1 hc] at E0
  rw [s_if1 hc1] at E1
  have E2 := t_itemOf_66 (X := X) (d := d) (x := Int32.ofNat k) (y := Int32.ofNat 0) hW
  rw [s_v_n hk (by decide)] at E2
  have E3 := t_itemOf_66 (X := X) (d := d) (x := Int32.ofNat n) (y := Int32.ofNat 0) hS
  rw [s_v_n hn (by decide)] at E3
  obtain ⟨m1, E, f1, s1⟩ := t_putNumber_68 (X := X) (d := d) (v := V2 (k * 8) + V (n * 8)) hW hk
  have hrq : r ≠ q2 := j_tags h2 b2 (by decide)
  have hrp : r ≠ p2 := j_tags h2 b3 (by decide)
  have hrw : r ≠ w := j_tags2 h2 b0 (by decide)
  have c2 : j_fld m1 r 4 2 = some (.int (Int32.ofNat (n + 1))) := (f1.fld (by simp [hrq, hrp])).trans h2
  have f2 := s_fr_put m1 r 2 (.int (Int32.ofNat n))
  refine ⟨j_put m1 r 2 (.int (Int32.ofNat n)), e_of hk_23 ?_, (f1.mono (by simp)).trans (f2.mono (by simp)), s1.fr f2 (by simpa using hrw.symm) (by simpa using hrq.symm) (by simpa using hrp.symm), j_fld_put c2⟩
  refine gs_aload hk_23 rfl rfl rfl ?_
  refine gs_get hk_23 rfl h2 rfl ?_
  refine gs_push (x := 1) hk_23 rfl (by decide) rfl ?_
  refine gs_bin (z := (Int32.ofNat n)) hk_23 rfl (congrArg some (n_pred n)) rfl ?_
  refine gs_istore hk_23 rfl (Nat.le_of_ble_eq_true rfl) rfl rfl ?_
  refine gs_aload hk_23 rfl rfl rfl ?_
  refine gs_get hk_23 rfl h0 rfl ?_
  refine gs_iload hk_23 rfl rfl rfl ?_
  refine gs_call (as := [.ref (w + 1), .int (Int32.ofNat k)]) (rest := []) hk_23 rfl (Or.inr (Or.inr (Or.inr ⟨Or.inl rfl, j_recv_of b0⟩))) rfl rfl rfl (Nat.not_lt.mpr (Nat.le_of_ble_eq_true rfl)) (E0) rfl ?_
  refine gs_ifF hk_23 rfl (by decide) rfl ?_
  refine gs_aload hk_23 rfl rfl rfl ?_
  refine gs_get hk_23 rfl h1 rfl ?_
  refine gs_iload hk_23 rfl rfl rfl ?_
  refine gs_call (as := [.ref (u + 1), .int (Int32.ofNat n)]) (rest := []) hk_23 rfl (Or.inr (Or.inr (Or.inr ⟨Or.inl rfl, j_recv_of a0⟩))) rfl rfl rfl (Nat.not_lt.mpr (Nat.le_of_ble_eq_true rfl)) (E1) rfl ?_
  refine gs_ifT hk_23 rfl (by decide) ?_
  refine gs_aload hk_23 rfl rfl rfl ?_
  refine gs_get hk_23 rfl h0 rfl ?_
  refine gs_iload hk_23 rfl rfl rfl ?_
  refine gs_aload hk_23 rfl rfl rfl ?_
  refine gs_get hk_23 rfl h0 rfl ?_
  refine gs_iload hk_23 rfl rfl rfl ?_
  refine gs_push (x := 0) hk_23 rfl (by decide) rfl ?_
  refine gs_call (as := [.ref (w + 1), .int (Int32.ofNat k), .int 0]) (rest := [.int (Int32.ofNat k), .ref (w + 1)]) hk_23 rfl (Or.inr (Or.inr (Or.inr ⟨Or.inl rfl, j_recv_of b0⟩))) rfl rfl rfl (Nat.not_lt.mpr (Nat.le_of_ble_eq_true rfl)) (E2) rfl ?_
  refine gs_aload hk_23 rfl rfl rfl ?_
  refine gs_get hk_23 rfl h1 rfl ?_
  refine gs_iload hk_23 rfl rfl rfl ?_
  refine gs_push (x := 0) hk_23 rfl (by decide) rfl ?_
  refine gs_call (as := [.ref (u + 1), .int (Int32.ofNat n), .int 0]) (rest := [.int (V2 (k * 8)), .int (Int32.ofNat k), .ref (w + 1)]) hk_23 rfl (Or.inr (Or.inr (Or.inr ⟨Or.inl rfl, j_recv_of a0⟩))) rfl rfl rfl (Nat.not_lt.mpr (Nat.le_of_ble_eq_true rfl)) (E3) rfl ?_
  refine gs_bin (z := ((V2 (k * 8)) + (V (n * 8)))) hk_23 rfl (rfl) rfl ?_
  refine gs_call (as := [.ref (w + 1), .int (Int32.ofNat k), .int ((V2 (k * 8)) + (V (n * 8)))]) (rest := []) hk_23 rfl (Or.inr (Or.inr (Or.inr ⟨Or.inl rfl, j_recv_of b0⟩))) rfl rfl rfl (Nat.not_lt.mpr (Nat.le_of_ble_eq_true rfl)) (E) rfl ?_
  refine gs_aload hk_23 rfl rfl rfl ?_
  refine gs_iload hk_23 rfl rfl rfl ?_
  refine gs_put hk_23 rfl c2 rfl rfl rfl ?_
  refine gs_push (x := 0) hk_23 rfl (by decide) rfl ?_
  exact gs_iret hk_23 rfl (Or.inl rfl) rfl
