/-! ===== the last place where something holds, or -1 (printed by wip/whole/gen31.py) ===== -/
def s_last (p : Nat → Bool) : Nat → Int32
  | 0 => -1
  | n + 1 => if p n then Int32.ofNat n else s_last p n
def s_has (b x : Int32) : Int32 := if j_cond 2 x 0 = true then 0 else if j_cond 0 ((b >>> (x &&& 31)) &&& 1) 0 = true then 0 else 1
theorem hk_170 : jP[170]? = some (jc_170, 4, [], []) := by rfl
theorem t_widgetOf_170 {X : List Int32} {d : Nat} {m : jM} {r q n : Nat} {x : Int32} {vs : List Value} (h0 : j_fld m r 12 48 = some (.int (Int32.ofNat n))) (h1 : j_fld m r 12 49 = some (.ref (q + 1))) (h2 : j_arr m q 50 = some vs) (h3 : n ≤ vs.length) (h4 : vs.length < 2147483648) : j_Ev X d 170 [.ref (r + 1), .int x] m (.inl (some (.int (s_last (fun j => decide (j_iv (vs.getD j .null) = x)) n))), m) := by
  refine e_of hk_170 ?_
  refine gs_push (x := (-1)) hk_170 rfl (by decide) rfl ?_
  refine gs_istore hk_170 rfl (Nat.le_of_ble_eq_true rfl) rfl rfl ?_
  refine gs_push (x := 0) hk_170 rfl (by decide) rfl ?_
  refine gs_istore hk_170 rfl (Nat.le_of_ble_eq_true rfl) rfl rfl ?_
  refine g_rep (n := n) (st := fun j => (4, [.ref (r + 1), .int x, .int (s_last (fun j => decide (j_iv (vs.getD j .null) = x)) j), .int (Int32.ofNat j)], [])) (mm := fun _ => m) ?_ ?_
  · intro j hj hn
    by_cases hp : j_iv (vs.getD j .null) = x
    · have hs : s_last (fun j => decide (j_iv (vs.getD j .null) = x)) (j + 1) = Int32.ofNat j := if_pos (decide_eq_true hp)
      rw [hs] at hn
      refine gs_iload hk_170 rfl rfl rfl ?_
      refine gs_aload hk_170 rfl rfl rfl ?_
      refine gs_get hk_170 rfl h0 rfl ?_
      refine gs_icF hk_170 rfl (n_c3F (by omega) (by omega) hj) rfl ?_
      refine gs_aload hk_170 rfl rfl rfl ?_
      refine gs_get hk_170 rfl h1 rfl ?_
      refine gs_iload hk_170 rfl rfl rfl ?_
      refine gs_ald (y := j_iv (vs.getD j .null)) hk_170 rfl h2 (n_ix (by omega) (by omega)) (by rw [n_clamp (by omega)]) rfl ?_
      refine gs_iload hk_170 rfl rfl rfl ?_
      refine gs_icF hk_170 rfl (by simp only [j_cond, hp, decide_true, Bool.not_true]) rfl ?_
      refine gs_iload hk_170 rfl rfl rfl ?_
      refine gs_goto hk_170 rfl ?_
      refine gs_istore hk_170 rfl (Nat.le_of_ble_eq_true rfl) rfl rfl ?_
      refine gs_iinc (y := (Int32.ofNat (j + 1))) hk_170 rfl rfl (n_succ j) rfl rfl ?_
      exact gs_goto hk_170 rfl (hn)
    · have hs : s_last (fun j => decide (j_iv (vs.getD j .null) = x)) (j + 1) = s_last (fun j => decide (j_iv (vs.getD j .null) = x)) j := if_neg (by simpa using hp)
      rw [hs] at hn
      refine gs_iload hk_170 rfl rfl rfl ?_
      refine gs_aload hk_170 rfl rfl rfl ?_
      refine gs_get hk_170 rfl h0 rfl ?_
      refine gs_icF hk_170 rfl (n_c3F (by omega) (by omega) hj) rfl ?_
      refine gs_aload hk_170 rfl rfl rfl ?_
      refine gs_get hk_170 rfl h1 rfl ?_
      refine gs_iload hk_170 rfl rfl rfl ?_
      refine gs_ald (y := j_iv (vs.getD j .null)) hk_170 rfl h2 (n_ix (by omega) (by omega)) (by rw [n_clamp (by omega)]) rfl ?_
      refine gs_iload hk_170 rfl rfl rfl ?_
      refine gs_icT hk_170 rfl (by simp only [j_cond, hp, decide_false, Bool.not_false]) ?_
      refine gs_iload hk_170 rfl rfl rfl ?_
      refine gs_istore hk_170 rfl (Nat.le_of_ble_eq_true rfl) rfl rfl ?_
      refine gs_iinc (y := (Int32.ofNat (j + 1))) hk_170 rfl rfl (n_succ j) rfl rfl ?_
      exact gs_goto hk_170 rfl (hn)
  · have hz : True := trivial
    refine gs_iload hk_170 rfl rfl rfl ?_
    refine gs_aload hk_170 rfl rfl rfl ?_
    refine gs_get hk_170 rfl h0 rfl ?_
    refine gs_icT hk_170 rfl (n_c3T (by omega) (by omega) (Nat.le_refl n)) ?_
    refine gs_iload hk_170 rfl rfl rfl ?_
    exact gs_iret hk_170 rfl (Or.inl rfl) rfl
theorem hk_127 : jP[127]? = some (jc_127, 2, [], []) := by rfl
theorem t_has_126 {X : List Int32} {d : Nat} {m : jM} {b x : Int32} : j_Ev X d 126 [.int b, .int x] m (.inl (some (.int (s_has b x))), m) := s_N_has_126
theorem n_dec (n : Nat) : Int32.ofNat n + Int32.ofNat 4294967295 = Int32.ofNat n - 1 := by
  have h : Int32.ofNat 4294967295 = -1 := by decide
  rw [Int32.sub_eq_add_neg, h]
theorem s_has_01 {b x : Int32} (h : ¬ s_has b x = 1) : s_has b x = 0 := by
  unfold s_has at *
  split
  · rfl
  · rename_i c1
    rw [if_neg c1] at h
    split
    · rfl
    · rename_i c2
      rw [if_neg c2] at h
      exact absurd rfl h
theorem n_pred (n : Nat) : Int32.ofNat (n + 1) - 1 = Int32.ofNat n := by
  rw [← n_succ]
  apply Int32.toBitVec_inj.mp
  simp
theorem t_greatest_127 {X : List Int32} {d : Nat} {m : jM} {b : Int32} : j_Ev X (d + 1) 127 [.int b] m (.inl (some (.int (s_last (fun j => decide (s_has b (Int32.ofNat j) = 1)) 20))), m) := by
  have H : ∀ n, n ≤ 20 → j_Go X (d + 1) 127 (2, [.int b, .int (Int32.ofNat n - 1)], []) m (.inl (some (.int (s_last (fun j => decide (s_has b (Int32.ofNat j) = 1)) n))), m) := by
    intro n
    induction n with
    | zero =>
      intro _
      refine gs_iload hk_127 rfl rfl rfl ?_
      refine gs_ifT hk_127 rfl (by decide) ?_
      refine gs_push (x := (-1)) hk_127 rfl (by decide) rfl ?_
      exact gs_iret hk_127 rfl (Or.inl rfl) rfl
    | succ n ih =>
      intro hn
      have ih := ih (by omega)
      rw [n_pred]
      have hc := t_has_126 (X := X) (d := d) (m := m) (b := b) (x := Int32.ofNat n)
      by_cases hp : s_has b (Int32.ofNat n) = 1
      · have hs : s_last (fun j => decide (s_has b (Int32.ofNat j) = 1)) (n + 1) = Int32.ofNat n := if_pos (decide_eq_true hp)
        rw [hs]
        refine gs_iload hk_127 rfl rfl rfl ?_
        refine gs_ifF hk_127 rfl (n_c2F (by omega)) rfl ?_
        refine gs_iload hk_127 rfl rfl rfl ?_
        refine gs_iload hk_127 rfl rfl rfl ?_
        refine gs_call (as := [.int b, .int (Int32.ofNat n)]) (rest := []) hk_127 rfl (Or.inl rfl) rfl rfl rfl (Nat.not_lt.mpr (Nat.le_of_ble_eq_true rfl)) (hc) rfl ?_
        refine gs_ifF hk_127 rfl (by rw [hp]; decide) rfl ?_
        refine gs_iload hk_127 rfl rfl rfl ?_
        exact gs_iret hk_127 rfl (Or.inl rfl) rfl
      · have hs : s_last (fun j => decide (s_has b (Int32.ofNat j) = 1)) (n + 1) = s_last (fun j => decide (s_has b (Int32.ofNat j) = 1)) n := if_neg (by simpa using hp)
        rw [hs]
        refine gs_iload hk_127 rfl rfl rfl ?_
        refine gs_ifF hk_127 rfl (n_c2F (by omega)) rfl ?_
        refine gs_iload hk_127 rfl rfl rfl ?_
        refine gs_iload hk_127 rfl rfl rfl ?_
        refine gs_call (as := [.int b, .int (Int32.ofNat n)]) (rest := []) hk_127 rfl (Or.inl rfl) rfl rfl rfl (Nat.not_lt.mpr (Nat.le_of_ble_eq_true rfl)) (hc) rfl ?_
        refine gs_ifT hk_127 rfl (by rw [s_has_01 hp]; decide) ?_
        refine gs_iinc (y := (Int32.ofNat n - 1)) hk_127 rfl rfl (n_dec n) rfl rfl ?_
        exact gs_goto hk_127 rfl (ih)
  refine e_of hk_127 ?_
  refine gs_push (x := 19) hk_127 rfl (by decide) rfl ?_
  refine gs_istore hk_127 rfl (Nat.le_of_ble_eq_true rfl) rfl rfl ?_
  exact H 20 (Nat.le_refl _)
