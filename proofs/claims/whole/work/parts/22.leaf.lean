/-! ===== the methods without loops that write nothing: what they answer (printed by wip/whole/extract.py) ===== -/
theorem j_bf {b : Bool} (h : ¬ b = true) : b = false := by cases b with
  | true => exact absurd rfl h
  | false => rfl
theorem hk_28 : jP[28]? = some (jc_28, 3, [], []) := by rfl
theorem s_X4_isKept_28 {X : List Int32} {d : Nat} {m : jM} {p0 : Int32} {p1 : Int32} {p2 : Int32} : j_Ev X (d) 28 [.int p0, .int p1, .int p2] m (.inl (some (.int (if j_cond 1 p0 15 = true then (if j_cond 1 p0 16 = true then (if j_cond 1 p1 p2 = true then 0 else 1) else (if j_cond 5 p1 p2 = true then 0 else 1)) else (if j_cond 3 p1 p2 = true then 0 else 1)))), m) := by
  refine e_of hk_28 ?_
  refine gs_iload hk_28 rfl rfl rfl ?_
  refine gs_push (x := 15) hk_28 rfl (by decide) rfl ?_
  by_cases c1 : j_cond 1 p0 15 = true
  · rw [if_pos c1]
    refine gs_icT hk_28 rfl c1 ?_
    refine gs_iload hk_28 rfl rfl rfl ?_
    refine gs_push (x := 16) hk_28 rfl (by decide) rfl ?_
    by_cases c2 : j_cond 1 p0 16 = true
    · rw [if_pos c2]
      refine gs_icT hk_28 rfl c2 ?_
      refine gs_iload hk_28 rfl rfl rfl ?_
      refine gs_iload hk_28 rfl rfl rfl ?_
      by_cases c3 : j_cond 1 p1 p2 = true
      · rw [if_pos c3]
        refine gs_icT hk_28 rfl c3 ?_
        refine gs_push (x := 0) hk_28 rfl (by decide) rfl ?_
        exact gs_iret hk_28 rfl (Or.inr (by decide)) rfl
      · rw [if_neg c3]
        refine gs_icF hk_28 rfl (j_bf c3) rfl ?_
        refine gs_push (x := 1) hk_28 rfl (by decide) rfl ?_
        refine gs_goto hk_28 rfl ?_
        exact gs_iret hk_28 rfl (Or.inr (by decide)) rfl
    · rw [if_neg c2]
      refine gs_icF hk_28 rfl (j_bf c2) rfl ?_
      refine gs_iload hk_28 rfl rfl rfl ?_
      refine gs_iload hk_28 rfl rfl rfl ?_
      by_cases c4 : j_cond 5 p1 p2 = true
      · rw [if_pos c4]
        refine gs_icT hk_28 rfl c4 ?_
        refine gs_push (x := 0) hk_28 rfl (by decide) rfl ?_
        refine gs_goto hk_28 rfl ?_
        exact gs_iret hk_28 rfl (Or.inr (by decide)) rfl
      · rw [if_neg c4]
        refine gs_icF hk_28 rfl (j_bf c4) rfl ?_
        refine gs_push (x := 1) hk_28 rfl (by decide) rfl ?_
        refine gs_goto hk_28 rfl ?_
        exact gs_iret hk_28 rfl (Or.inr (by decide)) rfl
  · rw [if_neg c1]
    refine gs_icF hk_28 rfl (j_bf c1) rfl ?_
    refine gs_iload hk_28 rfl rfl rfl ?_
    refine gs_iload hk_28 rfl rfl rfl ?_
    by_cases c5 : j_cond 3 p1 p2 = true
    · rw [if_pos c5]
      refine gs_icT hk_28 rfl c5 ?_
      refine gs_push (x := 0) hk_28 rfl (by decide) rfl ?_
      exact gs_iret hk_28 rfl (Or.inr (by decide)) rfl
    · rw [if_neg c5]
      refine gs_icF hk_28 rfl (j_bf c5) rfl ?_
      refine gs_push (x := 1) hk_28 rfl (by decide) rfl ?_
      refine gs_goto hk_28 rfl ?_
      exact gs_iret hk_28 rfl (Or.inr (by decide)) rfl
theorem hk_58 : jP[58]? = some (jc_58, 2, [], []) := by rfl
theorem s_X7_at_58 {X : List Int32} {d : Nat} {m : jM} {r0 : Nat} {p0 : Int32} {v0 : Int32} {v1 : Nat} {l2 : List Value} (h0 : j_fld m r0 7 1 = some (.int v0)) (h1 : j_fld m r0 7 0 = some (.ref (v1 + 1))) (h2 : j_arr m v1 51 = some l2) (h3 : ¬ (j_cond 2 p0 0 = true) → ¬ (j_cond 3 p0 v0 = true) → ¬ (p0 < 0 ∨ l2.length ≤ p0.toNatClampNeg)) : j_Ev X (d) 58 [.ref (r0 + 1), .int p0] m (.inl (some (.int (if j_cond 2 p0 0 = true then (-1) else (if j_cond 3 p0 v0 = true then (-1) else (j_iv (l2.getD p0.toNatClampNeg .null)))))), m) := by
  refine e_of hk_58 ?_
  refine gs_iload hk_58 rfl rfl rfl ?_
  by_cases c1 : j_cond 2 p0 0 = true
  · rw [if_pos c1]
    refine gs_ifT hk_58 rfl c1 ?_
    refine gs_push (x := (-1)) hk_58 rfl (by decide) rfl ?_
    exact gs_iret hk_58 rfl (Or.inl rfl) rfl
  · rw [if_neg c1]
    refine gs_ifF hk_58 rfl (j_bf c1) rfl ?_
    refine gs_iload hk_58 rfl rfl rfl ?_
    refine gs_aload hk_58 rfl rfl rfl ?_
    refine gs_get hk_58 rfl h0 rfl ?_
    by_cases c2 : j_cond 3 p0 v0 = true
    · rw [if_pos c2]
      refine gs_icT hk_58 rfl c2 ?_
      refine gs_push (x := (-1)) hk_58 rfl (by decide) rfl ?_
      exact gs_iret hk_58 rfl (Or.inl rfl) rfl
    · rw [if_neg c2]
      refine gs_icF hk_58 rfl (j_bf c2) rfl ?_
      refine gs_aload hk_58 rfl rfl rfl ?_
      refine gs_get hk_58 rfl h1 rfl ?_
      refine gs_iload hk_58 rfl rfl rfl ?_
      refine gs_ald hk_58 rfl h2 (h3 (by assumption) (by assumption)) rfl rfl ?_
      refine gs_goto hk_58 rfl ?_
      exact gs_iret hk_58 rfl (Or.inl rfl) rfl
theorem hk_63 : jP[63]? = some (jc_63, 2, [], []) := by rfl
theorem s_X8_shapeOf_63 {X : List Int32} {d : Nat} {m : jM} {r0 : Nat} {p0 : Int32} {v0 : Nat} {l1 : List Value} (h0 : j_fld m r0 8 0 = some (.ref (v0 + 1))) (h1 : j_arr m v0 50 = some l1) (h2 : ¬ (j_cond 2 p0 0 = true) → ¬ (j_cond 3 p0 27 = true) → ¬ (p0 < 0 ∨ l1.length ≤ p0.toNatClampNeg)) : j_Ev X (d) 63 [.ref (r0 + 1), .int p0] m (.inl (some (.int (if j_cond 2 p0 0 = true then 0 else (if j_cond 3 p0 27 = true then 0 else (j_iv (l1.getD p0.toNatClampNeg .null)))))), m) := by
  refine e_of hk_63 ?_
  refine gs_iload hk_63 rfl rfl rfl ?_
  by_cases c1 : j_cond 2 p0 0 = true
  · rw [if_pos c1]
    refine gs_ifT hk_63 rfl c1 ?_
    refine gs_push (x := 0) hk_63 rfl (by decide) rfl ?_
    exact gs_iret hk_63 rfl (Or.inl rfl) rfl
  · rw [if_neg c1]
    refine gs_ifF hk_63 rfl (j_bf c1) rfl ?_
    refine gs_iload hk_63 rfl rfl rfl ?_
    refine gs_push (x := 27) hk_63 rfl (by decide) rfl ?_
    by_cases c2 : j_cond 3 p0 27 = true
    · rw [if_pos c2]
      refine gs_icT hk_63 rfl c2 ?_
      refine gs_push (x := 0) hk_63 rfl (by decide) rfl ?_
      exact gs_iret hk_63 rfl (Or.inl rfl) rfl
    · rw [if_neg c2]
      refine gs_icF hk_63 rfl (j_bf c2) rfl ?_
      refine gs_aload hk_63 rfl rfl rfl ?_
      refine gs_get hk_63 rfl h0 rfl ?_
      refine gs_iload hk_63 rfl rfl rfl ?_
      refine gs_ald hk_63 rfl h1 (h2 (by assumption) (by assumption)) rfl rfl ?_
      refine gs_goto hk_63 rfl ?_
      exact gs_iret hk_63 rfl (Or.inl rfl) rfl
theorem hk_64 : jP[64]? = some (jc_64, 2, [], []) := by rfl
theorem s_X8_isNumber_64 {X : List Int32} {d : Nat} {m : jM} {r0 : Nat} {p0 : Int32} {v0 : Nat} {l1 : List Value} (h0 : j_fld m r0 8 0 = some (.ref (v0 + 1))) (h1 : j_arr m v0 50 = some l1) (h2 : ¬ (j_cond 2 p0 0 = true) → ¬ (j_cond 3 p0 27 = true) → ¬ (p0 < 0 ∨ l1.length ≤ p0.toNatClampNeg)) : j_Ev X (d) 64 [.ref (r0 + 1), .int p0] m (.inl (some (.int (if j_cond 2 p0 0 = true then 0 else (if j_cond 3 p0 27 = true then 0 else (if j_cond 1 (j_iv (l1.getD p0.toNatClampNeg .null)) 1 = true then 0 else 1))))), m) := by
  refine e_of hk_64 ?_
  refine gs_iload hk_64 rfl rfl rfl ?_
  by_cases c1 : j_cond 2 p0 0 = true
  · rw [if_pos c1]
    refine gs_ifT hk_64 rfl c1 ?_
    refine gs_push (x := 0) hk_64 rfl (by decide) rfl ?_
    exact gs_iret hk_64 rfl (Or.inr (by decide)) rfl
  · rw [if_neg c1]
    refine gs_ifF hk_64 rfl (j_bf c1) rfl ?_
    refine gs_iload hk_64 rfl rfl rfl ?_
    refine gs_push (x := 27) hk_64 rfl (by decide) rfl ?_
    by_cases c2 : j_cond 3 p0 27 = true
    · rw [if_pos c2]
      refine gs_icT hk_64 rfl c2 ?_
      refine gs_push (x := 0) hk_64 rfl (by decide) rfl ?_
      exact gs_iret hk_64 rfl (Or.inr (by decide)) rfl
    · rw [if_neg c2]
      refine gs_icF hk_64 rfl (j_bf c2) rfl ?_
      refine gs_aload hk_64 rfl rfl rfl ?_
      refine gs_get hk_64 rfl h0 rfl ?_
      refine gs_iload hk_64 rfl rfl rfl ?_
      refine gs_ald hk_64 rfl h1 (h2 (by assumption) (by assumption)) rfl rfl ?_
      refine gs_push (x := 1) hk_64 rfl (by decide) rfl ?_
      by_cases c3 : j_cond 1 (j_iv (l1.getD p0.toNatClampNeg .null)) 1 = true
      · rw [if_pos c3]
        refine gs_icT hk_64 rfl c3 ?_
        refine gs_push (x := 0) hk_64 rfl (by decide) rfl ?_
        exact gs_iret hk_64 rfl (Or.inr (by decide)) rfl
      · rw [if_neg c3]
        refine gs_icF hk_64 rfl (j_bf c3) rfl ?_
        refine gs_push (x := 1) hk_64 rfl (by decide) rfl ?_
        refine gs_goto hk_64 rfl ?_
        exact gs_iret hk_64 rfl (Or.inr (by decide)) rfl
theorem hk_65 : jP[65]? = some (jc_65, 2, [], []) := by rfl
theorem s_X8_itemCount_65 {X : List Int32} {d : Nat} {m : jM} {r0 : Nat} {p0 : Int32} {v0 : Nat} {l1 : List Value} (h0 : j_fld m r0 8 0 = some (.ref (v0 + 1))) (h1 : j_arr m v0 50 = some l1) (h2 : ¬ (j_cond 2 p0 0 = true) → ¬ (j_cond 3 p0 27 = true) → ¬ (p0 < 0 ∨ l1.length ≤ p0.toNatClampNeg)) (h3 : ¬ (j_cond 2 p0 0 = true) → ¬ (j_cond 3 p0 27 = true) → ¬ (j_cond 5 (j_iv (l1.getD p0.toNatClampNeg .null)) 2 = true) → ¬ (p0 < 0 ∨ l1.length ≤ p0.toNatClampNeg)) : j_Ev X (d) 65 [.ref (r0 + 1), .int p0] m (.inl (some (.int (if j_cond 2 p0 0 = true then 0 else (if j_cond 3 p0 27 = true then 0 else (if j_cond 5 (j_iv (l1.getD p0.toNatClampNeg .null)) 2 = true then 0 else ((j_iv (l1.getD p0.toNatClampNeg .null)) - 2)))))), m) := by
  refine e_of hk_65 ?_
  refine gs_iload hk_65 rfl rfl rfl ?_
  by_cases c1 : j_cond 2 p0 0 = true
  · rw [if_pos c1]
    refine gs_ifT hk_65 rfl c1 ?_
    refine gs_push (x := 0) hk_65 rfl (by decide) rfl ?_
    exact gs_iret hk_65 rfl (Or.inl rfl) rfl
  · rw [if_neg c1]
    refine gs_ifF hk_65 rfl (j_bf c1) rfl ?_
    refine gs_iload hk_65 rfl rfl rfl ?_
    refine gs_push (x := 27) hk_65 rfl (by decide) rfl ?_
    by_cases c2 : j_cond 3 p0 27 = true
    · rw [if_pos c2]
      refine gs_icT hk_65 rfl c2 ?_
      refine gs_push (x := 0) hk_65 rfl (by decide) rfl ?_
      exact gs_iret hk_65 rfl (Or.inl rfl) rfl
    · rw [if_neg c2]
      refine gs_icF hk_65 rfl (j_bf c2) rfl ?_
      refine gs_aload hk_65 rfl rfl rfl ?_
      refine gs_get hk_65 rfl h0 rfl ?_
      refine gs_iload hk_65 rfl rfl rfl ?_
      refine gs_ald hk_65 rfl h1 (h2 (by assumption) (by assumption)) rfl rfl ?_
      refine gs_push (x := 2) hk_65 rfl (by decide) rfl ?_
      by_cases c3 : j_cond 5 (j_iv (l1.getD p0.toNatClampNeg .null)) 2 = true
      · rw [if_pos c3]
        refine gs_icT hk_65 rfl c3 ?_
        refine gs_push (x := 0) hk_65 rfl (by decide) rfl ?_
        exact gs_iret hk_65 rfl (Or.inl rfl) rfl
      · rw [if_neg c3]
        refine gs_icF hk_65 rfl (j_bf c3) rfl ?_
        refine gs_aload hk_65 rfl rfl rfl ?_
        refine gs_get hk_65 rfl h0 rfl ?_
        refine gs_iload hk_65 rfl rfl rfl ?_
        refine gs_ald hk_65 rfl h1 (h3 (by assumption) (by assumption) (by assumption)) rfl rfl ?_
        refine gs_push (x := 2) hk_65 rfl (by decide) rfl ?_
        refine gs_bin (z := ((j_iv (l1.getD p0.toNatClampNeg .null)) - 2)) hk_65 rfl rfl rfl ?_
        refine gs_goto hk_65 rfl ?_
        exact gs_iret hk_65 rfl (Or.inl rfl) rfl
theorem hk_66 : jP[66]? = some (jc_66, 4, [], []) := by rfl
theorem s_X8_itemOf_66 {X : List Int32} {d : Nat} {m : jM} {r0 : Nat} {p0 : Int32} {p1 : Int32} {v0 : Nat} {l1 : List Value} (h0 : j_fld m r0 8 1 = some (.ref (v0 + 1))) (h1 : j_arr m v0 50 = some l1) (h2 : j_cond 2 p0 0 = true → ¬ (j_cond 0 0 0 = true) → ¬ (((p0 * 8) + p1) < 0 ∨ l1.length ≤ ((p0 * 8) + p1).toNatClampNeg)) (h3 : ¬ (j_cond 2 p0 0 = true) → j_cond 3 p0 27 = true → ¬ (j_cond 0 0 0 = true) → ¬ (((p0 * 8) + p1) < 0 ∨ l1.length ≤ ((p0 * 8) + p1).toNatClampNeg)) (h4 : ¬ (j_cond 2 p0 0 = true) → ¬ (j_cond 3 p0 27 = true) → j_cond 2 p1 0 = true → ¬ (j_cond 0 0 0 = true) → ¬ (((p0 * 8) + p1) < 0 ∨ l1.length ≤ ((p0 * 8) + p1).toNatClampNeg)) (h5 : ¬ (j_cond 2 p0 0 = true) → ¬ (j_cond 3 p0 27 = true) → ¬ (j_cond 2 p1 0 = true) → j_cond 3 p1 8 = true → ¬ (j_cond 0 0 0 = true) → ¬ (((p0 * 8) + p1) < 0 ∨ l1.length ≤ ((p0 * 8) + p1).toNatClampNeg)) (h6 : ¬ (j_cond 2 p0 0 = true) → ¬ (j_cond 3 p0 27 = true) → ¬ (j_cond 2 p1 0 = true) → ¬ (j_cond 3 p1 8 = true) → ¬ (j_cond 0 1 0 = true) → ¬ (((p0 * 8) + p1) < 0 ∨ l1.length ≤ ((p0 * 8) + p1).toNatClampNeg)) : j_Ev X (d) 66 [.ref (r0 + 1), .int p0, .int p1] m (.inl (some (.int (if j_cond 2 p0 0 = true then (if j_cond 0 0 0 = true then 0 else (j_iv (l1.getD ((p0 * 8) + p1).toNatClampNeg .null))) else (if j_cond 3 p0 27 = true then (if j_cond 0 0 0 = true then 0 else (j_iv (l1.getD ((p0 * 8) + p1).toNatClampNeg .null))) else (if j_cond 2 p1 0 = true then (if j_cond 0 0 0 = true then 0 else (j_iv (l1.getD ((p0 * 8) + p1).toNatClampNeg .null))) else (if j_cond 3 p1 8 = true then (if j_cond 0 0 0 = true then 0 else (j_iv (l1.getD ((p0 * 8) + p1).toNatClampNeg .null))) else (if j_cond 0 1 0 = true then 0 else (j_iv (l1.getD ((p0 * 8) + p1).toNatClampNeg .null))))))))), m) := by
  refine e_of hk_66 ?_
  refine gs_iload hk_66 rfl rfl rfl ?_
  by_cases c1 : j_cond 2 p0 0 = true
  · rw [if_pos c1]
    refine gs_ifT hk_66 rfl c1 ?_
    refine gs_push (x := 0) hk_66 rfl (by decide) rfl ?_
    refine gs_istore hk_66 rfl (Nat.le_of_ble_eq_true rfl) rfl rfl ?_
    refine gs_iload hk_66 rfl rfl rfl ?_
    by_cases c2 : j_cond 0 0 0 = true
    · rw [if_pos c2]
      refine gs_ifT hk_66 rfl c2 ?_
      refine gs_push (x := 0) hk_66 rfl (by decide) rfl ?_
      exact gs_iret hk_66 rfl (Or.inl rfl) rfl
    · rw [if_neg c2]
      refine gs_ifF hk_66 rfl (j_bf c2) rfl ?_
      refine gs_aload hk_66 rfl rfl rfl ?_
      refine gs_get hk_66 rfl h0 rfl ?_
      refine gs_iload hk_66 rfl rfl rfl ?_
      refine gs_push (x := 8) hk_66 rfl (by decide) rfl ?_
      refine gs_bin (z := (p0 * 8)) hk_66 rfl rfl rfl ?_
      refine gs_iload hk_66 rfl rfl rfl ?_
      refine gs_bin (z := ((p0 * 8) + p1)) hk_66 rfl rfl rfl ?_
      refine gs_ald hk_66 rfl h1 (h2 (by assumption) (by assumption)) rfl rfl ?_
      refine gs_goto hk_66 rfl ?_
      exact gs_iret hk_66 rfl (Or.inl rfl) rfl
  · rw [if_neg c1]
    refine gs_ifF hk_66 rfl (j_bf c1) rfl ?_
    refine gs_iload hk_66 rfl rfl rfl ?_
    refine gs_push (x := 27) hk_66 rfl (by decide) rfl ?_
    by_cases c3 : j_cond 3 p0 27 = true
    · rw [if_pos c3]
      refine gs_icT hk_66 rfl c3 ?_
      refine gs_push (x := 0) hk_66 rfl (by decide) rfl ?_
      refine gs_istore hk_66 rfl (Nat.le_of_ble_eq_true rfl) rfl rfl ?_
      refine gs_iload hk_66 rfl rfl rfl ?_
      by_cases c4 : j_cond 0 0 0 = true
      · rw [if_pos c4]
        refine gs_ifT hk_66 rfl c4 ?_
        refine gs_push (x := 0) hk_66 rfl (by decide) rfl ?_
        exact gs_iret hk_66 rfl (Or.inl rfl) rfl
      · rw [if_neg c4]
        refine gs_ifF hk_66 rfl (j_bf c4) rfl ?_
        refine gs_aload hk_66 rfl rfl rfl ?_
        refine gs_get hk_66 rfl h0 rfl ?_
        refine gs_iload hk_66 rfl rfl rfl ?_
        refine gs_push (x := 8) hk_66 rfl (by decide) rfl ?_
        refine gs_bin (z := (p0 * 8)) hk_66 rfl rfl rfl ?_
        refine gs_iload hk_66 rfl rfl rfl ?_
        refine gs_bin (z := ((p0 * 8) + p1)) hk_66 rfl rfl rfl ?_
        refine gs_ald hk_66 rfl h1 (h3 (by assumption) (by assumption) (by assumption)) rfl rfl ?_
        refine gs_goto hk_66 rfl ?_
        exact gs_iret hk_66 rfl (Or.inl rfl) rfl
    · rw [if_neg c3]
      refine gs_icF hk_66 rfl (j_bf c3) rfl ?_
      refine gs_iload hk_66 rfl rfl rfl ?_
      by_cases c5 : j_cond 2 p1 0 = true
      · rw [if_pos c5]
        refine gs_ifT hk_66 rfl c5 ?_
        refine gs_push (x := 0) hk_66 rfl (by decide) rfl ?_
        refine gs_istore hk_66 rfl (Nat.le_of_ble_eq_true rfl) rfl rfl ?_
        refine gs_iload hk_66 rfl rfl rfl ?_
        by_cases c6 : j_cond 0 0 0 = true
        · rw [if_pos c6]
          refine gs_ifT hk_66 rfl c6 ?_
          refine gs_push (x := 0) hk_66 rfl (by decide) rfl ?_
          exact gs_iret hk_66 rfl (Or.inl rfl) rfl
        · rw [if_neg c6]
          refine gs_ifF hk_66 rfl (j_bf c6) rfl ?_
          refine gs_aload hk_66 rfl rfl rfl ?_
          refine gs_get hk_66 rfl h0 rfl ?_
          refine gs_iload hk_66 rfl rfl rfl ?_
          refine gs_push (x := 8) hk_66 rfl (by decide) rfl ?_
          refine gs_bin (z := (p0 * 8)) hk_66 rfl rfl rfl ?_
          refine gs_iload hk_66 rfl rfl rfl ?_
          refine gs_bin (z := ((p0 * 8) + p1)) hk_66 rfl rfl rfl ?_
          refine gs_ald hk_66 rfl h1 (h4 (by assumption) (by assumption) (by assumption) (by assumption)) rfl rfl ?_
          refine gs_goto hk_66 rfl ?_
          exact gs_iret hk_66 rfl (Or.inl rfl) rfl
      · rw [if_neg c5]
        refine gs_ifF hk_66 rfl (j_bf c5) rfl ?_
        refine gs_iload hk_66 rfl rfl rfl ?_
        refine gs_push (x := 8) hk_66 rfl (by decide) rfl ?_
        by_cases c7 : j_cond 3 p1 8 = true
        · rw [if_pos c7]
          refine gs_icT hk_66 rfl c7 ?_
          refine gs_push (x := 0) hk_66 rfl (by decide) rfl ?_
          refine gs_istore hk_66 rfl (Nat.le_of_ble_eq_true rfl) rfl rfl ?_
          refine gs_iload hk_66 rfl rfl rfl ?_
          by_cases c8 : j_cond 0 0 0 = true
          · rw [if_pos c8]
            refine gs_ifT hk_66 rfl c8 ?_
            refine gs_push (x := 0) hk_66 rfl (by decide) rfl ?_
            exact gs_iret hk_66 rfl (Or.inl rfl) rfl
          · rw [if_neg c8]
            refine gs_ifF hk_66 rfl (j_bf c8) rfl ?_
            refine gs_aload hk_66 rfl rfl rfl ?_
            refine gs_get hk_66 rfl h0 rfl ?_
            refine gs_iload hk_66 rfl rfl rfl ?_
            refine gs_push (x := 8) hk_66 rfl (by decide) rfl ?_
            refine gs_bin (z := (p0 * 8)) hk_66 rfl rfl rfl ?_
            refine gs_iload hk_66 rfl rfl rfl ?_
            refine gs_bin (z := ((p0 * 8) + p1)) hk_66 rfl rfl rfl ?_
            refine gs_ald hk_66 rfl h1 (h5 (by assumption) (by assumption) (by assumption) (by assumption) (by assumption)) rfl rfl ?_
            refine gs_goto hk_66 rfl ?_
            exact gs_iret hk_66 rfl (Or.inl rfl) rfl
        · rw [if_neg c7]
          refine gs_icF hk_66 rfl (j_bf c7) rfl ?_
          refine gs_push (x := 1) hk_66 rfl (by decide) rfl ?_
          refine gs_goto hk_66 rfl ?_
          refine gs_istore hk_66 rfl (Nat.le_of_ble_eq_true rfl) rfl rfl ?_
          refine gs_iload hk_66 rfl rfl rfl ?_
          by_cases c9 : j_cond 0 1 0 = true
          · rw [if_pos c9]
            refine gs_ifT hk_66 rfl c9 ?_
            refine gs_push (x := 0) hk_66 rfl (by decide) rfl ?_
            exact gs_iret hk_66 rfl (Or.inl rfl) rfl
          · rw [if_neg c9]
            refine gs_ifF hk_66 rfl (j_bf c9) rfl ?_
            refine gs_aload hk_66 rfl rfl rfl ?_
            refine gs_get hk_66 rfl h0 rfl ?_
            refine gs_iload hk_66 rfl rfl rfl ?_
            refine gs_push (x := 8) hk_66 rfl (by decide) rfl ?_
            refine gs_bin (z := (p0 * 8)) hk_66 rfl rfl rfl ?_
            refine gs_iload hk_66 rfl rfl rfl ?_
            refine gs_bin (z := ((p0 * 8) + p1)) hk_66 rfl rfl rfl ?_
            refine gs_ald hk_66 rfl h1 (h6 (by assumption) (by assumption) (by assumption) (by assumption) (by assumption)) rfl rfl ?_
            refine gs_goto hk_66 rfl ?_
            exact gs_iret hk_66 rfl (Or.inl rfl) rfl
theorem hk_75 : jP[75]? = some (jc_75, 3, [], []) := by rfl
theorem s_X8_answers_75 {X : List Int32} {d : Nat} {m : jM} {r0 : Nat} {p0 : Int32} {p1 : Int32} {v0 : Nat} {l1 : List Value} (h0 : j_fld m r0 8 0 = some (.ref (v0 + 1))) (h1 : j_arr m v0 50 = some l1) (h2 : j_cond 1 p1 (-1) = true → ¬ (j_cond 2 p1 0 = true) → ¬ (j_cond 2 p0 0 = true) → ¬ (j_cond 3 p0 27 = true) → ¬ (p0 < 0 ∨ l1.length ≤ p0.toNatClampNeg)) (h3 : j_cond 1 p1 (-1) = true → ¬ (j_cond 2 p1 0 = true) → ¬ (j_cond 2 p0 0 = true) → ¬ (j_cond 3 p0 27 = true) → ¬ (j_cond 5 (j_iv (l1.getD p0.toNatClampNeg .null)) 2 = true) → ¬ (p0 < 0 ∨ l1.length ≤ p0.toNatClampNeg)) (h4 : ¬ (j_cond 1 p1 (-1) = true) → ¬ (j_cond 2 p0 0 = true) → ¬ (j_cond 3 p0 27 = true) → ¬ (p0 < 0 ∨ l1.length ≤ p0.toNatClampNeg)) : j_Ev X (d + 1) 75 [.ref (r0 + 1), .int p0, .int p1] m (.inl (some (.int (if j_cond 1 p1 (-1) = true then (if j_cond 2 p1 0 = true then 0 else (if j_cond 3 p1 (if j_cond 2 p0 0 = true then 0 else (if j_cond 3 p0 27 = true then 0 else (if j_cond 5 (j_iv (l1.getD p0.toNatClampNeg .null)) 2 = true then 0 else ((j_iv (l1.getD p0.toNatClampNeg .null)) - 2)))) = true then 0 else 1)) else (if j_cond 0 (if j_cond 2 p0 0 = true then 0 else (if j_cond 3 p0 27 = true then 0 else (j_iv (l1.getD p0.toNatClampNeg .null)))) 0 = true then 0 else 1)))), m) := by
  refine e_of hk_75 ?_
  refine gs_iload hk_75 rfl rfl rfl ?_
  refine gs_push (x := (-1)) hk_75 rfl (by decide) rfl ?_
  by_cases c1 : j_cond 1 p1 (-1) = true
  · rw [if_pos c1]
    refine gs_icT hk_75 rfl c1 ?_
    refine gs_iload hk_75 rfl rfl rfl ?_
    by_cases c2 : j_cond 2 p1 0 = true
    · rw [if_pos c2]
      refine gs_ifT hk_75 rfl c2 ?_
      refine gs_push (x := 0) hk_75 rfl (by decide) rfl ?_
      exact gs_iret hk_75 rfl (Or.inr (by decide)) rfl
    · rw [if_neg c2]
      refine gs_ifF hk_75 rfl (j_bf c2) rfl ?_
      refine gs_iload hk_75 rfl rfl rfl ?_
      refine gs_aload hk_75 rfl rfl rfl ?_
      refine gs_iload hk_75 rfl rfl rfl ?_
      refine gs_call (as := [.ref (r0 + 1), .int p0]) (rest := [.int p1]) hk_75 rfl (Or.inr (Or.inr (Or.inr ⟨Or.inl rfl, j_recv_of h0⟩))) rfl rfl rfl (Nat.not_lt.mpr (Nat.le_of_ble_eq_true rfl)) (s_X8_itemCount_65 h0 h1 (h2 (by assumption) (by assumption)) (h3 (by assumption) (by assumption))) rfl ?_
      by_cases c3 : j_cond 3 p1 (if j_cond 2 p0 0 = true then 0 else (if j_cond 3 p0 27 = true then 0 else (if j_cond 5 (j_iv (l1.getD p0.toNatClampNeg .null)) 2 = true then 0 else ((j_iv (l1.getD p0.toNatClampNeg .null)) - 2)))) = true
      · rw [if_pos c3]
        refine gs_icT hk_75 rfl c3 ?_
        refine gs_push (x := 0) hk_75 rfl (by decide) rfl ?_
        exact gs_iret hk_75 rfl (Or.inr (by decide)) rfl
      · rw [if_neg c3]
        refine gs_icF hk_75 rfl (j_bf c3) rfl ?_
        refine gs_push (x := 1) hk_75 rfl (by decide) rfl ?_
        refine gs_goto hk_75 rfl ?_
        exact gs_iret hk_75 rfl (Or.inr (by decide)) rfl
  · rw [if_neg c1]
    refine gs_icF hk_75 rfl (j_bf c1) rfl ?_
    refine gs_aload hk_75 rfl rfl rfl ?_
    refine gs_iload hk_75 rfl rfl rfl ?_
    refine gs_call (as := [.ref (r0 + 1), .int p0]) (rest := []) hk_75 rfl (Or.inr (Or.inr (Or.inr ⟨Or.inl rfl, j_recv_of h0⟩))) rfl rfl rfl (Nat.not_lt.mpr (Nat.le_of_ble_eq_true rfl)) (s_X8_shapeOf_63 h0 h1 (h4 (by assumption))) rfl ?_
    by_cases c4 : j_cond 0 (if j_cond 2 p0 0 = true then 0 else (if j_cond 3 p0 27 = true then 0 else (j_iv (l1.getD p0.toNatClampNeg .null)))) 0 = true
    · rw [if_pos c4]
      refine gs_ifT hk_75 rfl c4 ?_
      refine gs_push (x := 0) hk_75 rfl (by decide) rfl ?_
      exact gs_iret hk_75 rfl (Or.inr (by decide)) rfl
    · rw [if_neg c4]
      refine gs_ifF hk_75 rfl (j_bf c4) rfl ?_
      refine gs_push (x := 1) hk_75 rfl (by decide) rfl ?_
      refine gs_goto hk_75 rfl ?_
      exact gs_iret hk_75 rfl (Or.inr (by decide)) rfl
theorem hk_76 : jP[76]? = some (jc_76, 3, [], []) := by rfl
theorem s_X8_answer_76 {X : List Int32} {d : Nat} {m : jM} {r0 : Nat} {p0 : Int32} {p1 : Int32} {v0 : Nat} {l1 : List Value} {v7 : Nat} {l8 : List Value} (h0 : j_fld m r0 8 1 = some (.ref (v0 + 1))) (h1 : j_arr m v0 50 = some l1) (h2 : j_cond 1 p1 (-1) = true → j_cond 2 p0 0 = true → ¬ (j_cond 0 0 0 = true) → ¬ (((p0 * 8) + p1) < 0 ∨ l1.length ≤ ((p0 * 8) + p1).toNatClampNeg)) (h3 : j_cond 1 p1 (-1) = true → ¬ (j_cond 2 p0 0 = true) → j_cond 3 p0 27 = true → ¬ (j_cond 0 0 0 = true) → ¬ (((p0 * 8) + p1) < 0 ∨ l1.length ≤ ((p0 * 8) + p1).toNatClampNeg)) (h4 : j_cond 1 p1 (-1) = true → ¬ (j_cond 2 p0 0 = true) → ¬ (j_cond 3 p0 27 = true) → j_cond 2 p1 0 = true → ¬ (j_cond 0 0 0 = true) → ¬ (((p0 * 8) + p1) < 0 ∨ l1.length ≤ ((p0 * 8) + p1).toNatClampNeg)) (h5 : j_cond 1 p1 (-1) = true → ¬ (j_cond 2 p0 0 = true) → ¬ (j_cond 3 p0 27 = true) → ¬ (j_cond 2 p1 0 = true) → j_cond 3 p1 8 = true → ¬ (j_cond 0 0 0 = true) → ¬ (((p0 * 8) + p1) < 0 ∨ l1.length ≤ ((p0 * 8) + p1).toNatClampNeg)) (h6 : j_cond 1 p1 (-1) = true → ¬ (j_cond 2 p0 0 = true) → ¬ (j_cond 3 p0 27 = true) → ¬ (j_cond 2 p1 0 = true) → ¬ (j_cond 3 p1 8 = true) → ¬ (j_cond 0 1 0 = true) → ¬ (((p0 * 8) + p1) < 0 ∨ l1.length ≤ ((p0 * 8) + p1).toNatClampNeg)) (h7 : j_fld m r0 8 0 = some (.ref (v7 + 1))) (h8 : j_arr m v7 50 = some l8) (h9 : ¬ (j_cond 1 p1 (-1) = true) → ¬ (j_cond 2 p0 0 = true) → ¬ (j_cond 3 p0 27 = true) → ¬ (p0 < 0 ∨ l8.length ≤ p0.toNatClampNeg)) (h10 : ¬ (j_cond 1 p1 (-1) = true) → j_cond 1 (if j_cond 2 p0 0 = true then 0 else (if j_cond 3 p0 27 = true then 0 else (if j_cond 1 (j_iv (l8.getD p0.toNatClampNeg .null)) 1 = true then 0 else 1))) 0 = true → j_cond 2 p0 0 = true → ¬ (j_cond 0 0 0 = true) → ¬ (((p0 * 8) + 0) < 0 ∨ l1.length ≤ ((p0 * 8) + 0).toNatClampNeg)) (h11 : ¬ (j_cond 1 p1 (-1) = true) → j_cond 1 (if j_cond 2 p0 0 = true then 0 else (if j_cond 3 p0 27 = true then 0 else (if j_cond 1 (j_iv (l8.getD p0.toNatClampNeg .null)) 1 = true then 0 else 1))) 0 = true → ¬ (j_cond 2 p0 0 = true) → j_cond 3 p0 27 = true → ¬ (j_cond 0 0 0 = true) → ¬ (((p0 * 8) + 0) < 0 ∨ l1.length ≤ ((p0 * 8) + 0).toNatClampNeg)) (h12 : ¬ (j_cond 1 p1 (-1) = true) → j_cond 1 (if j_cond 2 p0 0 = true then 0 else (if j_cond 3 p0 27 = true then 0 else (if j_cond 1 (j_iv (l8.getD p0.toNatClampNeg .null)) 1 = true then 0 else 1))) 0 = true → ¬ (j_cond 2 p0 0 = true) → ¬ (j_cond 3 p0 27 = true) → j_cond 2 0 0 = true → ¬ (j_cond 0 0 0 = true) → ¬ (((p0 * 8) + 0) < 0 ∨ l1.length ≤ ((p0 * 8) + 0).toNatClampNeg)) (h13 : ¬ (j_cond 1 p1 (-1) = true) → j_cond 1 (if j_cond 2 p0 0 = true then 0 else (if j_cond 3 p0 27 = true then 0 else (if j_cond 1 (j_iv (l8.getD p0.toNatClampNeg .null)) 1 = true then 0 else 1))) 0 = true → ¬ (j_cond 2 p0 0 = true) → ¬ (j_cond 3 p0 27 = true) → ¬ (j_cond 2 0 0 = true) → j_cond 3 0 8 = true → ¬ (j_cond 0 0 0 = true) → ¬ (((p0 * 8) + 0) < 0 ∨ l1.length ≤ ((p0 * 8) + 0).toNatClampNeg)) (h14 : ¬ (j_cond 1 p1 (-1) = true) → j_cond 1 (if j_cond 2 p0 0 = true then 0 else (if j_cond 3 p0 27 = true then 0 else (if j_cond 1 (j_iv (l8.getD p0.toNatClampNeg .null)) 1 = true then 0 else 1))) 0 = true → ¬ (j_cond 2 p0 0 = true) → ¬ (j_cond 3 p0 27 = true) → ¬ (j_cond 2 0 0 = true) → ¬ (j_cond 3 0 8 = true) → ¬ (j_cond 0 1 0 = true) → ¬ (((p0 * 8) + 0) < 0 ∨ l1.length ≤ ((p0 * 8) + 0).toNatClampNeg)) (h15 : ¬ (j_cond 1 p1 (-1) = true) → ¬ (j_cond 1 (if j_cond 2 p0 0 = true then 0 else (if j_cond 3 p0 27 = true then 0 else (if j_cond 1 (j_iv (l8.getD p0.toNatClampNeg .null)) 1 = true then 0 else 1))) 0 = true) → ¬ (j_cond 2 p0 0 = true) → ¬ (j_cond 3 p0 27 = true) → ¬ (p0 < 0 ∨ l8.length ≤ p0.toNatClampNeg)) (h16 : ¬ (j_cond 1 p1 (-1) = true) → ¬ (j_cond 1 (if j_cond 2 p0 0 = true then 0 else (if j_cond 3 p0 27 = true then 0 else (if j_cond 1 (j_iv (l8.getD p0.toNatClampNeg .null)) 1 = true then 0 else 1))) 0 = true) → ¬ (j_cond 2 p0 0 = true) → ¬ (j_cond 3 p0 27 = true) → ¬ (j_cond 5 (j_iv (l8.getD p0.toNatClampNeg .null)) 2 = true) → ¬ (p0 < 0 ∨ l8.length ≤ p0.toNatClampNeg)) : j_Ev X (d + 1) 76 [.ref (r0 + 1), .int p0, .int p1] m (.inl (some (.int (if j_cond 1 p1 (-1) = true then (if j_cond 2 p0 0 = true then (if j_cond 0 0 0 = true then 0 else (j_iv (l1.getD ((p0 * 8) + p1).toNatClampNeg .null))) else (if j_cond 3 p0 27 = true then (if j_cond 0 0 0 = true then 0 else (j_iv (l1.getD ((p0 * 8) + p1).toNatClampNeg .null))) else (if j_cond 2 p1 0 = true then (if j_cond 0 0 0 = true then 0 else (j_iv (l1.getD ((p0 * 8) + p1).toNatClampNeg .null))) else (if j_cond 3 p1 8 = true then (if j_cond 0 0 0 = true then 0 else (j_iv (l1.getD ((p0 * 8) + p1).toNatClampNeg .null))) else (if j_cond 0 1 0 = true then 0 else (j_iv (l1.getD ((p0 * 8) + p1).toNatClampNeg .null))))))) else (if j_cond 1 (if j_cond 2 p0 0 = true then 0 else (if j_cond 3 p0 27 = true then 0 else (if j_cond 1 (j_iv (l8.getD p0.toNatClampNeg .null)) 1 = true then 0 else 1))) 0 = true then (if j_cond 2 p0 0 = true then (if j_cond 0 0 0 = true then 0 else (j_iv (l1.getD ((p0 * 8) + 0).toNatClampNeg .null))) else (if j_cond 3 p0 27 = true then (if j_cond 0 0 0 = true then 0 else (j_iv (l1.getD ((p0 * 8) + 0).toNatClampNeg .null))) else (if j_cond 2 0 0 = true then (if j_cond 0 0 0 = true then 0 else (j_iv (l1.getD ((p0 * 8) + 0).toNatClampNeg .null))) else (if j_cond 3 0 8 = true then (if j_cond 0 0 0 = true then 0 else (j_iv (l1.getD ((p0 * 8) + 0).toNatClampNeg .null))) else (if j_cond 0 1 0 = true then 0 else (j_iv (l1.getD ((p0 * 8) + 0).toNatClampNeg .null))))))) else (if j_cond 2 p0 0 = true then 0 else (if j_cond 3 p0 27 = true then 0 else (if j_cond 5 (j_iv (l8.getD p0.toNatClampNeg .null)) 2 = true then 0 else ((j_iv (l8.getD p0.toNatClampNeg .null)) - 2)))))))), m) := by
  refine e_of hk_76 ?_
  refine gs_iload hk_76 rfl rfl rfl ?_
  refine gs_push (x := (-1)) hk_76 rfl (by decide) rfl ?_
  by_cases c1 : j_cond 1 p1 (-1) = true
  · rw [if_pos c1]
    refine gs_icT hk_76 rfl c1 ?_
    refine gs_aload hk_76 rfl rfl rfl ?_
    refine gs_iload hk_76 rfl rfl rfl ?_
    refine gs_iload hk_76 rfl rfl rfl ?_
    refine gs_push (x := (-1)) hk_76 rfl (by decide) rfl ?_
    refine gs_icT hk_76 rfl (by assumption) ?_
    refine gs_iload hk_76 rfl rfl rfl ?_
    refine gs_call (as := [.ref (r0 + 1), .int p0, .int p1]) (rest := []) hk_76 rfl (Or.inr (Or.inr (Or.inr ⟨Or.inl rfl, j_recv_of h0⟩))) rfl rfl rfl (Nat.not_lt.mpr (Nat.le_of_ble_eq_true rfl)) (s_X8_itemOf_66 h0 h1 (h2 (by assumption)) (h3 (by assumption)) (h4 (by assumption)) (h5 (by assumption)) (h6 (by assumption))) rfl ?_
    exact gs_iret hk_76 rfl (Or.inl rfl) rfl
  · rw [if_neg c1]
    refine gs_icF hk_76 rfl (j_bf c1) rfl ?_
    refine gs_aload hk_76 rfl rfl rfl ?_
    refine gs_iload hk_76 rfl rfl rfl ?_
    refine gs_call (as := [.ref (r0 + 1), .int p0]) (rest := []) hk_76 rfl (Or.inr (Or.inr (Or.inr ⟨Or.inl rfl, j_recv_of h0⟩))) rfl rfl rfl (Nat.not_lt.mpr (Nat.le_of_ble_eq_true rfl)) (s_X8_isNumber_64 h7 h8 (h9 (by assumption))) rfl ?_
    by_cases c2 : j_cond 1 (if j_cond 2 p0 0 = true then 0 else (if j_cond 3 p0 27 = true then 0 else (if j_cond 1 (j_iv (l8.getD p0.toNatClampNeg .null)) 1 = true then 0 else 1))) 0 = true
    · rw [if_pos c2]
      refine gs_ifT hk_76 rfl c2 ?_
      refine gs_aload hk_76 rfl rfl rfl ?_
      refine gs_iload hk_76 rfl rfl rfl ?_
      refine gs_iload hk_76 rfl rfl rfl ?_
      refine gs_push (x := (-1)) hk_76 rfl (by decide) rfl ?_
      refine gs_icF hk_76 rfl (j_bf (by assumption)) rfl ?_
      refine gs_push (x := 0) hk_76 rfl (by decide) rfl ?_
      refine gs_goto hk_76 rfl ?_
      refine gs_call (as := [.ref (r0 + 1), .int p0, .int 0]) (rest := []) hk_76 rfl (Or.inr (Or.inr (Or.inr ⟨Or.inl rfl, j_recv_of h0⟩))) rfl rfl rfl (Nat.not_lt.mpr (Nat.le_of_ble_eq_true rfl)) (s_X8_itemOf_66 h0 h1 (h10 (by assumption) (by assumption)) (h11 (by assumption) (by assumption)) (h12 (by assumption) (by assumption)) (h13 (by assumption) (by assumption)) (h14 (by assumption) (by assumption))) rfl ?_
      exact gs_iret hk_76 rfl (Or.inl rfl) rfl
    · rw [if_neg c2]
      refine gs_ifF hk_76 rfl (j_bf c2) rfl ?_
      refine gs_aload hk_76 rfl rfl rfl ?_
      refine gs_iload hk_76 rfl rfl rfl ?_
      refine gs_call (as := [.ref (r0 + 1), .int p0]) (rest := []) hk_76 rfl (Or.inr (Or.inr (Or.inr ⟨Or.inl rfl, j_recv_of h0⟩))) rfl rfl rfl (Nat.not_lt.mpr (Nat.le_of_ble_eq_true rfl)) (s_X8_itemCount_65 h7 h8 (h15 (by assumption) (by assumption)) (h16 (by assumption) (by assumption))) rfl ?_
      exact gs_iret hk_76 rfl (Or.inl rfl) rfl
theorem hk_88 : jP[88]? = some (jc_88, 2, [], []) := by rfl
theorem s_X10_exists_88 {X : List Int32} {d : Nat} {m : jM} {r0 : Nat} {p0 : Int32} {v0 : Int32} (h0 : j_fld m r0 10 7 = some (.int v0)) : j_Ev X (d) 88 [.ref (r0 + 1), .int p0] m (.inl (some (.int (if j_cond 2 p0 0 = true then 0 else (if j_cond 3 p0 v0 = true then 0 else 1)))), m) := by
  refine e_of hk_88 ?_
  refine gs_iload hk_88 rfl rfl rfl ?_
  by_cases c1 : j_cond 2 p0 0 = true
  · rw [if_pos c1]
    refine gs_ifT hk_88 rfl c1 ?_
    refine gs_push (x := 0) hk_88 rfl (by decide) rfl ?_
    exact gs_iret hk_88 rfl (Or.inr (by decide)) rfl
  · rw [if_neg c1]
    refine gs_ifF hk_88 rfl (j_bf c1) rfl ?_
    refine gs_iload hk_88 rfl rfl rfl ?_
    refine gs_aload hk_88 rfl rfl rfl ?_
    refine gs_get hk_88 rfl h0 rfl ?_
    by_cases c2 : j_cond 3 p0 v0 = true
    · rw [if_pos c2]
      refine gs_icT hk_88 rfl c2 ?_
      refine gs_push (x := 0) hk_88 rfl (by decide) rfl ?_
      exact gs_iret hk_88 rfl (Or.inr (by decide)) rfl
    · rw [if_neg c2]
      refine gs_icF hk_88 rfl (j_bf c2) rfl ?_
      refine gs_push (x := 1) hk_88 rfl (by decide) rfl ?_
      refine gs_goto hk_88 rfl ?_
      exact gs_iret hk_88 rfl (Or.inr (by decide)) rfl
theorem hk_91 : jP[91]? = some (jc_91, 3, [], []) := by rfl
theorem s_X10_held_91 {X : List Int32} {d : Nat} {m : jM} {r0 : Nat} {p0 : Int32} {p1 : Int32} {v0 : Int32} {v1 : Nat} {l2 : List Value} {v4 : Nat} {l5 : List Value} (h0 : j_fld m r0 10 7 = some (.int v0)) (h1 : j_fld m r0 10 1 = some (.ref (v1 + 1))) (h2 : j_arr m v1 50 = some l2) (h3 : ¬ (j_cond 0 (if j_cond 2 p0 0 = true then 0 else (if j_cond 3 p0 v0 = true then 0 else 1)) 0 = true) → ¬ (p0 < 0 ∨ l2.length ≤ p0.toNatClampNeg)) (h4 : j_fld m r0 10 2 = some (.ref (v4 + 1))) (h5 : j_arr m v4 50 = some l5) (h6 : ¬ (j_cond 0 (if j_cond 2 p0 0 = true then 0 else (if j_cond 3 p0 v0 = true then 0 else 1)) 0 = true) → ¬ (p0 < 0 ∨ l5.length ≤ p0.toNatClampNeg)) : j_Ev X (d + 1) 91 [.ref (r0 + 1), .int p0, .int p1] m (.inl (some (.int (if j_cond 0 (if j_cond 2 p0 0 = true then 0 else (if j_cond 3 p0 v0 = true then 0 else 1)) 0 = true then 0 else (if (j_iv (l2.getD p0.toNatClampNeg .null)) < (if p1 < (j_iv (l5.getD p0.toNatClampNeg .null)) then p1 else (j_iv (l5.getD p0.toNatClampNeg .null))) then (if p1 < (j_iv (l5.getD p0.toNatClampNeg .null)) then p1 else (j_iv (l5.getD p0.toNatClampNeg .null))) else (j_iv (l2.getD p0.toNatClampNeg .null)))))), m) := by
  refine e_of hk_91 ?_
  refine gs_aload hk_91 rfl rfl rfl ?_
  refine gs_iload hk_91 rfl rfl rfl ?_
  refine gs_call (as := [.ref (r0 + 1), .int p0]) (rest := []) hk_91 rfl (Or.inr (Or.inr (Or.inr ⟨Or.inl rfl, j_recv_of h0⟩))) rfl rfl rfl (Nat.not_lt.mpr (Nat.le_of_ble_eq_true rfl)) (s_X10_exists_88 h0) rfl ?_
  by_cases c1 : j_cond 0 (if j_cond 2 p0 0 = true then 0 else (if j_cond 3 p0 v0 = true then 0 else 1)) 0 = true
  · rw [if_pos c1]
    refine gs_ifT hk_91 rfl c1 ?_
    refine gs_push (x := 0) hk_91 rfl (by decide) rfl ?_
    exact gs_iret hk_91 rfl (Or.inl rfl) rfl
  · rw [if_neg c1]
    refine gs_ifF hk_91 rfl (j_bf c1) rfl ?_
    refine gs_aload hk_91 rfl rfl rfl ?_
    refine gs_get hk_91 rfl h1 rfl ?_
    refine gs_iload hk_91 rfl rfl rfl ?_
    refine gs_ald hk_91 rfl h2 (h3 (by assumption)) rfl rfl ?_
    refine gs_aload hk_91 rfl rfl rfl ?_
    refine gs_get hk_91 rfl h4 rfl ?_
    refine gs_iload hk_91 rfl rfl rfl ?_
    refine gs_ald hk_91 rfl h5 (h6 (by assumption)) rfl rfl ?_
    refine gs_iload hk_91 rfl rfl rfl ?_
    refine gs_min hk_91 rfl (Nat.not_lt.mpr (Nat.le_of_ble_eq_true rfl)) rfl ?_
    refine gs_max hk_91 rfl (Nat.not_lt.mpr (Nat.le_of_ble_eq_true rfl)) rfl ?_
    refine gs_goto hk_91 rfl ?_
    exact gs_iret hk_91 rfl (Or.inl rfl) rfl
theorem hk_93 : jP[93]? = some (jc_93, 2, [], []) := by rfl
theorem s_X10_shownBy_93 {X : List Int32} {d : Nat} {m : jM} {r0 : Nat} {p0 : Int32} {v0 : Int32} {v1 : Nat} {l2 : List Value} (h0 : j_fld m r0 10 7 = some (.int v0)) (h1 : j_fld m r0 10 3 = some (.ref (v1 + 1))) (h2 : j_arr m v1 50 = some l2) (h3 : ¬ (j_cond 0 (if j_cond 2 p0 0 = true then 0 else (if j_cond 3 p0 v0 = true then 0 else 1)) 0 = true) → ¬ (p0 < 0 ∨ l2.length ≤ p0.toNatClampNeg)) : j_Ev X (d + 1) 93 [.ref (r0 + 1), .int p0] m (.inl (some (.int (if j_cond 0 (if j_cond 2 p0 0 = true then 0 else (if j_cond 3 p0 v0 = true then 0 else 1)) 0 = true then 0 else (j_iv (l2.getD p0.toNatClampNeg .null))))), m) := by
  refine e_of hk_93 ?_
  refine gs_aload hk_93 rfl rfl rfl ?_
  refine gs_iload hk_93 rfl rfl rfl ?_
  refine gs_call (as := [.ref (r0 + 1), .int p0]) (rest := []) hk_93 rfl (Or.inr (Or.inr (Or.inr ⟨Or.inl rfl, j_recv_of h0⟩))) rfl rfl rfl (Nat.not_lt.mpr (Nat.le_of_ble_eq_true rfl)) (s_X10_exists_88 h0) rfl ?_
  by_cases c1 : j_cond 0 (if j_cond 2 p0 0 = true then 0 else (if j_cond 3 p0 v0 = true then 0 else 1)) 0 = true
  · rw [if_pos c1]
    refine gs_ifT hk_93 rfl c1 ?_
    refine gs_push (x := 0) hk_93 rfl (by decide) rfl ?_
    exact gs_iret hk_93 rfl (Or.inl rfl) rfl
  · rw [if_neg c1]
    refine gs_ifF hk_93 rfl (j_bf c1) rfl ?_
    refine gs_aload hk_93 rfl rfl rfl ?_
    refine gs_get hk_93 rfl h1 rfl ?_
    refine gs_iload hk_93 rfl rfl rfl ?_
    refine gs_ald hk_93 rfl h2 (h3 (by assumption)) rfl rfl ?_
    refine gs_goto hk_93 rfl ?_
    exact gs_iret hk_93 rfl (Or.inl rfl) rfl
theorem hk_119 : jP[119]? = some (jc_119, 1, [], []) := by rfl
theorem s_N_runs_119 {X : List Int32} {d : Nat} {m : jM} {r0 : Nat} {v0 : Int32} (h0 : j_fld m r0 11 12 = some (.int v0)) : j_Ev X (d) 119 [.ref (r0 + 1)] m (.inl (some (.int v0)), m) := by
  refine e_of hk_119 ?_
  refine gs_aload hk_119 rfl rfl rfl ?_
  refine gs_get hk_119 rfl h0 rfl ?_
  exact gs_iret hk_119 rfl (Or.inl rfl) rfl
theorem hk_120 : jP[120]? = some (jc_120, 1, [], []) := by rfl
theorem s_N_found_120 {X : List Int32} {d : Nat} {m : jM} {r0 : Nat} {v0 : Int32} (h0 : j_fld m r0 11 13 = some (.int v0)) : j_Ev X (d) 120 [.ref (r0 + 1)] m (.inl (some (.int v0)), m) := by
  refine e_of hk_120 ?_
  refine gs_aload hk_120 rfl rfl rfl ?_
  refine gs_get hk_120 rfl h0 rfl ?_
  exact gs_iret hk_120 rfl (Or.inl rfl) rfl
theorem hk_121 : jP[121]? = some (jc_121, 1, [], []) := by rfl
theorem s_N_isHand_121 {X : List Int32} {d : Nat} {m : jM} {p0 : Int32} : j_Ev X (d) 121 [.int p0] m (.inl (some (.int (if j_cond 2 p0 0 = true then 0 else (if j_cond 3 p0 2 = true then 0 else 1)))), m) := by
  refine e_of hk_121 ?_
  refine gs_iload hk_121 rfl rfl rfl ?_
  by_cases c1 : j_cond 2 p0 0 = true
  · rw [if_pos c1]
    refine gs_ifT hk_121 rfl c1 ?_
    refine gs_push (x := 0) hk_121 rfl (by decide) rfl ?_
    exact gs_iret hk_121 rfl (Or.inr (by decide)) rfl
  · rw [if_neg c1]
    refine gs_ifF hk_121 rfl (j_bf c1) rfl ?_
    refine gs_iload hk_121 rfl rfl rfl ?_
    refine gs_push (x := 2) hk_121 rfl (by decide) rfl ?_
    by_cases c2 : j_cond 3 p0 2 = true
    · rw [if_pos c2]
      refine gs_icT hk_121 rfl c2 ?_
      refine gs_push (x := 0) hk_121 rfl (by decide) rfl ?_
      exact gs_iret hk_121 rfl (Or.inr (by decide)) rfl
    · rw [if_neg c2]
      refine gs_icF hk_121 rfl (j_bf c2) rfl ?_
      refine gs_push (x := 1) hk_121 rfl (by decide) rfl ?_
      refine gs_goto hk_121 rfl ?_
      exact gs_iret hk_121 rfl (Or.inr (by decide)) rfl
theorem hk_122 : jP[122]? = some (jc_122, 1, [], []) := by rfl
theorem s_N_isLanguage_122 {X : List Int32} {d : Nat} {m : jM} {p0 : Int32} : j_Ev X (d) 122 [.int p0] m (.inl (some (.int (if j_cond 0 p0 0 = true then 1 else (if j_cond 0 p0 1 = true then 1 else (if j_cond 1 p0 2 = true then 0 else 1))))), m) := by
  refine e_of hk_122 ?_
  refine gs_iload hk_122 rfl rfl rfl ?_
  by_cases c1 : j_cond 0 p0 0 = true
  · rw [if_pos c1]
    refine gs_ifT hk_122 rfl c1 ?_
    refine gs_push (x := 1) hk_122 rfl (by decide) rfl ?_
    refine gs_goto hk_122 rfl ?_
    exact gs_iret hk_122 rfl (Or.inr (by decide)) rfl
  · rw [if_neg c1]
    refine gs_ifF hk_122 rfl (j_bf c1) rfl ?_
    refine gs_iload hk_122 rfl rfl rfl ?_
    refine gs_push (x := 1) hk_122 rfl (by decide) rfl ?_
    by_cases c2 : j_cond 0 p0 1 = true
    · rw [if_pos c2]
      refine gs_icT hk_122 rfl c2 ?_
      refine gs_push (x := 1) hk_122 rfl (by decide) rfl ?_
      refine gs_goto hk_122 rfl ?_
      exact gs_iret hk_122 rfl (Or.inr (by decide)) rfl
    · rw [if_neg c2]
      refine gs_icF hk_122 rfl (j_bf c2) rfl ?_
      refine gs_iload hk_122 rfl rfl rfl ?_
      refine gs_push (x := 2) hk_122 rfl (by decide) rfl ?_
      by_cases c3 : j_cond 1 p0 2 = true
      · rw [if_pos c3]
        refine gs_icT hk_122 rfl c3 ?_
        refine gs_push (x := 0) hk_122 rfl (by decide) rfl ?_
        exact gs_iret hk_122 rfl (Or.inr (by decide)) rfl
      · rw [if_neg c3]
        refine gs_icF hk_122 rfl (j_bf c3) rfl ?_
        refine gs_push (x := 1) hk_122 rfl (by decide) rfl ?_
        refine gs_goto hk_122 rfl ?_
        exact gs_iret hk_122 rfl (Or.inr (by decide)) rfl
theorem hk_123 : jP[123]? = some (jc_123, 1, [], []) := by rfl
theorem s_N_isName_123 {X : List Int32} {d : Nat} {m : jM} {p0 : Int32} : j_Ev X (d) 123 [.int p0] m (.inl (some (.int (if j_cond 2 p0 97 = true then 0 else (if j_cond 4 p0 122 = true then 0 else 1)))), m) := by
  refine e_of hk_123 ?_
  refine gs_iload hk_123 rfl rfl rfl ?_
  refine gs_push (x := 97) hk_123 rfl (by decide) rfl ?_
  by_cases c1 : j_cond 2 p0 97 = true
  · rw [if_pos c1]
    refine gs_icT hk_123 rfl c1 ?_
    refine gs_push (x := 0) hk_123 rfl (by decide) rfl ?_
    exact gs_iret hk_123 rfl (Or.inr (by decide)) rfl
  · rw [if_neg c1]
    refine gs_icF hk_123 rfl (j_bf c1) rfl ?_
    refine gs_iload hk_123 rfl rfl rfl ?_
    refine gs_push (x := 122) hk_123 rfl (by decide) rfl ?_
    by_cases c2 : j_cond 4 p0 122 = true
    · rw [if_pos c2]
      refine gs_icT hk_123 rfl c2 ?_
      refine gs_push (x := 0) hk_123 rfl (by decide) rfl ?_
      exact gs_iret hk_123 rfl (Or.inr (by decide)) rfl
    · rw [if_neg c2]
      refine gs_icF hk_123 rfl (j_bf c2) rfl ?_
      refine gs_push (x := 1) hk_123 rfl (by decide) rfl ?_
      refine gs_goto hk_123 rfl ?_
      exact gs_iret hk_123 rfl (Or.inr (by decide)) rfl
theorem hk_124 : jP[124]? = some (jc_124, 1, [], []) := by rfl
theorem s_N_isDigit_124 {X : List Int32} {d : Nat} {m : jM} {p0 : Int32} : j_Ev X (d) 124 [.int p0] m (.inl (some (.int (if j_cond 2 p0 48 = true then 0 else (if j_cond 4 p0 57 = true then 0 else 1)))), m) := by
  refine e_of hk_124 ?_
  refine gs_iload hk_124 rfl rfl rfl ?_
  refine gs_push (x := 48) hk_124 rfl (by decide) rfl ?_
  by_cases c1 : j_cond 2 p0 48 = true
  · rw [if_pos c1]
    refine gs_icT hk_124 rfl c1 ?_
    refine gs_push (x := 0) hk_124 rfl (by decide) rfl ?_
    exact gs_iret hk_124 rfl (Or.inr (by decide)) rfl
  · rw [if_neg c1]
    refine gs_icF hk_124 rfl (j_bf c1) rfl ?_
    refine gs_iload hk_124 rfl rfl rfl ?_
    refine gs_push (x := 57) hk_124 rfl (by decide) rfl ?_
    by_cases c2 : j_cond 4 p0 57 = true
    · rw [if_pos c2]
      refine gs_icT hk_124 rfl c2 ?_
      refine gs_push (x := 0) hk_124 rfl (by decide) rfl ?_
      exact gs_iret hk_124 rfl (Or.inr (by decide)) rfl
    · rw [if_neg c2]
      refine gs_icF hk_124 rfl (j_bf c2) rfl ?_
      refine gs_push (x := 1) hk_124 rfl (by decide) rfl ?_
      refine gs_goto hk_124 rfl ?_
      exact gs_iret hk_124 rfl (Or.inr (by decide)) rfl
theorem hk_125 : jP[125]? = some (jc_125, 2, [], []) := by rfl
theorem s_N_isCell_125 {X : List Int32} {d : Nat} {m : jM} {r0 : Nat} {p0 : Int32} {v0 : Int32} (h0 : j_fld m r0 11 10 = some (.int v0)) : j_Ev X (d) 125 [.ref (r0 + 1), .int p0] m (.inl (some (.int (if j_cond 2 p0 0 = true then 0 else (if j_cond 3 p0 v0 = true then 0 else 1)))), m) := by
  refine e_of hk_125 ?_
  refine gs_iload hk_125 rfl rfl rfl ?_
  by_cases c1 : j_cond 2 p0 0 = true
  · rw [if_pos c1]
    refine gs_ifT hk_125 rfl c1 ?_
    refine gs_push (x := 0) hk_125 rfl (by decide) rfl ?_
    exact gs_iret hk_125 rfl (Or.inr (by decide)) rfl
  · rw [if_neg c1]
    refine gs_ifF hk_125 rfl (j_bf c1) rfl ?_
    refine gs_iload hk_125 rfl rfl rfl ?_
    refine gs_aload hk_125 rfl rfl rfl ?_
    refine gs_get hk_125 rfl h0 rfl ?_
    by_cases c2 : j_cond 3 p0 v0 = true
    · rw [if_pos c2]
      refine gs_icT hk_125 rfl c2 ?_
      refine gs_push (x := 0) hk_125 rfl (by decide) rfl ?_
      exact gs_iret hk_125 rfl (Or.inr (by decide)) rfl
    · rw [if_neg c2]
      refine gs_icF hk_125 rfl (j_bf c2) rfl ?_
      refine gs_push (x := 1) hk_125 rfl (by decide) rfl ?_
      refine gs_goto hk_125 rfl ?_
      exact gs_iret hk_125 rfl (Or.inr (by decide)) rfl
theorem hk_126 : jP[126]? = some (jc_126, 2, [], []) := by rfl
theorem s_N_has_126 {X : List Int32} {d : Nat} {m : jM} {p0 : Int32} {p1 : Int32} : j_Ev X (d) 126 [.int p0, .int p1] m (.inl (some (.int (if j_cond 2 p1 0 = true then 0 else (if j_cond 0 ((p0 >>> (p1 &&& 31)) &&& 1) 0 = true then 0 else 1)))), m) := by
  refine e_of hk_126 ?_
  refine gs_iload hk_126 rfl rfl rfl ?_
  by_cases c1 : j_cond 2 p1 0 = true
  · rw [if_pos c1]
    refine gs_ifT hk_126 rfl c1 ?_
    refine gs_push (x := 0) hk_126 rfl (by decide) rfl ?_
    exact gs_iret hk_126 rfl (Or.inr (by decide)) rfl
  · rw [if_neg c1]
    refine gs_ifF hk_126 rfl (j_bf c1) rfl ?_
    refine gs_iload hk_126 rfl rfl rfl ?_
    refine gs_iload hk_126 rfl rfl rfl ?_
    refine gs_bin (z := (p0 >>> (p1 &&& 31))) hk_126 rfl rfl rfl ?_
    refine gs_push (x := 1) hk_126 rfl (by decide) rfl ?_
    refine gs_bin (z := ((p0 >>> (p1 &&& 31)) &&& 1)) hk_126 rfl rfl rfl ?_
    by_cases c2 : j_cond 0 ((p0 >>> (p1 &&& 31)) &&& 1) 0 = true
    · rw [if_pos c2]
      refine gs_ifT hk_126 rfl c2 ?_
      refine gs_push (x := 0) hk_126 rfl (by decide) rfl ?_
      exact gs_iret hk_126 rfl (Or.inr (by decide)) rfl
    · rw [if_neg c2]
      refine gs_ifF hk_126 rfl (j_bf c2) rfl ?_
      refine gs_push (x := 1) hk_126 rfl (by decide) rfl ?_
      refine gs_goto hk_126 rfl ?_
      exact gs_iret hk_126 rfl (Or.inr (by decide)) rfl
theorem hk_145 : jP[145]? = some (jc_145, 1, [], []) := by rfl
theorem s_M_thrown_145 {X : List Int32} {d : Nat} {m : jM} {r0 : Nat} {v0 : Int32} (h0 : j_fld m r0 12 79 = some (.int v0)) : j_Ev X (d) 145 [.ref (r0 + 1)] m (.inl (some (.int v0)), m) := by
  refine e_of hk_145 ?_
  refine gs_aload hk_145 rfl rfl rfl ?_
  refine gs_get hk_145 rfl h0 rfl ?_
  exact gs_iret hk_145 rfl (Or.inl rfl) rfl
theorem hk_147 : jP[147]? = some (jc_147, 3, [], []) := by rfl
theorem s_M_isBetween_147 {X : List Int32} {d : Nat} {m : jM} {p0 : Int32} {p1 : Int32} {p2 : Int32} : j_Ev X (d) 147 [.int p0, .int p1, .int p2] m (.inl (some (.int (if j_cond 2 p0 p1 = true then 0 else (if j_cond 4 p0 p2 = true then 0 else 1)))), m) := by
  refine e_of hk_147 ?_
  refine gs_iload hk_147 rfl rfl rfl ?_
  refine gs_iload hk_147 rfl rfl rfl ?_
  by_cases c1 : j_cond 2 p0 p1 = true
  · rw [if_pos c1]
    refine gs_icT hk_147 rfl c1 ?_
    refine gs_push (x := 0) hk_147 rfl (by decide) rfl ?_
    exact gs_iret hk_147 rfl (Or.inr (by decide)) rfl
  · rw [if_neg c1]
    refine gs_icF hk_147 rfl (j_bf c1) rfl ?_
    refine gs_iload hk_147 rfl rfl rfl ?_
    refine gs_iload hk_147 rfl rfl rfl ?_
    by_cases c2 : j_cond 4 p0 p2 = true
    · rw [if_pos c2]
      refine gs_icT hk_147 rfl c2 ?_
      refine gs_push (x := 0) hk_147 rfl (by decide) rfl ?_
      exact gs_iret hk_147 rfl (Or.inr (by decide)) rfl
    · rw [if_neg c2]
      refine gs_icF hk_147 rfl (j_bf c2) rfl ?_
      refine gs_push (x := 1) hk_147 rfl (by decide) rfl ?_
      refine gs_goto hk_147 rfl ?_
      exact gs_iret hk_147 rfl (Or.inr (by decide)) rfl
theorem hk_148 : jP[148]? = some (jc_148, 1, [], []) := by rfl
theorem s_M_isLetter_148 {X : List Int32} {d : Nat} {m : jM} {p0 : Int32} : j_Ev X (d + 1) 148 [.int p0] m (.inl (some (.int (if j_cond 2 p0 97 = true then 0 else (if j_cond 4 p0 122 = true then 0 else 1)))), m) := by
  refine e_of hk_148 ?_
  refine gs_iload hk_148 rfl rfl rfl ?_
  refine gs_push (x := 97) hk_148 rfl (by decide) rfl ?_
  refine gs_push (x := 122) hk_148 rfl (by decide) rfl ?_
  refine gs_call (as := [.int p0, .int 97, .int 122]) (rest := []) hk_148 rfl (Or.inl rfl) rfl rfl rfl (Nat.not_lt.mpr (Nat.le_of_ble_eq_true rfl)) (s_M_isBetween_147) rfl ?_
  exact gs_iret hk_148 rfl (Or.inr (by (repeat' split) <;> decide)) rfl
theorem hk_149 : jP[149]? = some (jc_149, 1, [], []) := by rfl
theorem s_M_isDigit_149 {X : List Int32} {d : Nat} {m : jM} {p0 : Int32} : j_Ev X (d + 1) 149 [.int p0] m (.inl (some (.int (if j_cond 2 p0 48 = true then 0 else (if j_cond 4 p0 57 = true then 0 else 1)))), m) := by
  refine e_of hk_149 ?_
  refine gs_iload hk_149 rfl rfl rfl ?_
  refine gs_push (x := 48) hk_149 rfl (by decide) rfl ?_
  refine gs_push (x := 57) hk_149 rfl (by decide) rfl ?_
  refine gs_call (as := [.int p0, .int 48, .int 57]) (rest := []) hk_149 rfl (Or.inl rfl) rfl rfl rfl (Nat.not_lt.mpr (Nat.le_of_ble_eq_true rfl)) (s_M_isBetween_147) rfl ?_
  exact gs_iret hk_149 rfl (Or.inr (by (repeat' split) <;> decide)) rfl
theorem hk_150 : jP[150]? = some (jc_150, 1, [], []) := by rfl
theorem s_M_sign_150 {X : List Int32} {d : Nat} {m : jM} {r0 : Nat} {v0 : Int32} {v1 : Int32} {v2 : Nat} {l3 : List Value} (h0 : j_fld m r0 12 67 = some (.int v0)) (h1 : j_fld m r0 12 66 = some (.int v1)) (h2 : j_fld m r0 12 65 = some (.ref (v2 + 1))) (h3 : j_arr m v2 50 = some l3) (h4 : ¬ (j_cond 3 v0 v1 = true) → ¬ (v0 < 0 ∨ l3.length ≤ v0.toNatClampNeg)) : j_Ev X (d) 150 [.ref (r0 + 1)] m (.inl (some (.int (if j_cond 3 v0 v1 = true then 0 else (j_iv (l3.getD v0.toNatClampNeg .null))))), m) := by
  refine e_of hk_150 ?_
  refine gs_aload hk_150 rfl rfl rfl ?_
  refine gs_get hk_150 rfl h0 rfl ?_
  refine gs_aload hk_150 rfl rfl rfl ?_
  refine gs_get hk_150 rfl h1 rfl ?_
  by_cases c1 : j_cond 3 v0 v1 = true
  · rw [if_pos c1]
    refine gs_icT hk_150 rfl c1 ?_
    refine gs_push (x := 0) hk_150 rfl (by decide) rfl ?_
    exact gs_iret hk_150 rfl (Or.inl rfl) rfl
  · rw [if_neg c1]
    refine gs_icF hk_150 rfl (j_bf c1) rfl ?_
    refine gs_aload hk_150 rfl rfl rfl ?_
    refine gs_get hk_150 rfl h2 rfl ?_
    refine gs_aload hk_150 rfl rfl rfl ?_
    refine gs_get hk_150 rfl h0 rfl ?_
    refine gs_ald hk_150 rfl h3 (h4 (by assumption)) rfl rfl ?_
    refine gs_goto hk_150 rfl ?_
    exact gs_iret hk_150 rfl (Or.inl rfl) rfl
theorem hk_151 : jP[151]? = some (jc_151, 1, [], []) := by rfl
theorem s_M_isPrefix_151 {X : List Int32} {d : Nat} {m : jM} {r0 : Nat} {v0 : Int32} {v1 : Int32} {v2 : Nat} {l3 : List Value} (h0 : j_fld m r0 12 67 = some (.int v0)) (h1 : j_fld m r0 12 66 = some (.int v1)) (h2 : j_fld m r0 12 65 = some (.ref (v2 + 1))) (h3 : j_arr m v2 50 = some l3) (h4 : ¬ (j_cond 3 (v0 + 1) v1 = true) → ¬ (v0 < 0 ∨ l3.length ≤ v0.toNatClampNeg)) (h5 : ¬ (j_cond 3 (v0 + 1) v1 = true) → ¬ (j_cond 0 (if j_cond 2 (j_iv (l3.getD v0.toNatClampNeg .null)) 97 = true then 0 else (if j_cond 4 (j_iv (l3.getD v0.toNatClampNeg .null)) 122 = true then 0 else 1)) 0 = true) → ¬ ((v0 + 1) < 0 ∨ l3.length ≤ (v0 + 1).toNatClampNeg)) (h6 : ¬ (j_cond 3 (v0 + 1) v1 = true) → ¬ (j_cond 0 (if j_cond 2 (j_iv (l3.getD v0.toNatClampNeg .null)) 97 = true then 0 else (if j_cond 4 (j_iv (l3.getD v0.toNatClampNeg .null)) 122 = true then 0 else 1)) 0 = true) → ¬ (j_cond 0 (j_iv (l3.getD (v0 + 1).toNatClampNeg .null)) 61 = true) → ¬ ((v0 + 1) < 0 ∨ l3.length ≤ (v0 + 1).toNatClampNeg)) : j_Ev X (d + 2) 151 [.ref (r0 + 1)] m (.inl (some (.int (if j_cond 3 (v0 + 1) v1 = true then 0 else (if j_cond 0 (if j_cond 2 (j_iv (l3.getD v0.toNatClampNeg .null)) 97 = true then 0 else (if j_cond 4 (j_iv (l3.getD v0.toNatClampNeg .null)) 122 = true then 0 else 1)) 0 = true then 0 else (if j_cond 0 (j_iv (l3.getD (v0 + 1).toNatClampNeg .null)) 61 = true then 1 else (if j_cond 1 (j_iv (l3.getD (v0 + 1).toNatClampNeg .null)) 33 = true then 0 else 1)))))), m) := by
  refine e_of hk_151 ?_
  refine gs_aload hk_151 rfl rfl rfl ?_
  refine gs_get hk_151 rfl h0 rfl ?_
  refine gs_push (x := 1) hk_151 rfl (by decide) rfl ?_
  refine gs_bin (z := (v0 + 1)) hk_151 rfl rfl rfl ?_
  refine gs_aload hk_151 rfl rfl rfl ?_
  refine gs_get hk_151 rfl h1 rfl ?_
  by_cases c1 : j_cond 3 (v0 + 1) v1 = true
  · rw [if_pos c1]
    refine gs_icT hk_151 rfl c1 ?_
    refine gs_push (x := 0) hk_151 rfl (by decide) rfl ?_
    exact gs_iret hk_151 rfl (Or.inr (by decide)) rfl
  · rw [if_neg c1]
    refine gs_icF hk_151 rfl (j_bf c1) rfl ?_
    refine gs_aload hk_151 rfl rfl rfl ?_
    refine gs_get hk_151 rfl h2 rfl ?_
    refine gs_aload hk_151 rfl rfl rfl ?_
    refine gs_get hk_151 rfl h0 rfl ?_
    refine gs_ald hk_151 rfl h3 (h4 (by assumption)) rfl rfl ?_
    refine gs_call (as := [.int (j_iv (l3.getD v0.toNatClampNeg .null))]) (rest := []) hk_151 rfl (Or.inl rfl) rfl rfl rfl (Nat.not_lt.mpr (Nat.le_of_ble_eq_true rfl)) (s_M_isLetter_148) rfl ?_
    by_cases c2 : j_cond 0 (if j_cond 2 (j_iv (l3.getD v0.toNatClampNeg .null)) 97 = true then 0 else (if j_cond 4 (j_iv (l3.getD v0.toNatClampNeg .null)) 122 = true then 0 else 1)) 0 = true
    · rw [if_pos c2]
      refine gs_ifT hk_151 rfl c2 ?_
      refine gs_push (x := 0) hk_151 rfl (by decide) rfl ?_
      exact gs_iret hk_151 rfl (Or.inr (by decide)) rfl
    · rw [if_neg c2]
      refine gs_ifF hk_151 rfl (j_bf c2) rfl ?_
      refine gs_aload hk_151 rfl rfl rfl ?_
      refine gs_get hk_151 rfl h2 rfl ?_
      refine gs_aload hk_151 rfl rfl rfl ?_
      refine gs_get hk_151 rfl h0 rfl ?_
      refine gs_push (x := 1) hk_151 rfl (by decide) rfl ?_
      refine gs_bin (z := (v0 + 1)) hk_151 rfl rfl rfl ?_
      refine gs_ald hk_151 rfl h3 (h5 (by assumption) (by assumption)) rfl rfl ?_
      refine gs_push (x := 61) hk_151 rfl (by decide) rfl ?_
      by_cases c3 : j_cond 0 (j_iv (l3.getD (v0 + 1).toNatClampNeg .null)) 61 = true
      · rw [if_pos c3]
        refine gs_icT hk_151 rfl c3 ?_
        refine gs_push (x := 1) hk_151 rfl (by decide) rfl ?_
        refine gs_goto hk_151 rfl ?_
        exact gs_iret hk_151 rfl (Or.inr (by decide)) rfl
      · rw [if_neg c3]
        refine gs_icF hk_151 rfl (j_bf c3) rfl ?_
        refine gs_aload hk_151 rfl rfl rfl ?_
        refine gs_get hk_151 rfl h2 rfl ?_
        refine gs_aload hk_151 rfl rfl rfl ?_
        refine gs_get hk_151 rfl h0 rfl ?_
        refine gs_push (x := 1) hk_151 rfl (by decide) rfl ?_
        refine gs_bin (z := (v0 + 1)) hk_151 rfl rfl rfl ?_
        refine gs_ald hk_151 rfl h3 (h6 (by assumption) (by assumption) (by assumption)) rfl rfl ?_
        refine gs_push (x := 33) hk_151 rfl (by decide) rfl ?_
        by_cases c4 : j_cond 1 (j_iv (l3.getD (v0 + 1).toNatClampNeg .null)) 33 = true
        · rw [if_pos c4]
          refine gs_icT hk_151 rfl c4 ?_
          refine gs_push (x := 0) hk_151 rfl (by decide) rfl ?_
          exact gs_iret hk_151 rfl (Or.inr (by decide)) rfl
        · rw [if_neg c4]
          refine gs_icF hk_151 rfl (j_bf c4) rfl ?_
          refine gs_push (x := 1) hk_151 rfl (by decide) rfl ?_
          refine gs_goto hk_151 rfl ?_
          exact gs_iret hk_151 rfl (Or.inr (by decide)) rfl
theorem hk_162 : jP[162]? = some (jc_162, 1, [], []) := by rfl
theorem s_M_bit_162 {X : List Int32} {d : Nat} {m : jM} {p0 : Int32} : j_Ev X (d) 162 [.int p0] m (.inl (some (.int (1 <<< ((p0 - 97) &&& 31)))), m) := by
  refine e_of hk_162 ?_
  refine gs_push (x := 1) hk_162 rfl (by decide) rfl ?_
  refine gs_iload hk_162 rfl rfl rfl ?_
  refine gs_push (x := 97) hk_162 rfl (by decide) rfl ?_
  refine gs_bin (z := (p0 - 97)) hk_162 rfl rfl rfl ?_
  refine gs_bin (z := (1 <<< ((p0 - 97) &&& 31))) hk_162 rfl rfl rfl ?_
  exact gs_iret hk_162 rfl (Or.inl rfl) rfl
theorem hk_167 : jP[167]? = some (jc_167, 2, [], []) := by rfl
theorem s_M_isCell_167 {X : List Int32} {d : Nat} {m : jM} {r0 : Nat} {p0 : Int32} {v0 : Int32} (h0 : j_fld m r0 12 2 = some (.int v0)) : j_Ev X (d + 1) 167 [.ref (r0 + 1), .int p0] m (.inl (some (.int (if j_cond 2 p0 0 = true then 0 else (if j_cond 4 p0 (v0 - 1) = true then 0 else 1)))), m) := by
  refine e_of hk_167 ?_
  refine gs_iload hk_167 rfl rfl rfl ?_
  refine gs_push (x := 0) hk_167 rfl (by decide) rfl ?_
  refine gs_aload hk_167 rfl rfl rfl ?_
  refine gs_get hk_167 rfl h0 rfl ?_
  refine gs_push (x := 1) hk_167 rfl (by decide) rfl ?_
  refine gs_bin (z := (v0 - 1)) hk_167 rfl rfl rfl ?_
  refine gs_call (as := [.int p0, .int 0, .int (v0 - 1)]) (rest := []) hk_167 rfl (Or.inl rfl) rfl rfl rfl (Nat.not_lt.mpr (Nat.le_of_ble_eq_true rfl)) (s_M_isBetween_147) rfl ?_
  exact gs_iret hk_167 rfl (Or.inr (by (repeat' split) <;> decide)) rfl
theorem hk_172 : jP[172]? = some (jc_172, 2, [], []) := by rfl
theorem s_M_isWidget_172 {X : List Int32} {d : Nat} {m : jM} {r0 : Nat} {p0 : Int32} {v0 : Int32} (h0 : j_fld m r0 12 48 = some (.int v0)) : j_Ev X (d + 1) 172 [.ref (r0 + 1), .int p0] m (.inl (some (.int (if j_cond 2 p0 0 = true then 0 else (if j_cond 4 p0 (v0 - 1) = true then 0 else 1)))), m) := by
  refine e_of hk_172 ?_
  refine gs_iload hk_172 rfl rfl rfl ?_
  refine gs_push (x := 0) hk_172 rfl (by decide) rfl ?_
  refine gs_aload hk_172 rfl rfl rfl ?_
  refine gs_get hk_172 rfl h0 rfl ?_
  refine gs_push (x := 1) hk_172 rfl (by decide) rfl ?_
  refine gs_bin (z := (v0 - 1)) hk_172 rfl rfl rfl ?_
  refine gs_call (as := [.int p0, .int 0, .int (v0 - 1)]) (rest := []) hk_172 rfl (Or.inl rfl) rfl rfl rfl (Nat.not_lt.mpr (Nat.le_of_ble_eq_true rfl)) (s_M_isBetween_147) rfl ?_
  exact gs_iret hk_172 rfl (Or.inr (by (repeat' split) <;> decide)) rfl
theorem hk_175 : jP[175]? = some (jc_175, 3, [], []) := by rfl
theorem s_M_held_175 {X : List Int32} {d : Nat} {m : jM} {r0 : Nat} {p0 : Int32} {p1 : Int32} {v0 : Nat} {l1 : List Value} {v3 : Nat} {l4 : List Value} (h0 : j_fld m r0 12 50 = some (.ref (v0 + 1))) (h1 : j_arr m v0 50 = some l1) (h2 : ¬ (p0 < 0 ∨ l1.length ≤ p0.toNatClampNeg)) (h3 : j_fld m r0 12 51 = some (.ref (v3 + 1))) (h4 : j_arr m v3 50 = some l4) (h5 : j_cond 3 p1 (j_iv (l1.getD p0.toNatClampNeg .null)) = true → ¬ (p0 < 0 ∨ l4.length ≤ p0.toNatClampNeg)) (h6 : j_cond 3 p1 (j_iv (l1.getD p0.toNatClampNeg .null)) = true → ¬ (j_cond 5 p1 (j_iv (l4.getD p0.toNatClampNeg .null)) = true) → ¬ (p0 < 0 ∨ l4.length ≤ p0.toNatClampNeg)) (h7 : ¬ (j_cond 3 p1 (j_iv (l1.getD p0.toNatClampNeg .null)) = true) → ¬ (p0 < 0 ∨ l1.length ≤ p0.toNatClampNeg)) : j_Ev X (d) 175 [.ref (r0 + 1), .int p0, .int p1] m (.inl (some (.int (if j_cond 3 p1 (j_iv (l1.getD p0.toNatClampNeg .null)) = true then (if j_cond 5 p1 (j_iv (l4.getD p0.toNatClampNeg .null)) = true then p1 else (j_iv (l4.getD p0.toNatClampNeg .null))) else (j_iv (l1.getD p0.toNatClampNeg .null))))), m) := by
  refine e_of hk_175 ?_
  refine gs_iload hk_175 rfl rfl rfl ?_
  refine gs_aload hk_175 rfl rfl rfl ?_
  refine gs_get hk_175 rfl h0 rfl ?_
  refine gs_iload hk_175 rfl rfl rfl ?_
  refine gs_ald hk_175 rfl h1 (h2) rfl rfl ?_
  by_cases c1 : j_cond 3 p1 (j_iv (l1.getD p0.toNatClampNeg .null)) = true
  · rw [if_pos c1]
    refine gs_icT hk_175 rfl c1 ?_
    refine gs_iload hk_175 rfl rfl rfl ?_
    refine gs_aload hk_175 rfl rfl rfl ?_
    refine gs_get hk_175 rfl h3 rfl ?_
    refine gs_iload hk_175 rfl rfl rfl ?_
    refine gs_ald hk_175 rfl h4 (h5 (by assumption)) rfl rfl ?_
    by_cases c2 : j_cond 5 p1 (j_iv (l4.getD p0.toNatClampNeg .null)) = true
    · rw [if_pos c2]
      refine gs_icT hk_175 rfl c2 ?_
      refine gs_iload hk_175 rfl rfl rfl ?_
      exact gs_iret hk_175 rfl (Or.inl rfl) rfl
    · rw [if_neg c2]
      refine gs_icF hk_175 rfl (j_bf c2) rfl ?_
      refine gs_aload hk_175 rfl rfl rfl ?_
      refine gs_get hk_175 rfl h3 rfl ?_
      refine gs_iload hk_175 rfl rfl rfl ?_
      refine gs_ald hk_175 rfl h4 (h6 (by assumption) (by assumption)) rfl rfl ?_
      refine gs_goto hk_175 rfl ?_
      exact gs_iret hk_175 rfl (Or.inl rfl) rfl
  · rw [if_neg c1]
    refine gs_icF hk_175 rfl (j_bf c1) rfl ?_
    refine gs_aload hk_175 rfl rfl rfl ?_
    refine gs_get hk_175 rfl h0 rfl ?_
    refine gs_iload hk_175 rfl rfl rfl ?_
    refine gs_ald hk_175 rfl h1 (h7 (by assumption)) rfl rfl ?_
    refine gs_goto hk_175 rfl ?_
    exact gs_iret hk_175 rfl (Or.inl rfl) rfl
theorem hk_199 : jP[199]? = some (jc_199, 2, [], []) := by rfl
theorem s_M_isNumber_199 {X : List Int32} {d : Nat} {m : jM} {r0 : Nat} {p0 : Int32} {v0 : Nat} {l1 : List Value} (h0 : j_fld m r0 12 71 = some (.ref (v0 + 1))) (h1 : j_arr m v0 50 = some l1) (h2 : ¬ ((9 * p0) < 0 ∨ l1.length ≤ (9 * p0).toNatClampNeg)) : j_Ev X (d) 199 [.ref (r0 + 1), .int p0] m (.inl (some (.int (if j_cond 1 (j_iv (l1.getD (9 * p0).toNatClampNeg .null)) (-1) = true then 0 else 1))), m) := by
  refine e_of hk_199 ?_
  refine gs_aload hk_199 rfl rfl rfl ?_
  refine gs_get hk_199 rfl h0 rfl ?_
  refine gs_push (x := 9) hk_199 rfl (by decide) rfl ?_
  refine gs_iload hk_199 rfl rfl rfl ?_
  refine gs_bin (z := (9 * p0)) hk_199 rfl rfl rfl ?_
  refine gs_ald hk_199 rfl h1 (h2) rfl rfl ?_
  refine gs_push (x := (-1)) hk_199 rfl (by decide) rfl ?_
  by_cases c1 : j_cond 1 (j_iv (l1.getD (9 * p0).toNatClampNeg .null)) (-1) = true
  · rw [if_pos c1]
    refine gs_icT hk_199 rfl c1 ?_
    refine gs_push (x := 0) hk_199 rfl (by decide) rfl ?_
    exact gs_iret hk_199 rfl (Or.inr (by decide)) rfl
  · rw [if_neg c1]
    refine gs_icF hk_199 rfl (j_bf c1) rfl ?_
    refine gs_push (x := 1) hk_199 rfl (by decide) rfl ?_
    refine gs_goto hk_199 rfl ?_
    exact gs_iret hk_199 rfl (Or.inr (by decide)) rfl
theorem hk_201 : jP[201]? = some (jc_201, 1, [], []) := by rfl
theorem s_M_strength_201 {X : List Int32} {d : Nat} {m : jM} {p0 : Int32} : j_Ev X (d) 201 [.int p0] m (.inl (some (.int (if j_cond 1 p0 35 = true then (if j_cond 1 p0 42 = true then (if j_cond 0 p0 43 = true then 1 else (if j_cond 1 p0 45 = true then 0 else 1)) else 2) else 3))), m) := by
  refine e_of hk_201 ?_
  refine gs_iload hk_201 rfl rfl rfl ?_
  refine gs_push (x := 35) hk_201 rfl (by decide) rfl ?_
  by_cases c1 : j_cond 1 p0 35 = true
  · rw [if_pos c1]
    refine gs_icT hk_201 rfl c1 ?_
    refine gs_iload hk_201 rfl rfl rfl ?_
    refine gs_push (x := 42) hk_201 rfl (by decide) rfl ?_
    by_cases c2 : j_cond 1 p0 42 = true
    · rw [if_pos c2]
      refine gs_icT hk_201 rfl c2 ?_
      refine gs_iload hk_201 rfl rfl rfl ?_
      refine gs_push (x := 43) hk_201 rfl (by decide) rfl ?_
      by_cases c3 : j_cond 0 p0 43 = true
      · rw [if_pos c3]
        refine gs_icT hk_201 rfl c3 ?_
        refine gs_push (x := 1) hk_201 rfl (by decide) rfl ?_
        refine gs_goto hk_201 rfl ?_
        exact gs_iret hk_201 rfl (Or.inl rfl) rfl
      · rw [if_neg c3]
        refine gs_icF hk_201 rfl (j_bf c3) rfl ?_
        refine gs_iload hk_201 rfl rfl rfl ?_
        refine gs_push (x := 45) hk_201 rfl (by decide) rfl ?_
        by_cases c4 : j_cond 1 p0 45 = true
        · rw [if_pos c4]
          refine gs_icT hk_201 rfl c4 ?_
          refine gs_push (x := 0) hk_201 rfl (by decide) rfl ?_
          exact gs_iret hk_201 rfl (Or.inl rfl) rfl
        · rw [if_neg c4]
          refine gs_icF hk_201 rfl (j_bf c4) rfl ?_
          refine gs_push (x := 1) hk_201 rfl (by decide) rfl ?_
          refine gs_goto hk_201 rfl ?_
          exact gs_iret hk_201 rfl (Or.inl rfl) rfl
    · rw [if_neg c2]
      refine gs_icF hk_201 rfl (j_bf c2) rfl ?_
      refine gs_push (x := 2) hk_201 rfl (by decide) rfl ?_
      refine gs_goto hk_201 rfl ?_
      exact gs_iret hk_201 rfl (Or.inl rfl) rfl
  · rw [if_neg c1]
    refine gs_icF hk_201 rfl (j_bf c1) rfl ?_
    refine gs_push (x := 3) hk_201 rfl (by decide) rfl ?_
    refine gs_goto hk_201 rfl ?_
    exact gs_iret hk_201 rfl (Or.inl rfl) rfl
theorem hk_210 : jP[210]? = some (jc_210, 3, [], []) := by rfl
theorem s_M_isSo_210 {X : List Int32} {d : Nat} {m : jM} {p0 : Int32} {p1 : Int32} {p2 : Int32} : j_Ev X (d) 210 [.int p0, .int p1, .int p2] m (.inl (some (.int (if j_cond 1 p1 60 = true then (if j_cond 1 p1 62 = true then (if j_cond 1 p0 p2 = true then 0 else 1) else (if j_cond 5 p0 p2 = true then 0 else 1)) else (if j_cond 3 p0 p2 = true then 0 else 1)))), m) := by
  refine e_of hk_210 ?_
  refine gs_iload hk_210 rfl rfl rfl ?_
  refine gs_push (x := 60) hk_210 rfl (by decide) rfl ?_
  by_cases c1 : j_cond 1 p1 60 = true
  · rw [if_pos c1]
    refine gs_icT hk_210 rfl c1 ?_
    refine gs_iload hk_210 rfl rfl rfl ?_
    refine gs_push (x := 62) hk_210 rfl (by decide) rfl ?_
    by_cases c2 : j_cond 1 p1 62 = true
    · rw [if_pos c2]
      refine gs_icT hk_210 rfl c2 ?_
      refine gs_iload hk_210 rfl rfl rfl ?_
      refine gs_iload hk_210 rfl rfl rfl ?_
      by_cases c3 : j_cond 1 p0 p2 = true
      · rw [if_pos c3]
        refine gs_icT hk_210 rfl c3 ?_
        refine gs_push (x := 0) hk_210 rfl (by decide) rfl ?_
        exact gs_iret hk_210 rfl (Or.inr (by decide)) rfl
      · rw [if_neg c3]
        refine gs_icF hk_210 rfl (j_bf c3) rfl ?_
        refine gs_push (x := 1) hk_210 rfl (by decide) rfl ?_
        refine gs_goto hk_210 rfl ?_
        exact gs_iret hk_210 rfl (Or.inr (by decide)) rfl
    · rw [if_neg c2]
      refine gs_icF hk_210 rfl (j_bf c2) rfl ?_
      refine gs_iload hk_210 rfl rfl rfl ?_
      refine gs_iload hk_210 rfl rfl rfl ?_
      by_cases c4 : j_cond 5 p0 p2 = true
      · rw [if_pos c4]
        refine gs_icT hk_210 rfl c4 ?_
        refine gs_push (x := 0) hk_210 rfl (by decide) rfl ?_
        refine gs_goto hk_210 rfl ?_
        exact gs_iret hk_210 rfl (Or.inr (by decide)) rfl
      · rw [if_neg c4]
        refine gs_icF hk_210 rfl (j_bf c4) rfl ?_
        refine gs_push (x := 1) hk_210 rfl (by decide) rfl ?_
        refine gs_goto hk_210 rfl ?_
        exact gs_iret hk_210 rfl (Or.inr (by decide)) rfl
  · rw [if_neg c1]
    refine gs_icF hk_210 rfl (j_bf c1) rfl ?_
    refine gs_iload hk_210 rfl rfl rfl ?_
    refine gs_iload hk_210 rfl rfl rfl ?_
    by_cases c5 : j_cond 3 p0 p2 = true
    · rw [if_pos c5]
      refine gs_icT hk_210 rfl c5 ?_
      refine gs_push (x := 0) hk_210 rfl (by decide) rfl ?_
      refine gs_goto hk_210 rfl ?_
      exact gs_iret hk_210 rfl (Or.inr (by decide)) rfl
    · rw [if_neg c5]
      refine gs_icF hk_210 rfl (j_bf c5) rfl ?_
      refine gs_push (x := 1) hk_210 rfl (by decide) rfl ?_
      refine gs_goto hk_210 rfl ?_
      exact gs_iret hk_210 rfl (Or.inr (by decide)) rfl
theorem hk_236 : jP[236]? = some (jc_236, 3, [], []) := by rfl
theorem s_M_hasItem_236 {X : List Int32} {d : Nat} {m : jM} {q0 : Nat} {p1 : Int32} {p2 : Int32} {l0 : List Value} (h0 : j_arr m q0 50 = some l0) (h1 : j_cond 1 p2 (-1) = true → ¬ (j_cond 2 p2 0 = true) → ¬ (p1 < 0 ∨ l0.length ≤ p1.toNatClampNeg)) (h2 : ¬ (j_cond 1 p2 (-1) = true) → ¬ (p1 < 0 ∨ l0.length ≤ p1.toNatClampNeg)) : j_Ev X (d) 236 [.ref (q0 + 1), .int p1, .int p2] m (.inl (some (.int (if j_cond 1 p2 (-1) = true then (if j_cond 2 p2 0 = true then 0 else (if j_cond 3 p2 (j_iv (l0.getD p1.toNatClampNeg .null)) = true then 0 else 1)) else (if j_cond 0 (j_iv (l0.getD p1.toNatClampNeg .null)) (-2) = true then 0 else 1)))), m) := by
  refine e_of hk_236 ?_
  refine gs_iload hk_236 rfl rfl rfl ?_
  refine gs_push (x := (-1)) hk_236 rfl (by decide) rfl ?_
  by_cases c1 : j_cond 1 p2 (-1) = true
  · rw [if_pos c1]
    refine gs_icT hk_236 rfl c1 ?_
    refine gs_iload hk_236 rfl rfl rfl ?_
    by_cases c2 : j_cond 2 p2 0 = true
    · rw [if_pos c2]
      refine gs_ifT hk_236 rfl c2 ?_
      refine gs_push (x := 0) hk_236 rfl (by decide) rfl ?_
      exact gs_iret hk_236 rfl (Or.inr (by decide)) rfl
    · rw [if_neg c2]
      refine gs_ifF hk_236 rfl (j_bf c2) rfl ?_
      refine gs_iload hk_236 rfl rfl rfl ?_
      refine gs_aload hk_236 rfl rfl rfl ?_
      refine gs_iload hk_236 rfl rfl rfl ?_
      refine gs_ald hk_236 rfl h0 (h1 (by assumption) (by assumption)) rfl rfl ?_
      by_cases c3 : j_cond 3 p2 (j_iv (l0.getD p1.toNatClampNeg .null)) = true
      · rw [if_pos c3]
        refine gs_icT hk_236 rfl c3 ?_
        refine gs_push (x := 0) hk_236 rfl (by decide) rfl ?_
        exact gs_iret hk_236 rfl (Or.inr (by decide)) rfl
      · rw [if_neg c3]
        refine gs_icF hk_236 rfl (j_bf c3) rfl ?_
        refine gs_push (x := 1) hk_236 rfl (by decide) rfl ?_
        refine gs_goto hk_236 rfl ?_
        exact gs_iret hk_236 rfl (Or.inr (by decide)) rfl
  · rw [if_neg c1]
    refine gs_icF hk_236 rfl (j_bf c1) rfl ?_
    refine gs_aload hk_236 rfl rfl rfl ?_
    refine gs_iload hk_236 rfl rfl rfl ?_
    refine gs_ald hk_236 rfl h0 (h2 (by assumption)) rfl rfl ?_
    refine gs_push (x := (-2)) hk_236 rfl (by decide) rfl ?_
    by_cases c4 : j_cond 0 (j_iv (l0.getD p1.toNatClampNeg .null)) (-2) = true
    · rw [if_pos c4]
      refine gs_icT hk_236 rfl c4 ?_
      refine gs_push (x := 0) hk_236 rfl (by decide) rfl ?_
      refine gs_goto hk_236 rfl ?_
      exact gs_iret hk_236 rfl (Or.inr (by decide)) rfl
    · rw [if_neg c4]
      refine gs_icF hk_236 rfl (j_bf c4) rfl ?_
      refine gs_push (x := 1) hk_236 rfl (by decide) rfl ?_
      refine gs_goto hk_236 rfl ?_
      exact gs_iret hk_236 rfl (Or.inr (by decide)) rfl
theorem hk_237 : jP[237]? = some (jc_237, 3, [], []) := by rfl
theorem s_M_itemOf_237 {X : List Int32} {d : Nat} {m : jM} {q0 : Nat} {p1 : Int32} {p2 : Int32} {l0 : List Value} (h0 : j_arr m q0 50 = some l0) (h1 : j_cond 2 p2 0 = true → ¬ (p1 < 0 ∨ l0.length ≤ p1.toNatClampNeg)) (h2 : j_cond 2 p2 0 = true → j_cond 1 (j_iv (l0.getD p1.toNatClampNeg .null)) (-1) = true → ¬ (p1 < 0 ∨ l0.length ≤ p1.toNatClampNeg)) (h3 : j_cond 2 p2 0 = true → ¬ (j_cond 1 (j_iv (l0.getD p1.toNatClampNeg .null)) (-1) = true) → ¬ ((p1 + 1) < 0 ∨ l0.length ≤ (p1 + 1).toNatClampNeg)) (h4 : ¬ (j_cond 2 p2 0 = true) → ¬ (((p1 + 1) + p2) < 0 ∨ l0.length ≤ ((p1 + 1) + p2).toNatClampNeg)) : j_Ev X (d) 237 [.ref (q0 + 1), .int p1, .int p2] m (.inl (some (.int (if j_cond 2 p2 0 = true then (if j_cond 1 (j_iv (l0.getD p1.toNatClampNeg .null)) (-1) = true then (j_iv (l0.getD p1.toNatClampNeg .null)) else (j_iv (l0.getD (p1 + 1).toNatClampNeg .null))) else (j_iv (l0.getD ((p1 + 1) + p2).toNatClampNeg .null))))), m) := by
  refine e_of hk_237 ?_
  refine gs_iload hk_237 rfl rfl rfl ?_
  by_cases c1 : j_cond 2 p2 0 = true
  · rw [if_pos c1]
    refine gs_ifT hk_237 rfl c1 ?_
    refine gs_aload hk_237 rfl rfl rfl ?_
    refine gs_iload hk_237 rfl rfl rfl ?_
    refine gs_ald hk_237 rfl h0 (h1 (by assumption)) rfl rfl ?_
    refine gs_push (x := (-1)) hk_237 rfl (by decide) rfl ?_
    by_cases c2 : j_cond 1 (j_iv (l0.getD p1.toNatClampNeg .null)) (-1) = true
    · rw [if_pos c2]
      refine gs_icT hk_237 rfl c2 ?_
      refine gs_aload hk_237 rfl rfl rfl ?_
      refine gs_iload hk_237 rfl rfl rfl ?_
      refine gs_ald hk_237 rfl h0 (h2 (by assumption) (by assumption)) rfl rfl ?_
      exact gs_iret hk_237 rfl (Or.inl rfl) rfl
    · rw [if_neg c2]
      refine gs_icF hk_237 rfl (j_bf c2) rfl ?_
      refine gs_aload hk_237 rfl rfl rfl ?_
      refine gs_iload hk_237 rfl rfl rfl ?_
      refine gs_push (x := 1) hk_237 rfl (by decide) rfl ?_
      refine gs_bin (z := (p1 + 1)) hk_237 rfl rfl rfl ?_
      refine gs_ald hk_237 rfl h0 (h3 (by assumption) (by assumption)) rfl rfl ?_
      refine gs_goto hk_237 rfl ?_
      exact gs_iret hk_237 rfl (Or.inl rfl) rfl
  · rw [if_neg c1]
    refine gs_ifF hk_237 rfl (j_bf c1) rfl ?_
    refine gs_aload hk_237 rfl rfl rfl ?_
    refine gs_iload hk_237 rfl rfl rfl ?_
    refine gs_push (x := 1) hk_237 rfl (by decide) rfl ?_
    refine gs_bin (z := (p1 + 1)) hk_237 rfl rfl rfl ?_
    refine gs_iload hk_237 rfl rfl rfl ?_
    refine gs_bin (z := ((p1 + 1) + p2)) hk_237 rfl rfl rfl ?_
    refine gs_ald hk_237 rfl h0 (h4 (by assumption)) rfl rfl ?_
    refine gs_goto hk_237 rfl ?_
    exact gs_iret hk_237 rfl (Or.inl rfl) rfl
theorem hk_267 : jP[267]? = some (jc_267, 1, [], []) := by rfl
theorem s_J_bitCount_267 {X : List Int32} {d : Nat} {m : jM} {p0 : Int32} : j_Ev X (d) 267 [.int p0] m (.inl (some (.int ((((((((p0 - ((((p0 : Int32).toUInt32 >>> ((1 : Int32).toUInt32 &&& Int32.toUInt32 31)).toInt32) &&& 1431655765)) &&& 858993459) + (((((p0 - ((((p0 : Int32).toUInt32 >>> ((1 : Int32).toUInt32 &&& Int32.toUInt32 31)).toInt32) &&& 1431655765)) : Int32).toUInt32 >>> ((2 : Int32).toUInt32 &&& Int32.toUInt32 31)).toInt32) &&& 858993459)) + ((((((p0 - ((((p0 : Int32).toUInt32 >>> ((1 : Int32).toUInt32 &&& Int32.toUInt32 31)).toInt32) &&& 1431655765)) &&& 858993459) + (((((p0 - ((((p0 : Int32).toUInt32 >>> ((1 : Int32).toUInt32 &&& Int32.toUInt32 31)).toInt32) &&& 1431655765)) : Int32).toUInt32 >>> ((2 : Int32).toUInt32 &&& Int32.toUInt32 31)).toInt32) &&& 858993459)) : Int32).toUInt32 >>> ((4 : Int32).toUInt32 &&& Int32.toUInt32 31)).toInt32)) &&& 252645135) + ((((((((p0 - ((((p0 : Int32).toUInt32 >>> ((1 : Int32).toUInt32 &&& Int32.toUInt32 31)).toInt32) &&& 1431655765)) &&& 858993459) + (((((p0 - ((((p0 : Int32).toUInt32 >>> ((1 : Int32).toUInt32 &&& Int32.toUInt32 31)).toInt32) &&& 1431655765)) : Int32).toUInt32 >>> ((2 : Int32).toUInt32 &&& Int32.toUInt32 31)).toInt32) &&& 858993459)) + ((((((p0 - ((((p0 : Int32).toUInt32 >>> ((1 : Int32).toUInt32 &&& Int32.toUInt32 31)).toInt32) &&& 1431655765)) &&& 858993459) + (((((p0 - ((((p0 : Int32).toUInt32 >>> ((1 : Int32).toUInt32 &&& Int32.toUInt32 31)).toInt32) &&& 1431655765)) : Int32).toUInt32 >>> ((2 : Int32).toUInt32 &&& Int32.toUInt32 31)).toInt32) &&& 858993459)) : Int32).toUInt32 >>> ((4 : Int32).toUInt32 &&& Int32.toUInt32 31)).toInt32)) &&& 252645135) : Int32).toUInt32 >>> ((8 : Int32).toUInt32 &&& Int32.toUInt32 31)).toInt32)) + (((((((((p0 - ((((p0 : Int32).toUInt32 >>> ((1 : Int32).toUInt32 &&& Int32.toUInt32 31)).toInt32) &&& 1431655765)) &&& 858993459) + (((((p0 - ((((p0 : Int32).toUInt32 >>> ((1 : Int32).toUInt32 &&& Int32.toUInt32 31)).toInt32) &&& 1431655765)) : Int32).toUInt32 >>> ((2 : Int32).toUInt32 &&& Int32.toUInt32 31)).toInt32) &&& 858993459)) + ((((((p0 - ((((p0 : Int32).toUInt32 >>> ((1 : Int32).toUInt32 &&& Int32.toUInt32 31)).toInt32) &&& 1431655765)) &&& 858993459) + (((((p0 - ((((p0 : Int32).toUInt32 >>> ((1 : Int32).toUInt32 &&& Int32.toUInt32 31)).toInt32) &&& 1431655765)) : Int32).toUInt32 >>> ((2 : Int32).toUInt32 &&& Int32.toUInt32 31)).toInt32) &&& 858993459)) : Int32).toUInt32 >>> ((4 : Int32).toUInt32 &&& Int32.toUInt32 31)).toInt32)) &&& 252645135) + ((((((((p0 - ((((p0 : Int32).toUInt32 >>> ((1 : Int32).toUInt32 &&& Int32.toUInt32 31)).toInt32) &&& 1431655765)) &&& 858993459) + (((((p0 - ((((p0 : Int32).toUInt32 >>> ((1 : Int32).toUInt32 &&& Int32.toUInt32 31)).toInt32) &&& 1431655765)) : Int32).toUInt32 >>> ((2 : Int32).toUInt32 &&& Int32.toUInt32 31)).toInt32) &&& 858993459)) + ((((((p0 - ((((p0 : Int32).toUInt32 >>> ((1 : Int32).toUInt32 &&& Int32.toUInt32 31)).toInt32) &&& 1431655765)) &&& 858993459) + (((((p0 - ((((p0 : Int32).toUInt32 >>> ((1 : Int32).toUInt32 &&& Int32.toUInt32 31)).toInt32) &&& 1431655765)) : Int32).toUInt32 >>> ((2 : Int32).toUInt32 &&& Int32.toUInt32 31)).toInt32) &&& 858993459)) : Int32).toUInt32 >>> ((4 : Int32).toUInt32 &&& Int32.toUInt32 31)).toInt32)) &&& 252645135) : Int32).toUInt32 >>> ((8 : Int32).toUInt32 &&& Int32.toUInt32 31)).toInt32)) : Int32).toUInt32 >>> ((16 : Int32).toUInt32 &&& Int32.toUInt32 31)).toInt32)) &&& 63))), m) := by
  refine e_of hk_267 ?_
  refine gs_iload hk_267 rfl rfl rfl ?_
  refine gs_iload hk_267 rfl rfl rfl ?_
  refine gs_push (x := 1) hk_267 rfl (by decide) rfl ?_
  refine gs_bin (z := (((p0 : Int32).toUInt32 >>> ((1 : Int32).toUInt32 &&& Int32.toUInt32 31)).toInt32)) hk_267 rfl rfl rfl ?_
  refine gs_push (x := 1431655765) hk_267 rfl (by decide) rfl ?_
  refine gs_bin (z := ((((p0 : Int32).toUInt32 >>> ((1 : Int32).toUInt32 &&& Int32.toUInt32 31)).toInt32) &&& 1431655765)) hk_267 rfl rfl rfl ?_
  refine gs_bin (z := (p0 - ((((p0 : Int32).toUInt32 >>> ((1 : Int32).toUInt32 &&& Int32.toUInt32 31)).toInt32) &&& 1431655765))) hk_267 rfl rfl rfl ?_
  refine gs_istore hk_267 rfl (Nat.le_of_ble_eq_true rfl) rfl rfl ?_
  refine gs_iload hk_267 rfl rfl rfl ?_
  refine gs_push (x := 858993459) hk_267 rfl (by decide) rfl ?_
  refine gs_bin (z := ((p0 - ((((p0 : Int32).toUInt32 >>> ((1 : Int32).toUInt32 &&& Int32.toUInt32 31)).toInt32) &&& 1431655765)) &&& 858993459)) hk_267 rfl rfl rfl ?_
  refine gs_iload hk_267 rfl rfl rfl ?_
  refine gs_push (x := 2) hk_267 rfl (by decide) rfl ?_
  refine gs_bin (z := ((((p0 - ((((p0 : Int32).toUInt32 >>> ((1 : Int32).toUInt32 &&& Int32.toUInt32 31)).toInt32) &&& 1431655765)) : Int32).toUInt32 >>> ((2 : Int32).toUInt32 &&& Int32.toUInt32 31)).toInt32)) hk_267 rfl rfl rfl ?_
  refine gs_push (x := 858993459) hk_267 rfl (by decide) rfl ?_
  refine gs_bin (z := (((((p0 - ((((p0 : Int32).toUInt32 >>> ((1 : Int32).toUInt32 &&& Int32.toUInt32 31)).toInt32) &&& 1431655765)) : Int32).toUInt32 >>> ((2 : Int32).toUInt32 &&& Int32.toUInt32 31)).toInt32) &&& 858993459)) hk_267 rfl rfl rfl ?_
  refine gs_bin (z := (((p0 - ((((p0 : Int32).toUInt32 >>> ((1 : Int32).toUInt32 &&& Int32.toUInt32 31)).toInt32) &&& 1431655765)) &&& 858993459) + (((((p0 - ((((p0 : Int32).toUInt32 >>> ((1 : Int32).toUInt32 &&& Int32.toUInt32 31)).toInt32) &&& 1431655765)) : Int32).toUInt32 >>> ((2 : Int32).toUInt32 &&& Int32.toUInt32 31)).toInt32) &&& 858993459))) hk_267 rfl rfl rfl ?_
  refine gs_istore hk_267 rfl (Nat.le_of_ble_eq_true rfl) rfl rfl ?_
  refine gs_iload hk_267 rfl rfl rfl ?_
  refine gs_iload hk_267 rfl rfl rfl ?_
  refine gs_push (x := 4) hk_267 rfl (by decide) rfl ?_
  refine gs_bin (z := ((((((p0 - ((((p0 : Int32).toUInt32 >>> ((1 : Int32).toUInt32 &&& Int32.toUInt32 31)).toInt32) &&& 1431655765)) &&& 858993459) + (((((p0 - ((((p0 : Int32).toUInt32 >>> ((1 : Int32).toUInt32 &&& Int32.toUInt32 31)).toInt32) &&& 1431655765)) : Int32).toUInt32 >>> ((2 : Int32).toUInt32 &&& Int32.toUInt32 31)).toInt32) &&& 858993459)) : Int32).toUInt32 >>> ((4 : Int32).toUInt32 &&& Int32.toUInt32 31)).toInt32)) hk_267 rfl rfl rfl ?_
  refine gs_bin (z := ((((p0 - ((((p0 : Int32).toUInt32 >>> ((1 : Int32).toUInt32 &&& Int32.toUInt32 31)).toInt32) &&& 1431655765)) &&& 858993459) + (((((p0 - ((((p0 : Int32).toUInt32 >>> ((1 : Int32).toUInt32 &&& Int32.toUInt32 31)).toInt32) &&& 1431655765)) : Int32).toUInt32 >>> ((2 : Int32).toUInt32 &&& Int32.toUInt32 31)).toInt32) &&& 858993459)) + ((((((p0 - ((((p0 : Int32).toUInt32 >>> ((1 : Int32).toUInt32 &&& Int32.toUInt32 31)).toInt32) &&& 1431655765)) &&& 858993459) + (((((p0 - ((((p0 : Int32).toUInt32 >>> ((1 : Int32).toUInt32 &&& Int32.toUInt32 31)).toInt32) &&& 1431655765)) : Int32).toUInt32 >>> ((2 : Int32).toUInt32 &&& Int32.toUInt32 31)).toInt32) &&& 858993459)) : Int32).toUInt32 >>> ((4 : Int32).toUInt32 &&& Int32.toUInt32 31)).toInt32))) hk_267 rfl rfl rfl ?_
  refine gs_push (x := 252645135) hk_267 rfl (by decide) rfl ?_
  refine gs_bin (z := (((((p0 - ((((p0 : Int32).toUInt32 >>> ((1 : Int32).toUInt32 &&& Int32.toUInt32 31)).toInt32) &&& 1431655765)) &&& 858993459) + (((((p0 - ((((p0 : Int32).toUInt32 >>> ((1 : Int32).toUInt32 &&& Int32.toUInt32 31)).toInt32) &&& 1431655765)) : Int32).toUInt32 >>> ((2 : Int32).toUInt32 &&& Int32.toUInt32 31)).toInt32) &&& 858993459)) + ((((((p0 - ((((p0 : Int32).toUInt32 >>> ((1 : Int32).toUInt32 &&& Int32.toUInt32 31)).toInt32) &&& 1431655765)) &&& 858993459) + (((((p0 - ((((p0 : Int32).toUInt32 >>> ((1 : Int32).toUInt32 &&& Int32.toUInt32 31)).toInt32) &&& 1431655765)) : Int32).toUInt32 >>> ((2 : Int32).toUInt32 &&& Int32.toUInt32 31)).toInt32) &&& 858993459)) : Int32).toUInt32 >>> ((4 : Int32).toUInt32 &&& Int32.toUInt32 31)).toInt32)) &&& 252645135)) hk_267 rfl rfl rfl ?_
  refine gs_istore hk_267 rfl (Nat.le_of_ble_eq_true rfl) rfl rfl ?_
  refine gs_iload hk_267 rfl rfl rfl ?_
  refine gs_iload hk_267 rfl rfl rfl ?_
  refine gs_push (x := 8) hk_267 rfl (by decide) rfl ?_
  refine gs_bin (z := ((((((((p0 - ((((p0 : Int32).toUInt32 >>> ((1 : Int32).toUInt32 &&& Int32.toUInt32 31)).toInt32) &&& 1431655765)) &&& 858993459) + (((((p0 - ((((p0 : Int32).toUInt32 >>> ((1 : Int32).toUInt32 &&& Int32.toUInt32 31)).toInt32) &&& 1431655765)) : Int32).toUInt32 >>> ((2 : Int32).toUInt32 &&& Int32.toUInt32 31)).toInt32) &&& 858993459)) + ((((((p0 - ((((p0 : Int32).toUInt32 >>> ((1 : Int32).toUInt32 &&& Int32.toUInt32 31)).toInt32) &&& 1431655765)) &&& 858993459) + (((((p0 - ((((p0 : Int32).toUInt32 >>> ((1 : Int32).toUInt32 &&& Int32.toUInt32 31)).toInt32) &&& 1431655765)) : Int32).toUInt32 >>> ((2 : Int32).toUInt32 &&& Int32.toUInt32 31)).toInt32) &&& 858993459)) : Int32).toUInt32 >>> ((4 : Int32).toUInt32 &&& Int32.toUInt32 31)).toInt32)) &&& 252645135) : Int32).toUInt32 >>> ((8 : Int32).toUInt32 &&& Int32.toUInt32 31)).toInt32)) hk_267 rfl rfl rfl ?_
  refine gs_bin (z := ((((((p0 - ((((p0 : Int32).toUInt32 >>> ((1 : Int32).toUInt32 &&& Int32.toUInt32 31)).toInt32) &&& 1431655765)) &&& 858993459) + (((((p0 - ((((p0 : Int32).toUInt32 >>> ((1 : Int32).toUInt32 &&& Int32.toUInt32 31)).toInt32) &&& 1431655765)) : Int32).toUInt32 >>> ((2 : Int32).toUInt32 &&& Int32.toUInt32 31)).toInt32) &&& 858993459)) + ((((((p0 - ((((p0 : Int32).toUInt32 >>> ((1 : Int32).toUInt32 &&& Int32.toUInt32 31)).toInt32) &&& 1431655765)) &&& 858993459) + (((((p0 - ((((p0 : Int32).toUInt32 >>> ((1 : Int32).toUInt32 &&& Int32.toUInt32 31)).toInt32) &&& 1431655765)) : Int32).toUInt32 >>> ((2 : Int32).toUInt32 &&& Int32.toUInt32 31)).toInt32) &&& 858993459)) : Int32).toUInt32 >>> ((4 : Int32).toUInt32 &&& Int32.toUInt32 31)).toInt32)) &&& 252645135) + ((((((((p0 - ((((p0 : Int32).toUInt32 >>> ((1 : Int32).toUInt32 &&& Int32.toUInt32 31)).toInt32) &&& 1431655765)) &&& 858993459) + (((((p0 - ((((p0 : Int32).toUInt32 >>> ((1 : Int32).toUInt32 &&& Int32.toUInt32 31)).toInt32) &&& 1431655765)) : Int32).toUInt32 >>> ((2 : Int32).toUInt32 &&& Int32.toUInt32 31)).toInt32) &&& 858993459)) + ((((((p0 - ((((p0 : Int32).toUInt32 >>> ((1 : Int32).toUInt32 &&& Int32.toUInt32 31)).toInt32) &&& 1431655765)) &&& 858993459) + (((((p0 - ((((p0 : Int32).toUInt32 >>> ((1 : Int32).toUInt32 &&& Int32.toUInt32 31)).toInt32) &&& 1431655765)) : Int32).toUInt32 >>> ((2 : Int32).toUInt32 &&& Int32.toUInt32 31)).toInt32) &&& 858993459)) : Int32).toUInt32 >>> ((4 : Int32).toUInt32 &&& Int32.toUInt32 31)).toInt32)) &&& 252645135) : Int32).toUInt32 >>> ((8 : Int32).toUInt32 &&& Int32.toUInt32 31)).toInt32))) hk_267 rfl rfl rfl ?_
  refine gs_istore hk_267 rfl (Nat.le_of_ble_eq_true rfl) rfl rfl ?_
  refine gs_iload hk_267 rfl rfl rfl ?_
  refine gs_iload hk_267 rfl rfl rfl ?_
  refine gs_push (x := 16) hk_267 rfl (by decide) rfl ?_
  refine gs_bin (z := (((((((((p0 - ((((p0 : Int32).toUInt32 >>> ((1 : Int32).toUInt32 &&& Int32.toUInt32 31)).toInt32) &&& 1431655765)) &&& 858993459) + (((((p0 - ((((p0 : Int32).toUInt32 >>> ((1 : Int32).toUInt32 &&& Int32.toUInt32 31)).toInt32) &&& 1431655765)) : Int32).toUInt32 >>> ((2 : Int32).toUInt32 &&& Int32.toUInt32 31)).toInt32) &&& 858993459)) + ((((((p0 - ((((p0 : Int32).toUInt32 >>> ((1 : Int32).toUInt32 &&& Int32.toUInt32 31)).toInt32) &&& 1431655765)) &&& 858993459) + (((((p0 - ((((p0 : Int32).toUInt32 >>> ((1 : Int32).toUInt32 &&& Int32.toUInt32 31)).toInt32) &&& 1431655765)) : Int32).toUInt32 >>> ((2 : Int32).toUInt32 &&& Int32.toUInt32 31)).toInt32) &&& 858993459)) : Int32).toUInt32 >>> ((4 : Int32).toUInt32 &&& Int32.toUInt32 31)).toInt32)) &&& 252645135) + ((((((((p0 - ((((p0 : Int32).toUInt32 >>> ((1 : Int32).toUInt32 &&& Int32.toUInt32 31)).toInt32) &&& 1431655765)) &&& 858993459) + (((((p0 - ((((p0 : Int32).toUInt32 >>> ((1 : Int32).toUInt32 &&& Int32.toUInt32 31)).toInt32) &&& 1431655765)) : Int32).toUInt32 >>> ((2 : Int32).toUInt32 &&& Int32.toUInt32 31)).toInt32) &&& 858993459)) + ((((((p0 - ((((p0 : Int32).toUInt32 >>> ((1 : Int32).toUInt32 &&& Int32.toUInt32 31)).toInt32) &&& 1431655765)) &&& 858993459) + (((((p0 - ((((p0 : Int32).toUInt32 >>> ((1 : Int32).toUInt32 &&& Int32.toUInt32 31)).toInt32) &&& 1431655765)) : Int32).toUInt32 >>> ((2 : Int32).toUInt32 &&& Int32.toUInt32 31)).toInt32) &&& 858993459)) : Int32).toUInt32 >>> ((4 : Int32).toUInt32 &&& Int32.toUInt32 31)).toInt32)) &&& 252645135) : Int32).toUInt32 >>> ((8 : Int32).toUInt32 &&& Int32.toUInt32 31)).toInt32)) : Int32).toUInt32 >>> ((16 : Int32).toUInt32 &&& Int32.toUInt32 31)).toInt32)) hk_267 rfl rfl rfl ?_
  refine gs_bin (z := (((((((p0 - ((((p0 : Int32).toUInt32 >>> ((1 : Int32).toUInt32 &&& Int32.toUInt32 31)).toInt32) &&& 1431655765)) &&& 858993459) + (((((p0 - ((((p0 : Int32).toUInt32 >>> ((1 : Int32).toUInt32 &&& Int32.toUInt32 31)).toInt32) &&& 1431655765)) : Int32).toUInt32 >>> ((2 : Int32).toUInt32 &&& Int32.toUInt32 31)).toInt32) &&& 858993459)) + ((((((p0 - ((((p0 : Int32).toUInt32 >>> ((1 : Int32).toUInt32 &&& Int32.toUInt32 31)).toInt32) &&& 1431655765)) &&& 858993459) + (((((p0 - ((((p0 : Int32).toUInt32 >>> ((1 : Int32).toUInt32 &&& Int32.toUInt32 31)).toInt32) &&& 1431655765)) : Int32).toUInt32 >>> ((2 : Int32).toUInt32 &&& Int32.toUInt32 31)).toInt32) &&& 858993459)) : Int32).toUInt32 >>> ((4 : Int32).toUInt32 &&& Int32.toUInt32 31)).toInt32)) &&& 252645135) + ((((((((p0 - ((((p0 : Int32).toUInt32 >>> ((1 : Int32).toUInt32 &&& Int32.toUInt32 31)).toInt32) &&& 1431655765)) &&& 858993459) + (((((p0 - ((((p0 : Int32).toUInt32 >>> ((1 : Int32).toUInt32 &&& Int32.toUInt32 31)).toInt32) &&& 1431655765)) : Int32).toUInt32 >>> ((2 : Int32).toUInt32 &&& Int32.toUInt32 31)).toInt32) &&& 858993459)) + ((((((p0 - ((((p0 : Int32).toUInt32 >>> ((1 : Int32).toUInt32 &&& Int32.toUInt32 31)).toInt32) &&& 1431655765)) &&& 858993459) + (((((p0 - ((((p0 : Int32).toUInt32 >>> ((1 : Int32).toUInt32 &&& Int32.toUInt32 31)).toInt32) &&& 1431655765)) : Int32).toUInt32 >>> ((2 : Int32).toUInt32 &&& Int32.toUInt32 31)).toInt32) &&& 858993459)) : Int32).toUInt32 >>> ((4 : Int32).toUInt32 &&& Int32.toUInt32 31)).toInt32)) &&& 252645135) : Int32).toUInt32 >>> ((8 : Int32).toUInt32 &&& Int32.toUInt32 31)).toInt32)) + (((((((((p0 - ((((p0 : Int32).toUInt32 >>> ((1 : Int32).toUInt32 &&& Int32.toUInt32 31)).toInt32) &&& 1431655765)) &&& 858993459) + (((((p0 - ((((p0 : Int32).toUInt32 >>> ((1 : Int32).toUInt32 &&& Int32.toUInt32 31)).toInt32) &&& 1431655765)) : Int32).toUInt32 >>> ((2 : Int32).toUInt32 &&& Int32.toUInt32 31)).toInt32) &&& 858993459)) + ((((((p0 - ((((p0 : Int32).toUInt32 >>> ((1 : Int32).toUInt32 &&& Int32.toUInt32 31)).toInt32) &&& 1431655765)) &&& 858993459) + (((((p0 - ((((p0 : Int32).toUInt32 >>> ((1 : Int32).toUInt32 &&& Int32.toUInt32 31)).toInt32) &&& 1431655765)) : Int32).toUInt32 >>> ((2 : Int32).toUInt32 &&& Int32.toUInt32 31)).toInt32) &&& 858993459)) : Int32).toUInt32 >>> ((4 : Int32).toUInt32 &&& Int32.toUInt32 31)).toInt32)) &&& 252645135) + ((((((((p0 - ((((p0 : Int32).toUInt32 >>> ((1 : Int32).toUInt32 &&& Int32.toUInt32 31)).toInt32) &&& 1431655765)) &&& 858993459) + (((((p0 - ((((p0 : Int32).toUInt32 >>> ((1 : Int32).toUInt32 &&& Int32.toUInt32 31)).toInt32) &&& 1431655765)) : Int32).toUInt32 >>> ((2 : Int32).toUInt32 &&& Int32.toUInt32 31)).toInt32) &&& 858993459)) + ((((((p0 - ((((p0 : Int32).toUInt32 >>> ((1 : Int32).toUInt32 &&& Int32.toUInt32 31)).toInt32) &&& 1431655765)) &&& 858993459) + (((((p0 - ((((p0 : Int32).toUInt32 >>> ((1 : Int32).toUInt32 &&& Int32.toUInt32 31)).toInt32) &&& 1431655765)) : Int32).toUInt32 >>> ((2 : Int32).toUInt32 &&& Int32.toUInt32 31)).toInt32) &&& 858993459)) : Int32).toUInt32 >>> ((4 : Int32).toUInt32 &&& Int32.toUInt32 31)).toInt32)) &&& 252645135) : Int32).toUInt32 >>> ((8 : Int32).toUInt32 &&& Int32.toUInt32 31)).toInt32)) : Int32).toUInt32 >>> ((16 : Int32).toUInt32 &&& Int32.toUInt32 31)).toInt32))) hk_267 rfl rfl rfl ?_
  refine gs_istore hk_267 rfl (Nat.le_of_ble_eq_true rfl) rfl rfl ?_
  refine gs_iload hk_267 rfl rfl rfl ?_
  refine gs_push (x := 63) hk_267 rfl (by decide) rfl ?_
  refine gs_bin (z := ((((((((p0 - ((((p0 : Int32).toUInt32 >>> ((1 : Int32).toUInt32 &&& Int32.toUInt32 31)).toInt32) &&& 1431655765)) &&& 858993459) + (((((p0 - ((((p0 : Int32).toUInt32 >>> ((1 : Int32).toUInt32 &&& Int32.toUInt32 31)).toInt32) &&& 1431655765)) : Int32).toUInt32 >>> ((2 : Int32).toUInt32 &&& Int32.toUInt32 31)).toInt32) &&& 858993459)) + ((((((p0 - ((((p0 : Int32).toUInt32 >>> ((1 : Int32).toUInt32 &&& Int32.toUInt32 31)).toInt32) &&& 1431655765)) &&& 858993459) + (((((p0 - ((((p0 : Int32).toUInt32 >>> ((1 : Int32).toUInt32 &&& Int32.toUInt32 31)).toInt32) &&& 1431655765)) : Int32).toUInt32 >>> ((2 : Int32).toUInt32 &&& Int32.toUInt32 31)).toInt32) &&& 858993459)) : Int32).toUInt32 >>> ((4 : Int32).toUInt32 &&& Int32.toUInt32 31)).toInt32)) &&& 252645135) + ((((((((p0 - ((((p0 : Int32).toUInt32 >>> ((1 : Int32).toUInt32 &&& Int32.toUInt32 31)).toInt32) &&& 1431655765)) &&& 858993459) + (((((p0 - ((((p0 : Int32).toUInt32 >>> ((1 : Int32).toUInt32 &&& Int32.toUInt32 31)).toInt32) &&& 1431655765)) : Int32).toUInt32 >>> ((2 : Int32).toUInt32 &&& Int32.toUInt32 31)).toInt32) &&& 858993459)) + ((((((p0 - ((((p0 : Int32).toUInt32 >>> ((1 : Int32).toUInt32 &&& Int32.toUInt32 31)).toInt32) &&& 1431655765)) &&& 858993459) + (((((p0 - ((((p0 : Int32).toUInt32 >>> ((1 : Int32).toUInt32 &&& Int32.toUInt32 31)).toInt32) &&& 1431655765)) : Int32).toUInt32 >>> ((2 : Int32).toUInt32 &&& Int32.toUInt32 31)).toInt32) &&& 858993459)) : Int32).toUInt32 >>> ((4 : Int32).toUInt32 &&& Int32.toUInt32 31)).toInt32)) &&& 252645135) : Int32).toUInt32 >>> ((8 : Int32).toUInt32 &&& Int32.toUInt32 31)).toInt32)) + (((((((((p0 - ((((p0 : Int32).toUInt32 >>> ((1 : Int32).toUInt32 &&& Int32.toUInt32 31)).toInt32) &&& 1431655765)) &&& 858993459) + (((((p0 - ((((p0 : Int32).toUInt32 >>> ((1 : Int32).toUInt32 &&& Int32.toUInt32 31)).toInt32) &&& 1431655765)) : Int32).toUInt32 >>> ((2 : Int32).toUInt32 &&& Int32.toUInt32 31)).toInt32) &&& 858993459)) + ((((((p0 - ((((p0 : Int32).toUInt32 >>> ((1 : Int32).toUInt32 &&& Int32.toUInt32 31)).toInt32) &&& 1431655765)) &&& 858993459) + (((((p0 - ((((p0 : Int32).toUInt32 >>> ((1 : Int32).toUInt32 &&& Int32.toUInt32 31)).toInt32) &&& 1431655765)) : Int32).toUInt32 >>> ((2 : Int32).toUInt32 &&& Int32.toUInt32 31)).toInt32) &&& 858993459)) : Int32).toUInt32 >>> ((4 : Int32).toUInt32 &&& Int32.toUInt32 31)).toInt32)) &&& 252645135) + ((((((((p0 - ((((p0 : Int32).toUInt32 >>> ((1 : Int32).toUInt32 &&& Int32.toUInt32 31)).toInt32) &&& 1431655765)) &&& 858993459) + (((((p0 - ((((p0 : Int32).toUInt32 >>> ((1 : Int32).toUInt32 &&& Int32.toUInt32 31)).toInt32) &&& 1431655765)) : Int32).toUInt32 >>> ((2 : Int32).toUInt32 &&& Int32.toUInt32 31)).toInt32) &&& 858993459)) + ((((((p0 - ((((p0 : Int32).toUInt32 >>> ((1 : Int32).toUInt32 &&& Int32.toUInt32 31)).toInt32) &&& 1431655765)) &&& 858993459) + (((((p0 - ((((p0 : Int32).toUInt32 >>> ((1 : Int32).toUInt32 &&& Int32.toUInt32 31)).toInt32) &&& 1431655765)) : Int32).toUInt32 >>> ((2 : Int32).toUInt32 &&& Int32.toUInt32 31)).toInt32) &&& 858993459)) : Int32).toUInt32 >>> ((4 : Int32).toUInt32 &&& Int32.toUInt32 31)).toInt32)) &&& 252645135) : Int32).toUInt32 >>> ((8 : Int32).toUInt32 &&& Int32.toUInt32 31)).toInt32)) : Int32).toUInt32 >>> ((16 : Int32).toUInt32 &&& Int32.toUInt32 31)).toInt32)) &&& 63)) hk_267 rfl rfl rfl ?_
  exact gs_iret hk_267 rfl (Or.inl rfl) rfl
