/-! ===== loops: counters, a rule of repetition, the first leaves ===== -/
theorem n_toInt {n : Nat} (h : n < 2147483648) : (Int32.ofNat n).toInt = n := Int32.toInt_ofNat_of_lt h
theorem n_lt {i n : Nat} (hi : i < 2147483648) (hn : n < 2147483648) : Int32.ofNat i < Int32.ofNat n ↔ i < n := by
  rw [Int32.lt_iff_toInt_lt, n_toInt hi, n_toInt hn]; omega
theorem n_clamp {n : Nat} (h : n < 2147483648) : (Int32.ofNat n).toNatClampNeg = n := by
  show (Int32.ofNat n).toInt.toNat = n
  rw [n_toInt h]; rfl
theorem n_succ (n : Nat) : Int32.ofNat n + 1 = Int32.ofNat (n + 1) := by
  rw [Int32.ofNat_add]; rfl
theorem n_add (n k : Nat) : Int32.ofNat n + Int32.ofNat k = Int32.ofNat (n + k) := (Int32.ofNat_add n k).symm
theorem n_c3T {i n : Nat} (hi : i < 2147483648) (hn : n < 2147483648) (h : n ≤ i) : j_cond 3 (Int32.ofNat i) (Int32.ofNat n) = true := by
  simp only [j_cond, n_lt hi hn, Bool.not_eq_true', decide_eq_false_iff_not]; omega
theorem n_c3F {i n : Nat} (hi : i < 2147483648) (hn : n < 2147483648) (h : i < n) : j_cond 3 (Int32.ofNat i) (Int32.ofNat n) = false := by
  simp only [j_cond, n_lt hi hn, h, decide_true, Bool.not_true]
theorem n_ix {i n : Nat} (hi : i < 2147483648) (h : i < n) : ¬ (Int32.ofNat i < 0 ∨ n ≤ (Int32.ofNat i).toNatClampNeg) := by
  rw [n_clamp hi]
  rintro (h1 | h1)
  · have : Int32.ofNat i < Int32.ofNat 0 := h1
    rw [n_lt hi (by decide)] at this; omega
  · omega
theorem g_rep {X : List Int32} {d k : Nat} {o : jO} {n : Nat} {st : Nat → jF} {mm : Nat → jM} (h : ∀ j, j < n → j_Go X d k (st (j + 1)) (mm (j + 1)) o → j_Go X d k (st j) (mm j) o) (he : j_Go X d k (st n) (mm n) o) : j_Go X d k (st 0) (mm 0) o := by
  induction n with
  | zero => exact he
  | succ n ih => exact ih (fun j hj => h j (Nat.lt_succ_of_lt hj)) (h n (Nat.lt_succ_self n) he)
/-- a text of the class: its signs -/
def s_txt (m : jM) (r : Nat) (T : List Int32) : Prop := ∃ q vs, j_fld m r 7 0 = some (.ref (q + 1)) ∧ j_arr m q 51 = some vs ∧ j_fld m r 7 1 = some (.int (Int32.ofNat T.length)) ∧ T.length ≤ vs.length ∧ vs.length < 2147483648 ∧ ∀ j, j < T.length → j_iv (vs.getD j .null) = T.getD j 0
theorem hk_59 : jP[59]? = some (jc_59, 3, [], []) := by rfl
theorem t_has_59 {X : List Int32} {d : Nat} {m : jM} {r : Nat} {T : List Int32} {x : Int32} (hT : s_txt m r T) : j_Ev X d 59 [.ref (r + 1), .int x] m (.inl (some (.int (if x ∈ T then 1 else 0))), m) := by
  obtain ⟨q, vs, h0, h1, h2, h3, h4, h5⟩ := hT
  refine e_of hk_59 ?_
  refine gs_push (x := 0) hk_59 rfl (by decide) rfl ?_
  refine gs_istore hk_59 rfl (Nat.le_of_ble_eq_true rfl) rfl rfl ?_
  have hq : T.findIdx (· == x) ≤ T.length := List.findIdx_le_length
  generalize hz : T.findIdx (· == x) = z at hq
  refine g_rep (n := z) (st := fun j => (2, [.ref (r + 1), .int x, .int (Int32.ofNat j)], [])) (mm := fun _ => m) ?_ ?_
  · intro j hj hn
    have hj2 : j < T.length := Nat.lt_of_lt_of_le hj hq
    have hjb : j < 2147483648 := by omega
    refine gs_iload hk_59 rfl rfl rfl ?_
    refine gs_aload hk_59 rfl rfl rfl ?_
    refine gs_get hk_59 rfl h2 rfl ?_
    refine gs_icF hk_59 rfl (n_c3F hjb (by omega) hj2) rfl ?_
    refine gs_aload hk_59 rfl rfl rfl ?_
    refine gs_get hk_59 rfl h0 rfl ?_
    refine gs_iload hk_59 rfl rfl rfl ?_
    refine gs_ald (y := T.getD j 0) hk_59 rfl h1 (n_ix hjb (by omega)) (by rw [n_clamp hjb]; exact h5 j hj2) rfl ?_
    refine gs_iload hk_59 rfl rfl rfl ?_
    have hne : ¬ T.getD j 0 = x := by
      have := List.not_of_lt_findIdx (p := (· == x)) (xs := T) (i := j) (by rw [hz]; exact hj)
      simpa [hj2] using this
    refine gs_icT hk_59 rfl (by simp only [j_cond, hne, decide_false, Bool.not_false]) ?_
    refine gs_iinc (y := Int32.ofNat (j + 1)) hk_59 rfl rfl (n_succ j) rfl rfl ?_
    exact gs_goto hk_59 rfl hn
  · have hzb : z < 2147483648 := by omega
    refine gs_iload hk_59 rfl rfl rfl ?_
    refine gs_aload hk_59 rfl rfl rfl ?_
    refine gs_get hk_59 rfl h2 rfl ?_
    by_cases hl : z < T.length
    · have hx : T.getD z 0 = x := by
        have := List.findIdx_getElem (p := (· == x)) (xs := T) (w := by rw [hz]; exact hl)
        simp only [hz] at this
        simpa [hl] using this
      have hm : x ∈ T := by
        have := List.getElem_mem hl
        rw [List.getD_eq_getElem?_getD, List.getElem?_eq_getElem hl] at hx
        exact hx ▸ this
      rw [if_pos hm]
      refine gs_icF hk_59 rfl (n_c3F hzb (by omega) hl) rfl ?_
      refine gs_aload hk_59 rfl rfl rfl ?_
      refine gs_get hk_59 rfl h0 rfl ?_
      refine gs_iload hk_59 rfl rfl rfl ?_
      refine gs_ald (y := T.getD z 0) hk_59 rfl h1 (n_ix hzb (by omega)) (by rw [n_clamp hzb]; exact h5 z hl) rfl ?_
      refine gs_iload hk_59 rfl rfl rfl ?_
      refine gs_icF hk_59 rfl (by simp only [j_cond, hx, decide_true, Bool.not_true]) rfl ?_
      refine gs_push (x := 1) hk_59 rfl (by decide) rfl ?_
      exact gs_iret hk_59 rfl (Or.inr (by decide)) rfl
    · have hm : x ∉ T := by
        intro hm
        have := List.findIdx_lt_length_of_exists (p := (· == x)) (xs := T) ⟨x, hm, by simp⟩
        omega
      rw [if_neg hm]
      refine gs_icT hk_59 rfl (n_c3T hzb (by omega) (by omega)) ?_
      refine gs_push (x := 0) hk_59 rfl (by decide) rfl ?_
      exact gs_iret hk_59 rfl (Or.inr (by decide)) rfl
