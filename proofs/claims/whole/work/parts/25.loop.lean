/-! ===== more leaves with loops (printed by wip/whole/gen25.py) ===== -/
theorem hk_60 : jP[60]? = some (jc_60, 3, [], []) := by rfl
theorem t_isSame_60 {X : List Int32} {d : Nat} {m : jM} {r w : Nat} {A B : List Int32} (hA : s_txt m r A) (hB : s_txt m w B) : j_Ev X d 60 [.ref (r + 1), .ref (w + 1)] m (.inl (some (.int (if A = B then 1 else 0))), m) := by
  obtain ⟨qa, va, a0, a1, a2, a3, a4, a5⟩ := hA
  obtain ⟨qb, vb, b0, b1, b2, b3, b4, b5⟩ := hB
  refine e_of hk_60 ?_
  by_cases hl : A.length = B.length
  · have hs : j_cond 0 (Int32.ofNat A.length) (Int32.ofNat B.length) = true := by rw [hl]; simp only [j_cond, decide_true]
    refine gs_aload hk_60 rfl rfl rfl ?_
    refine gs_get hk_60 rfl a2 rfl ?_
    refine gs_aload hk_60 rfl rfl rfl ?_
    refine gs_get hk_60 rfl b2 rfl ?_
    refine gs_icT hk_60 rfl (hs) ?_
    refine gs_push (x := 0) hk_60 rfl (by decide) rfl ?_
    refine gs_istore hk_60 rfl (Nat.le_of_ble_eq_true rfl) rfl rfl ?_
    have hb0 : B.length = A.length := hl.symm
    have hq : (A.zip B).findIdx (fun u => !(u.1 == u.2)) ≤ A.length := by
      have := List.findIdx_le_length (p := fun u : Int32 × Int32 => !(u.1 == u.2)) (xs := A.zip B)
      rw [List.length_zip] at this; omega
    generalize hz : (A.zip B).findIdx (fun u => !(u.1 == u.2)) = z at hq
    have hzl : (A.zip B).length = A.length := by rw [List.length_zip]; omega
    have heq : ∀ j, j < z → A.getD j 0 = B.getD j 0 := by
      intro j hj
      have hj2 : j < (A.zip B).length := by omega
      have := List.not_of_lt_findIdx (p := fun u : Int32 × Int32 => !(u.1 == u.2)) (xs := A.zip B) (i := j) (by rw [hz]; exact hj)
      have ha : j < A.length := by omega
      have hb : j < B.length := by omega
      simpa [ha, hb] using this
    refine g_rep (n := z) (st := fun j => (9, [.ref (r + 1), .ref (w + 1), .int (Int32.ofNat j)], [])) (mm := fun _ => m) ?_ ?_
    · intro j hj hn
      have hjA : j < A.length := by omega
      have hjb : j < 2147483648 := by omega
      have he := heq j hj
      refine gs_iload hk_60 rfl rfl rfl ?_
      refine gs_aload hk_60 rfl rfl rfl ?_
      refine gs_get hk_60 rfl a2 rfl ?_
      refine gs_icF hk_60 rfl (n_c3F hjb (by omega) hjA) rfl ?_
      refine gs_aload hk_60 rfl rfl rfl ?_
      refine gs_get hk_60 rfl a0 rfl ?_
      refine gs_iload hk_60 rfl rfl rfl ?_
      refine gs_ald (y := A.getD j 0) hk_60 rfl a1 (n_ix hjb (by omega)) (by rw [n_clamp hjb]; exact a5 j hjA) rfl ?_
      refine gs_aload hk_60 rfl rfl rfl ?_
      refine gs_get hk_60 rfl b0 rfl ?_
      refine gs_iload hk_60 rfl rfl rfl ?_
      refine gs_ald (y := B.getD j 0) hk_60 rfl b1 (n_ix hjb (by omega)) (by rw [n_clamp hjb]; exact b5 j (by omega)) rfl ?_
      refine gs_icT hk_60 rfl (by simp only [j_cond, he, decide_true]) ?_
      refine gs_iinc (y := (Int32.ofNat (j + 1))) hk_60 rfl rfl (n_succ j) rfl rfl ?_
      exact gs_goto hk_60 rfl (hn)
    · have hzb : z < 2147483648 := by omega
      by_cases hc : z < A.length
      · have hne : ¬ A.getD z 0 = B.getD z 0 := by
          have := List.findIdx_getElem (p := fun u : Int32 × Int32 => !(u.1 == u.2)) (xs := A.zip B) (w := by rw [hz, hzl]; exact hc)
          simp only [hz] at this
          have hb : z < B.length := by omega
          simpa [hc, hb] using this
        rw [if_neg (fun h => hne (by rw [h]))]
        refine gs_iload hk_60 rfl rfl rfl ?_
        refine gs_aload hk_60 rfl rfl rfl ?_
        refine gs_get hk_60 rfl a2 rfl ?_
        refine gs_icF hk_60 rfl (n_c3F hzb (by omega) hc) rfl ?_
        refine gs_aload hk_60 rfl rfl rfl ?_
        refine gs_get hk_60 rfl a0 rfl ?_
        refine gs_iload hk_60 rfl rfl rfl ?_
        refine gs_ald (y := A.getD z 0) hk_60 rfl a1 (n_ix hzb (by omega)) (by rw [n_clamp hzb]; exact a5 z hc) rfl ?_
        refine gs_aload hk_60 rfl rfl rfl ?_
        refine gs_get hk_60 rfl b0 rfl ?_
        refine gs_iload hk_60 rfl rfl rfl ?_
        refine gs_ald (y := B.getD z 0) hk_60 rfl b1 (n_ix hzb (by omega)) (by rw [n_clamp hzb]; exact b5 z (by omega)) rfl ?_
        refine gs_icF hk_60 rfl (by simp only [j_cond, hne, decide_false]) rfl ?_
        refine gs_push (x := 0) hk_60 rfl (by decide) rfl ?_
        exact gs_iret hk_60 rfl (Or.inr (by decide)) rfl
      · have hAB : A = B := by
          refine List.ext_getElem hl fun j h1 h2 => ?_
          have := heq j (by omega)
          simpa [h1, h2] using this
        rw [if_pos hAB]
        refine gs_iload hk_60 rfl rfl rfl ?_
        refine gs_aload hk_60 rfl rfl rfl ?_
        refine gs_get hk_60 rfl a2 rfl ?_
        refine gs_icT hk_60 rfl (n_c3T hzb (by omega) (by omega)) ?_
        refine gs_push (x := 1) hk_60 rfl (by decide) rfl ?_
        exact gs_iret hk_60 rfl (Or.inr (by decide)) rfl
  · have hs : j_cond 0 (Int32.ofNat A.length) (Int32.ofNat B.length) = false := by
      simp only [j_cond, decide_eq_false_iff_not]
      intro h
      have := congrArg Int32.toInt h
      rw [n_toInt (by omega), n_toInt (by omega)] at this; omega
    rw [if_neg (fun h => hl (by rw [h]))]
    refine gs_aload hk_60 rfl rfl rfl ?_
    refine gs_get hk_60 rfl a2 rfl ?_
    refine gs_aload hk_60 rfl rfl rfl ?_
    refine gs_get hk_60 rfl b2 rfl ?_
    refine gs_icF hk_60 rfl (hs) rfl ?_
    refine gs_push (x := 0) hk_60 rfl (by decide) rfl ?_
    exact gs_iret hk_60 rfl (Or.inr (by decide)) rfl
