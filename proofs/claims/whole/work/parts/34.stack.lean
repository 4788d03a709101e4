/-! ===== the stack machine pushes and pops (printed by wip/whole/gen34.py) ===== -/
theorem t_push_19 {X : List Int32} {d : Nat} {m : jM} {r u q p n : Nat} {v : Int32} {K V : Nat → Int32} (h1 : j_fld m r 4 1 = some (.ref (u + 1))) (h2 : j_fld m r 4 2 = some (.int (Int32.ofNat n))) (hS : s_st m u q p K V) (hn : n < 27) : ∃ m', j_Ev X (d + 1) 19 [.ref (r + 1), .int v] m (.inl (some (.int 0)), m') ∧ s_fr m m' [r, q, p] ∧ s_st m' u q p (fun z => if z = n then 1 else K z) (fun z => if z = n * 8 then v else V z) ∧ j_fld m' r 4 2 = some (.int (Int32.ofNat (n + 1))) := by
  obtain ⟨m1, E, f1, s1⟩ := t_putNumber_68 (X := X) (d := d) (v := v) hS hn
  obtain ⟨ks, vs, a0, a1, a2, a3, -⟩ := hS
  have hrq : r ≠ q := j_tags h2 a2 (by decide)
  have hrp : r ≠ p := j_tags h2 a3 (by decide)
  have hru : r ≠ u := by
    intro h
    subst h
    obtain ⟨fs, e, -⟩ := j_fldE h2
    obtain ⟨gs, g, -⟩ := j_fldE a0
    have := e.symm.trans g
    simp only [Option.some.injEq, Prod.mk.injEq] at this
    exact absurd this.1 (by decide)
  have c2 : j_fld m1 r 4 2 = some (.int (Int32.ofNat n)) := (f1.fld (by simp [hrq, hrp])).trans h2
  have f2 := s_fr_put m1 r 2 (.int (Int32.ofNat (n + 1)))
  have hqr : q ≠ r := hrq.symm
  have hpr : p ≠ r := hrp.symm
  have hur : u ≠ r := hru.symm
  refine ⟨j_put m1 r 2 (.int (Int32.ofNat (n + 1))), e_of hk_19 ?_, (f1.mono (by simp)).trans (f2.mono (by simp)), s1.fr f2 (by simpa using hur) (by simpa using hqr) (by simpa using hpr), j_fld_put c2⟩
  refine gs_aload hk_19 rfl rfl rfl ?_
  refine gs_get hk_19 rfl h1 rfl ?_
  refine gs_aload hk_19 rfl rfl rfl ?_
  refine gs_get hk_19 rfl h2 rfl ?_
  refine gs_iload hk_19 rfl rfl rfl ?_
  refine gs_call (as := [.ref (u + 1), .int (Int32.ofNat n), .int v]) (rest := []) hk_19 rfl (Or.inr (Or.inr (Or.inr ⟨Or.inl rfl, j_recv_of a0⟩))) rfl rfl rfl (Nat.not_lt.mpr (Nat.le_of_ble_eq_true rfl)) (E) rfl ?_
  refine gs_aload hk_19 rfl rfl rfl ?_
  refine gs_dup hk_19 rfl rfl rfl ?_
  refine gs_get hk_19 rfl c2 rfl ?_
  refine gs_push (x := 1) hk_19 rfl (by decide) rfl ?_
  refine gs_bin (z := (Int32.ofNat (n + 1))) hk_19 rfl (congrArg some (n_succ n)) rfl ?_
  refine gs_put hk_19 rfl c2 rfl rfl rfl ?_
  refine gs_push (x := 0) hk_19 rfl (by decide) rfl ?_
  exact gs_iret hk_19 rfl (Or.inl rfl) rfl
theorem hk_20 : jP[20]? = some (jc_20, 2, [], []) := by rfl
theorem t_pushName_20 {X : List Int32} {d : Nat} {m : jM} {r w u q p q2 p2 n k : Nat} {K V K2 V2 : Nat → Int32} (h0 : j_fld m r 4 0 = some (.ref (w + 1))) (h1 : j_fld m r 4 1 = some (.ref (u + 1))) (h2 : j_fld m r 4 2 = some (.int (Int32.ofNat n))) (hW : s_st m w q2 p2 K2 V2) (hS : s_st m u q p K V) (hn : n < 27) (hk : k < 27) (g1 : p2 ≠ q) (g2 : p2 ≠ p) (hz : K2 k ≠ 0) : ∃ m', j_Ev X (d + 1) 20 [.ref (r + 1), .int (Int32.ofNat k)] m (.inl (some (.int 0)), m') ∧ s_fr m m' [r, q, p] ∧ s_st m' u q p (fun z => if z = n then K2 k else K z) (fun z => if n * 8 ≤ z ∧ z < n * 8 + 8 then V2 (k * 8 + (z - n * 8)) else V z) ∧ j_fld m' r 4 2 = some (.int (Int32.ofNat (n + 1))) := by
  obtain ⟨m1, E, f1, s1⟩ := t_copy_71 (X := X) (d := d) hS hW g1 g2 hn hk
  have E0 := t_shapeOf_63 (X := X) (d := d) (x := Int32.ofNat k) hW
  have hsk : s_k K2 (Int32.ofNat k) = K2 k := by
    unfold s_k
    rw [if_neg (by rw [n_c2F (by omega)]; decide), if_neg (by have := n_c3F (i := k) (n := 27) (by omega) (by decide) hk; rw [show (27 : Int32) = Int32.ofNat 27 from rfl, this]; decide), n_clamp (by omega)]
  rw [hsk] at E0
  obtain ⟨kw, vw, b0, -⟩ := hW
  obtain ⟨ks, vs, a0, a1, a2, a3, -⟩ := hS
  have hrq : r ≠ q := j_tags h2 a2 (by decide)
  have hrp : r ≠ p := j_tags h2 a3 (by decide)
  have hru : r ≠ u := by
    intro h
    subst h
    obtain ⟨fs, e, -⟩ := j_fldE h2
    obtain ⟨gs, g, -⟩ := j_fldE a0
    have := e.symm.trans g
    simp only [Option.some.injEq, Prod.mk.injEq] at this
    exact absurd this.1 (by decide)
  have c2 : j_fld m1 r 4 2 = some (.int (Int32.ofNat n)) := (f1.fld (by simp [hrq, hrp])).trans h2
  have f2 := s_fr_put m1 r 2 (.int (Int32.ofNat (n + 1)))
  have hqr : q ≠ r := hrq.symm
  have hpr : p ≠ r := hrp.symm
  have hur : u ≠ r := hru.symm
  refine ⟨j_put m1 r 2 (.int (Int32.ofNat (n + 1))), e_of hk_20 ?_, (f1.mono (by simp)).trans (f2.mono (by simp)), s1.fr f2 (by simpa using hur) (by simpa using hqr) (by simpa using hpr), j_fld_put c2⟩
  refine gs_aload hk_20 rfl rfl rfl ?_
  refine gs_get hk_20 rfl h0 rfl ?_
  refine gs_iload hk_20 rfl rfl rfl ?_
  refine gs_call (as := [.ref (w + 1), .int (Int32.ofNat k)]) (rest := []) hk_20 rfl (Or.inr (Or.inr (Or.inr ⟨Or.inl rfl, j_recv_of b0⟩))) rfl rfl rfl (Nat.not_lt.mpr (Nat.le_of_ble_eq_true rfl)) (E0) rfl ?_
  refine gs_ifT hk_20 rfl (by simp only [j_cond, hz, decide_false, Bool.not_false]) ?_
  refine gs_aload hk_20 rfl rfl rfl ?_
  refine gs_get hk_20 rfl h1 rfl ?_
  refine gs_aload hk_20 rfl rfl rfl ?_
  refine gs_get hk_20 rfl h2 rfl ?_
  refine gs_aload hk_20 rfl rfl rfl ?_
  refine gs_get hk_20 rfl h0 rfl ?_
  refine gs_iload hk_20 rfl rfl rfl ?_
  refine gs_call (as := [.ref (u + 1), .int (Int32.ofNat n), .ref (w + 1), .int (Int32.ofNat k)]) (rest := []) hk_20 rfl (Or.inr (Or.inr (Or.inr ⟨Or.inl rfl, j_recv_of a0⟩))) rfl rfl rfl (Nat.not_lt.mpr (Nat.le_of_ble_eq_true rfl)) (E) rfl ?_
  refine gs_aload hk_20 rfl rfl rfl ?_
  refine gs_dup hk_20 rfl rfl rfl ?_
  refine gs_get hk_20 rfl c2 rfl ?_
  refine gs_push (x := 1) hk_20 rfl (by decide) rfl ?_
  refine gs_bin (z := (Int32.ofNat (n + 1))) hk_20 rfl (congrArg some (n_succ n)) rfl ?_
  refine gs_put hk_20 rfl c2 rfl rfl rfl ?_
  refine gs_push (x := 0) hk_20 rfl (by decide) rfl ?_
  exact gs_iret hk_20 rfl (Or.inl rfl) rfl
