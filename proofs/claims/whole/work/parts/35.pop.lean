/-! ===== the stack machine pops (printed by wip/whole/gen35.py) ===== -/
theorem j_tags2 {m : jM} {r w t b t2 b2 : Nat} {v v2 : Value} (h : j_fld m r t b = some v) (h2 : j_fld m w t2 b2 = some v2) (ht : t ≠ t2) : r ≠ w := by
  intro hq
  subst hq
  obtain ⟨fs, e, -⟩ := j_fldE h
  obtain ⟨gs, g, -⟩ := j_fldE h2
  have := e.symm.trans g
  simp only [Option.some.injEq, Prod.mk.injEq] at this
  exact ht this.1
theorem hk_21 : jP[21]? = some (jc_21, 2, [], []) := by rfl
theorem t_pop_21 {X : List Int32} {d : Nat} {m : jM} {r w u q p q2 p2 n k : Nat} {K V K2 V2 : Nat → Int32} (h0 : j_fld m r 4 0 = some (.ref (w + 1))) (h1 : j_fld m r 4 1 = some (.ref (u + 1))) (h2 : j_fld m r 4 2 = some (.int (Int32.ofNat (n + 1)))) (hW : s_st m w q2 p2 K2 V2) (hS : s_st m u q p K V) (hn : n < 27) (hk : k < 27) (g1 : p ≠ q2) (g2 : p ≠ p2) : ∃ m', j_Ev X (d + 1) 21 [.ref (r + 1), .int (Int32.ofNat k)] m (.inl (some (.int 0)), m') ∧ s_fr m m' [r, q2, p2] ∧ s_st m' w q2 p2 (fun z => if z = k then K n else K2 z) (fun z => if k * 8 ≤ z ∧ z < k * 8 + 8 then V (n * 8 + (z - k * 8)) else V2 z) ∧ j_fld m' r 4 2 = some (.int (Int32.ofNat n)) := by
  obtain ⟨kw, vw, b0, b1, b2, b3, b4⟩ := id hW
  obtain ⟨ks, vs, a0, a1, a2, a3, a4⟩ := id hS
  have hrq : r ≠ q := j_tags h2 a2 (by decide)
  have hrp : r ≠ p := j_tags h2 a3 (by decide)
  have hrq2 : r ≠ q2 := j_tags h2 b2 (by decide)
  have hrp2 : r ≠ p2 := j_tags h2 b3 (by decide)
  have hru : r ≠ u := j_tags2 h2 a0 (by decide)
  have hrw : r ≠ w := j_tags2 h2 b0 (by decide)
  have f0 := s_fr_put m r 2 (.int (Int32.ofNat n))
  have hW1 := hW.fr f0 (by simpa using hrw.symm) (by simpa using hrq2.symm) (by simpa using hrp2.symm)
  have hS1 := hS.fr f0 (by simpa using hru.symm) (by simpa using hrq.symm) (by simpa using hrp.symm)
  obtain ⟨m1, E, f1, s1⟩ := t_copy_71 (X := X) (d := d) hW1 hS1 g1 g2 hk hn
  have c0 : j_fld (j_put m r 2 (.int (Int32.ofNat n))) r 4 0 = some (.ref (w + 1)) := (j_fld_putN (Or.inr (by decide))).trans h0
  have c1 : j_fld (j_put m r 2 (.int (Int32.ofNat n))) r 4 1 = some (.ref (u + 1)) := (j_fld_putN (Or.inr (by decide))).trans h1
  have c2 : j_fld (j_put m r 2 (.int (Int32.ofNat n))) r 4 2 = some (.int (Int32.ofNat n)) := j_fld_put h2
  have c3 : j_fld (j_put m r 2 (.int (Int32.ofNat n))) w 8 0 = some (.ref (q2 + 1)) := (f0.fld (by simpa using hrw.symm)).trans b0
  refine ⟨m1, e_of hk_21 ?_, (f0.mono (by simp)).trans (f1.mono (by simp)), s1, (f1.fld (by simp [hrq2, hrp2])).trans c2⟩
  refine gs_aload hk_21 rfl rfl rfl ?_
  refine gs_dup hk_21 rfl rfl rfl ?_
  refine gs_get hk_21 rfl h2 rfl ?_
  refine gs_push (x := 1) hk_21 rfl (by decide) rfl ?_
  refine gs_bin (z := (Int32.ofNat n)) hk_21 rfl (congrArg some (n_pred n)) rfl ?_
  refine gs_put hk_21 rfl h2 rfl rfl rfl ?_
  refine gs_aload hk_21 rfl rfl rfl ?_
  refine gs_get hk_21 rfl c0 rfl ?_
  refine gs_iload hk_21 rfl rfl rfl ?_
  refine gs_aload hk_21 rfl rfl rfl ?_
  refine gs_get hk_21 rfl c1 rfl ?_
  refine gs_aload hk_21 rfl rfl rfl ?_
  refine gs_get hk_21 rfl c2 rfl ?_
  refine gs_call (as := [.ref (w + 1), .int (Int32.ofNat k), .ref (u + 1), .int (Int32.ofNat n)]) (rest := []) hk_21 rfl (Or.inr (Or.inr (Or.inr ⟨Or.inl rfl, j_recv_of c3⟩))) rfl rfl rfl (Nat.not_lt.mpr (Nat.le_of_ble_eq_true rfl)) (E) rfl ?_
  refine gs_push (x := 0) hk_21 rfl (by decide) rfl ?_
  exact gs_iret hk_21 rfl (Or.inl rfl) rfl
