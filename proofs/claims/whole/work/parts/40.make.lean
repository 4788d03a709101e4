/-! ===== the stack machine makes a row (printed by wip/whole/gen40.py) ===== -/
theorem n_sub (n c : Nat) : Int32.ofNat (n + c) - Int32.ofNat c = Int32.ofNat n := by
  rw [Int32.ofNat_add, Int32.add_sub_cancel]
theorem s_st.ext {m : jM} {r q p : Nat} {K V K2 V2 : Nat → Int32} (h : s_st m r q p K V) (hk : ∀ i, i < 27 → K i = K2 i) (hv : ∀ i, i < 216 → V i = V2 i) : s_st m r q p K2 V2 := by
  obtain ⟨ks, vs, a0, a1, a2, a3, a4, a5, a6, a7, a8⟩ := h
  exact ⟨ks, vs, a0, a1, a2, a3, a4, a5, fun i hi => (a6 i hi).trans (hk i hi), fun i hi => (a7 i hi).trans (hv i hi), a8⟩
def s_row (V : Nat → Int32) (n j z : Nat) : Int32 := if n * 8 ≤ z ∧ z < n * 8 + j then V ((n + (z - n * 8)) * 8) else V z
theorem hk_26 : jP[26]? = some (jc_26, 4, [], []) := by rfl
theorem t_makeRow_26 {X : List Int32} {d : Nat} {m : jM} {r u q p n c : Nat} {K V : Nat → Int32} (h1 : j_fld m r 4 1 = some (.ref (u + 1))) (h2 : j_fld m r 4 2 = some (.int (Int32.ofNat (n + c)))) (hS : s_st m u q p K V) (hn : n < 27) (hc : c ≤ 8) (hnc : n + c ≤ 27) : ∃ m', j_Ev X (d + 1) 26 [.ref (r + 1), .int (Int32.ofNat c)] m (.inl (some (.int 0)), m') ∧ s_fr m m' [r, q, p] ∧ s_st m' u q p (fun z => if z = n then Int32.ofNat (c + 2) else K z) (s_row V n c) ∧ j_fld m' r 4 2 = some (.int (Int32.ofNat (n + 1))) := by
  obtain ⟨ks, vs, a0, a1, a2, a3, a4⟩ := id hS
  have hrq : r ≠ q := j_tags h2 a2 (by decide)
  have hrp : r ≠ p := j_tags h2 a3 (by decide)
  have hru : r ≠ u := j_tags2 h2 a0 (by decide)
  have huq : u ≠ q := j_tags a0 a2 (by decide)
  have hup : u ≠ p := j_tags a0 a3 (by decide)
  obtain ⟨m0, E0, f0, s0⟩ := t_putRow_69 (X := X) (d := d) hS hn
  have f0 : s_fr m m0 [q, p] := f0.mono (by simp)
  have H := g_rex (X := X) (d := d + 1) (k := 26) (n := c) (m := m0) (st := fun j => (11, [.ref (r + 1), .int (Int32.ofNat c), .int (Int32.ofNat n), .int (Int32.ofNat j)], [])) (fun j m' => s_fr m m' [q, p] ∧ s_st m' u q p (fun z => if z = n then Int32.ofNat (j + 2) else K z) (s_row V n j)) ⟨f0, s0.ext (fun i _ => rfl) (fun i _ => by
      unfold s_row
      rw [if_neg (by omega)])⟩ (by
    intro j m1 hj ⟨hf, hs⟩
    have E1 := t_itemOf_66 (X := X) (d := d) (x := Int32.ofNat (n + j)) (y := Int32.ofNat 0) hs
    rw [s_v_n (by omega) (by decide)] at E1
    have hv : s_row V n j ((n + j) * 8 + 0) = V ((n + j) * 8) := by
      unfold s_row
      rw [if_neg (by omega)]; rfl
    rw [hv] at E1
    obtain ⟨m2, E2, f2, s2⟩ := t_addItem_70 (X := X) (d := d) (v := V ((n + j) * 8)) (c := j) hs hn (by omega) (if_pos rfl)
    refine ⟨m2, ⟨hf.trans f2, s2.ext (fun z _ => ?_) (fun z _ => ?_)⟩, fun o hn2 => ?_⟩
    · show (if z = n then Int32.ofNat (j + 3) else if z = n then Int32.ofNat (j + 2) else K z) = if z = n then Int32.ofNat (j + 1 + 2) else K z
      by_cases hz : z = n
      · rw [if_pos hz, if_pos hz]
      · rw [if_neg hz, if_neg hz, if_neg hz]
    · show (if z = n * 8 + j then V ((n + j) * 8) else s_row V n j z) = s_row V n (j + 1) z
      unfold s_row
      by_cases hz : z = n * 8 + j
      · subst hz
        rw [if_pos rfl, if_pos (by omega), Nat.add_sub_cancel_left]
      · rw [if_neg hz]
        by_cases hy : n * 8 ≤ z ∧ z < n * 8 + j
        · rw [if_pos hy, if_pos (by omega)]
        · rw [if_neg hy, if_neg (by omega)]
    have c1 : j_fld m1 r 4 1 = some (.ref (u + 1)) := (hf.fld (by simp [hrq, hrp])).trans h1
    have c3 : j_fld m1 u 8 0 = some (.ref (q + 1)) := (hf.fld (by simp [huq, hup])).trans a0
    have c4 : j_fld m1 u 8 1 = some (.ref (p + 1)) := (hf.fld (by simp [huq, hup])).trans a1
    refine gs_iload hk_26 rfl rfl rfl ?_
    refine gs_iload hk_26 rfl rfl rfl ?_
    refine gs_icF hk_26 rfl (n_c3F (by omega) (by omega) hj) rfl ?_
    refine gs_aload hk_26 rfl rfl rfl ?_
    refine gs_get hk_26 rfl c1 rfl ?_
    refine gs_iload hk_26 rfl rfl rfl ?_
    refine gs_aload hk_26 rfl rfl rfl ?_
    refine gs_get hk_26 rfl c1 rfl ?_
    refine gs_iload hk_26 rfl rfl rfl ?_
    refine gs_iload hk_26 rfl rfl rfl ?_
    refine gs_bin (z := (Int32.ofNat (n + j))) hk_26 rfl (congrArg some (n_add n j)) rfl ?_
    refine gs_push (x := 0) hk_26 rfl (by decide) rfl ?_
    refine gs_call (as := [.ref (u + 1), .int (Int32.ofNat (n + j)), .int 0]) (rest := [.int (Int32.ofNat n), .ref (u + 1)]) hk_26 rfl (Or.inr (Or.inr (Or.inr ⟨Or.inl rfl, j_recv_of c3⟩))) rfl rfl rfl (Nat.not_lt.mpr (Nat.le_of_ble_eq_true rfl)) (E1) rfl ?_
    refine gs_call (as := [.ref (u + 1), .int (Int32.ofNat n), .int (V ((n + j) * 8))]) (rest := []) hk_26 rfl (Or.inr (Or.inr (Or.inr ⟨Or.inl rfl, j_recv_of c3⟩))) rfl rfl rfl (Nat.not_lt.mpr (Nat.le_of_ble_eq_true rfl)) (E2) rfl ?_
    refine gs_iinc (y := (Int32.ofNat (j + 1))) hk_26 rfl rfl (n_succ j) rfl rfl ?_
    exact gs_goto hk_26 rfl (hn2))
  obtain ⟨m1, ⟨i1, i2⟩, H⟩ := H
  have c2 : j_fld m1 r 4 2 = some (.int (Int32.ofNat (n + c))) := (i1.fld (by simp [hrq, hrp])).trans h2
  have f2 := s_fr_put m1 r 2 (.int (Int32.ofNat (n + 1)))
  refine ⟨j_put m1 r 2 (.int (Int32.ofNat (n + 1))), e_of hk_26 ?_, (i1.mono (by simp)).trans (f2.mono (by simp)), i2.fr f2 (by simpa using hru.symm) (by simpa using hrq.symm) (by simpa using hrp.symm), j_fld_put c2⟩
  refine gs_aload hk_26 rfl rfl rfl ?_
  refine gs_get hk_26 rfl h2 rfl ?_
  refine gs_iload hk_26 rfl rfl rfl ?_
  refine gs_bin (z := (Int32.ofNat n)) hk_26 rfl (congrArg some (n_sub n c)) rfl ?_
  refine gs_istore hk_26 rfl (Nat.le_of_ble_eq_true rfl) rfl rfl ?_
  refine gs_aload hk_26 rfl rfl rfl ?_
  refine gs_get hk_26 rfl h1 rfl ?_
  refine gs_iload hk_26 rfl rfl rfl ?_
  refine gs_call (as := [.ref (u + 1), .int (Int32.ofNat n)]) (rest := []) hk_26 rfl (Or.inr (Or.inr (Or.inr ⟨Or.inl rfl, j_recv_of a0⟩))) rfl rfl rfl (Nat.not_lt.mpr (Nat.le_of_ble_eq_true rfl)) (E0) rfl ?_
  refine gs_push (x := 0) hk_26 rfl (by decide) rfl ?_
  refine gs_istore hk_26 rfl (Nat.le_of_ble_eq_true rfl) rfl rfl ?_
  refine H _ ?_
  refine gs_iload hk_26 rfl rfl rfl ?_
  refine gs_iload hk_26 rfl rfl rfl ?_
  refine gs_icT hk_26 rfl (n_c3T (by omega) (by omega) (Nat.le_refl c)) ?_
  refine gs_aload hk_26 rfl rfl rfl ?_
  refine gs_iload hk_26 rfl rfl rfl ?_
  refine gs_push (x := 1) hk_26 rfl (by decide) rfl ?_
  refine gs_bin (z := (Int32.ofNat (n + 1))) hk_26 rfl (congrArg some (n_succ n)) rfl ?_
  refine gs_put hk_26 rfl c2 rfl rfl rfl ?_
  refine gs_push (x := 0) hk_26 rfl (by decide) rfl ?_
  exact gs_iret hk_26 rfl (Or.inl rfl) rfl
