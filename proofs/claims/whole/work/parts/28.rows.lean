/-! ===== more rows: switch, arraycopy, long values, a caught exception ===== -/
def j_cp (m : jM) (z : Nat) (vs us : List Value) (sp dp n : Nat) : jM := (m.1, m.2.1, false, m.2.2.2.set z (50, j_cpy vs us sp dp n))
theorem j_cp_at {m : jM} {z q sp dp n : Nat} {vs us : List Value} (h : z ≠ q) : j_at (j_cp m z vs us sp dp n) q = j_at m q := by
  simp only [j_at, j_cp, List.getElem?_set_ne h]
theorem j_cp_fr (m : jM) (z : Nat) (vs us : List Value) (sp dp n : Nat) : s_fr m (j_cp m z vs us sp dp n) [z] := ⟨rfl, rfl, by simp [j_cp], fun q hq => j_cp_at (fun h => hq (by rw [h]; exact List.mem_singleton.mpr rfl))⟩
theorem j_cp_arr {m : jM} {z sp dp n : Nat} {vs us : List Value} (h : j_arr m z 50 = some us) : j_arr (j_cp m z vs us sp dp n) z 50 = some (j_cpy vs us sp dp n) := by
  have hl := j_at_lt (j_arrE h)
  simp [j_arr, j_at, j_cp, hl]
section J28
variable {X : List Int32} {d k i j a b c pc : Nat} {m m2 : jM} {o : jO} {mt : jMt} {L S : List Value}
theorem gs_acopy {q z : Nat} {sp dp n : Int32} {vs us : List Value} (hk : jP[k]? = some mt) (hc : mt.1[i]? = some (47, pc, a, b, c)) (hv : j_arr m q 50 = some vs) (hu : j_arr m z 50 = some us) (hb : ¬ sp < 0 ∧ ¬ dp < 0 ∧ ¬ n < 0 ∧ sp.toNatClampNeg + n.toNatClampNeg ≤ vs.length ∧ dp.toNatClampNeg + n.toNatClampNeg ≤ us.length) (hS : (S.map fun v => v.category).sum ≤ 8) (hm : j_cp m z vs us sp.toNatClampNeg dp.toNatClampNeg n.toNatClampNeg = m2) (hj : i + 1 = j) (h : j_Go X d k (j, L, S) m2 o) : j_Go X d k (i, L, .int n :: .int dp :: .ref (z + 1) :: .int sp :: .ref (q + 1) :: S) m o := by
  subst hj; subst hm
  exact g_step hk (by simp only [j_step, hc, j_do, j_arrE hv, j_arrE hu]; rw [if_pos ⟨trivial, trivial, hb.1, hb.2.1, hb.2.2.1, hb.2.2.2.1, hb.2.2.2.2, hS⟩]; rfl) h
theorem gs_sw {x : Int32} (hk : jP[k]? = some mt) (hc : mt.1[i]? = some (37, pc, a, b, c)) (hx : (if x < 0 then b else mt.2.2.2.getD x.toNatClampNeg b) = j) (h : j_Go X d k (j, L, S) m o) : j_Go X d k (i, L, .int x :: S) m o := by
  subst hx
  refine g_step hk ?_ h
  simp only [j_step, hc, j_do]
  by_cases hx : x < 0
  · simp only [if_pos hx]; rfl
  · simp only [if_neg hx]; rfl
theorem gs_lpush {x : Int64} (hk : jP[k]? = some mt) (hc : mt.1[i]? = some (38, pc, a, b, c)) (hx : Int64.ofNat a = x) (hj : i + 1 = j) (h : j_Go X d k (j, L, .long x :: S) m o) : j_Go X d k (i, L, S) m o := by
  subst hj; subst hx; exact g_step hk (by simp only [j_step, hc]; rfl) h
theorem gs_i2l {x : Int32} (hk : jP[k]? = some mt) (hc : mt.1[i]? = some (39, pc, a, b, c)) (hj : i + 1 = j) (h : j_Go X d k (j, L, .long x.toInt64 :: S) m o) : j_Go X d k (i, L, .int x :: S) m o := by
  subst hj; exact g_step hk (by simp only [j_step, hc]; rfl) h
theorem gs_lcmp {x y : Int64} (hk : jP[k]? = some mt) (hc : mt.1[i]? = some (42, pc, a, b, c)) (hj : i + 1 = j) (h : j_Go X d k (j, L, .int (lg_cmp x y) :: S) m o) : j_Go X d k (i, L, .long y :: .long x :: S) m o := by
  subst hj; exact g_step hk (by simp only [j_step, hc]; rfl) h
theorem gs_lald {q : Nat} {x : Int32} {vs : List Value} {y : Int64} (hk : jP[k]? = some mt) (hc : mt.1[i]? = some (40, pc, a, b, c)) (hv : j_arr m q 53 = some vs) (hx : ¬ (x < 0 ∨ vs.length ≤ x.toNatClampNeg)) (hy : j_lv (vs.getD x.toNatClampNeg .null) = y) (hj : i + 1 = j) (h : j_Go X d k (j, L, .long y :: S) m o) : j_Go X d k (i, L, .int x :: .ref (q + 1) :: S) m o := by
  subst hj; subst hy
  exact g_step hk (by simp only [j_step, hc, j_do, j_arrE hv, if_true, if_neg hx]; rfl) h
theorem gs_last {q : Nat} {x : Int32} {z : Int64} {vs : List Value} (hk : jP[k]? = some mt) (hc : mt.1[i]? = some (41, pc, a, b, c)) (hv : j_arr m q 53 = some vs) (hx : ¬ (x < 0 ∨ vs.length ≤ x.toNatClampNeg)) (hm : j_sto m q x.toNatClampNeg (.long z) = m2) (hj : i + 1 = j) (h : j_Go X d k (j, L, S) m2 o) : j_Go X d k (i, L, .long z :: .int x :: .ref (q + 1) :: S) m o := by
  subst hj; subst hm
  have h1 := j_arrE hv
  simp only [j_sto, j_put, h1] at h
  exact g_step hk (by simp only [j_step, hc, j_do, h1, if_true, if_neg hx]; rfl) h
theorem gs_callX {as rest : List Value} {x h2 z : Nat} {m2 : jM} {op : Nat} (hk : jP[k]? = some mt) (hc : mt.1[i]? = some (op, pc, a, b, c)) (hop : op = 29 ∨ op = 30 ∨ op = 49 ∨ ((op = 27 ∨ op = 28 ∨ op = 31 ∨ op = 32) ∧ j_recv m c as = true)) (hb : as.length = b) (hS : S = as.reverse ++ rest) (hcat : as.all (fun v => decide (v.category = 1)) = true) (hsum : ¬ 8 < (rest.map fun v => v.category).sum) (he : j_Ev X d a as m (.inr x, m2)) (hh : j_hand mt.2.2.1 i x = some (h2, z)) (h : j_Go X (d + 1) k (h2, L.set z (.retAddr 0), []) m2 o) : j_Go X (d + 1) k (i, L, S) m o := by
  subst hS; subst hb
  have h1 : (as.reverse ++ rest).take as.length = as.reverse := by rw [← List.length_reverse (as := as), List.take_left]
  have h2 : (as.reverse ++ rest).drop as.length = rest := by rw [← List.length_reverse (as := as), List.drop_left]
  have h3 : as.reverse.all (fun v => decide (v.category = 1)) = true := by rw [List.all_reverse]; exact hcat
  have hcall : j_call a as.length i L (as.reverse ++ rest) m = some (.inr (.inl (a, as, rest, m))) := by
    unfold j_call
    rw [h1, h2, List.reverse_reverse, if_neg]
    rintro (q | q | q)
    · simp at q; omega
    · exact hsum q
    · rw [h3] at q; cases q
  refine g_catch hk (k' := a) (as := as) (rest := rest) (m' := m) ?_ he hh h
  rcases hop with rfl | rfl | rfl | ⟨rfl | rfl | rfl | rfl, hr⟩
  · simp only [j_step, hc, j_do]; exact hcall
  · simp only [j_step, hc, j_do]; exact hcall
  · simp only [j_step, hc, j_do]; exact hcall
  · simp only [j_step, hc, j_do]; rw [h1, List.reverse_reverse, if_pos hr]; exact hcall
  · simp only [j_step, hc, j_do]; rw [h1, List.reverse_reverse, if_pos hr]; exact hcall
  · simp only [j_step, hc, j_do]; rw [h1, List.reverse_reverse, if_pos hr]; exact hcall
  · simp only [j_step, hc, j_do]; rw [h1, List.reverse_reverse, if_pos hr]; exact hcall
end J28
