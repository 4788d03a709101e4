/-! ===== THE INTERPRETER ALONE: a row an instruction; memory by its fields and rows ===== -/
def j_fld (m : jM) (q t b : Nat) : Option Value := match j_at m q with
  | some (t', fs) => if t' = t then fs[b]? else none
  | none => none
def j_arr (m : jM) (q t : Nat) : Option (List Value) := match j_at m q with
  | some (t', vs) => if t' = t then some vs else none
  | none => none
def j_put (m : jM) (q b : Nat) (v : Value) : jM := match j_at m q with
  | some (t, fs) => j_up m q (t, fs.set b v)
  | none => m
theorem j_at_up {m : jM} {q q' : Nat} {c : jE} : j_at (j_up m q c) q' = if q = q' then (if q < m.2.2.2.length then some c else none) else j_at m q' := by
  simp only [j_at, j_up, List.getElem?_set]
theorem j_fldE {m : jM} {q t b : Nat} {v : Value} (h : j_fld m q t b = some v) : ∃ fs, j_at m q = some (t, fs) ∧ fs[b]? = some v := by
  unfold j_fld at h
  split at h
  · rename_i t' fs hm
    split at h
    · rename_i ht; subst ht; exact ⟨fs, hm, h⟩
    · cases h
  · cases h
theorem j_arrE {m : jM} {q t : Nat} {vs : List Value} (h : j_arr m q t = some vs) : j_at m q = some (t, vs) := by
  unfold j_arr at h
  split at h
  · rename_i t' fs hm
    split at h
    · rename_i ht; subst ht; cases h; exact hm
    · cases h
  · cases h
theorem j_at_lt {m : jM} {q : Nat} {c : jE} (h : j_at m q = some c) : q < m.2.2.2.length := (List.getElem?_eq_some_iff.mp h).1
theorem j_at_put {m : jM} {q b q' : Nat} {v : Value} (h : q ≠ q') : j_at (j_put m q b v) q' = j_at m q' := by
  unfold j_put
  split
  · rw [j_at_up, if_neg h]
  · rfl
theorem j_fld_put {m : jM} {q t b : Nat} {u v : Value} (h : j_fld m q t b = some u) : j_fld (j_put m q b v) q t b = some v := by
  obtain ⟨fs, h1, h2⟩ := j_fldE h
  have hl := j_at_lt h1
  have hb := (List.getElem?_eq_some_iff.mp h2).1
  simp [j_fld, j_put, h1, j_at_up, hl, hb]
theorem j_fld_putN {m : jM} {q t b q' b' : Nat} {v : Value} (h : q ≠ q' ∨ b ≠ b') : j_fld (j_put m q b v) q' t b' = j_fld m q' t b' := by
  by_cases hq : q = q'
  · subst hq
    have hb : b ≠ b' := by rcases h with h | h; exact absurd rfl h; exact h
    unfold j_fld j_put
    cases hm : j_at m q with
    | none => simp [hm]
    | some c =>
      obtain ⟨t', fs⟩ := c
      have hl := j_at_lt hm
      simp [j_at_up, hl, List.getElem?_set_ne hb]
  · simp only [j_fld, j_at_put hq]
theorem j_arr_put {m : jM} {q b q' t : Nat} {v : Value} (h : q ≠ q') : j_arr (j_put m q b v) q' t = j_arr m q' t := by
  simp only [j_arr, j_at_put h]
theorem j_arr_put13 {m : jM} {q b q' t a c : Nat} {u v : Value} (h : j_fld m q a c = some u) (ha : a ≠ t) : j_arr (j_put m q b v) q' t = j_arr m q' t := by
  by_cases hq : q = q'
  · subst hq
    obtain ⟨fs, h1, -⟩ := j_fldE h
    have hl := j_at_lt h1
    simp [j_arr, j_put, h1, j_at_up, hl, ha]
  · exact j_arr_put hq
/-- a place of a row -/
def j_sto (m : jM) (q i : Nat) (v : Value) : jM := j_put m q i v
theorem j_arr_sto {m : jM} {q t i : Nat} {vs : List Value} {v : Value} (h : j_arr m q t = some vs) : j_arr (j_sto m q i v) q t = some (vs.set i v) := by
  have h1 := j_arrE h
  have hl := j_at_lt h1
  simp [j_arr, j_sto, j_put, h1, j_at_up, hl]
theorem j_arr_stoN {m : jM} {q q' t i : Nat} {v : Value} (h : q ≠ q') : j_arr (j_sto m q i v) q' t = j_arr m q' t := j_arr_put h
theorem j_fld_sto {m : jM} {q q' t t2 i b : Nat} {vs : List Value} {v : Value} (h : j_arr m q t2 = some vs) (ht : t2 ≠ t) : j_fld (j_sto m q i v) q' t b = j_fld m q' t b := by
  by_cases hq : q = q'
  · subst hq
    have h1 := j_arrE h
    have hl := j_at_lt h1
    simp [j_fld, j_sto, j_put, h1, j_at_up, hl, ht]
  · simp only [j_fld, j_sto, j_at_put hq]
section J21
variable {X : List Int32} {d k i j a b c pc : Nat} {m m2 : jM} {o : jO} {mt : jMt} {L S : List Value}
theorem gs_push {x : Int32} (hk : jP[k]? = some mt) (hc : mt.1[i]? = some (0, pc, a, b, c)) (hx : Int32.ofNat a = x) (hj : i + 1 = j) (h : j_Go X d k (j, L, .int x :: S) m o) : j_Go X d k (i, L, S) m o := by
  subst hj; subst hx; exact g_step hk (by simp only [j_step, hc]; rfl) h
theorem gs_iload {x : Int32} (hk : jP[k]? = some mt) (hc : mt.1[i]? = some (1, pc, a, b, c)) (hx : L[a]? = some (.int x)) (hj : i + 1 = j) (h : j_Go X d k (j, L, .int x :: S) m o) : j_Go X d k (i, L, S) m o := by
  subst hj; exact g_step hk (by simp only [j_step, hc, j_do, hx]; rfl) h
theorem gs_aload {x : Nat} (hk : jP[k]? = some mt) (hc : mt.1[i]? = some (2, pc, a, b, c)) (hx : L[a]? = some (.ref x)) (hj : i + 1 = j) (h : j_Go X d k (j, L, .ref x :: S) m o) : j_Go X d k (i, L, S) m o := by
  subst hj; exact g_step hk (by simp only [j_step, hc, j_do, hx]; rfl) h
theorem gs_aloadN (hk : jP[k]? = some mt) (hc : mt.1[i]? = some (2, pc, a, b, c)) (hx : L[a]? = some .null) (hj : i + 1 = j) (h : j_Go X d k (j, L, .null :: S) m o) : j_Go X d k (i, L, S) m o := by
  subst hj; exact g_step hk (by simp only [j_step, hc, j_do, hx]; rfl) h
theorem gs_istore {x : Int32} {L2 : List Value} (hk : jP[k]? = some mt) (hc : mt.1[i]? = some (3, pc, a, b, c)) (ha : a < L.length) (hL : L.set a (.int x) = L2) (hj : i + 1 = j) (h : j_Go X d k (j, L2, S) m o) : j_Go X d k (i, L, .int x :: S) m o := by
  subst hj; subst hL; exact g_step hk (by simp only [j_step, hc, j_do, if_pos ha]; rfl) h
theorem gs_astore {x : Nat} {L2 : List Value} (hk : jP[k]? = some mt) (hc : mt.1[i]? = some (4, pc, a, b, c)) (ha : a < L.length) (hL : L.set a (.ref x) = L2) (hj : i + 1 = j) (h : j_Go X d k (j, L2, S) m o) : j_Go X d k (i, L, .ref x :: S) m o := by
  subst hj; subst hL; exact g_step hk (by simp only [j_step, hc, j_do, if_pos ha]; rfl) h
theorem gs_astoreN {L2 : List Value} (hk : jP[k]? = some mt) (hc : mt.1[i]? = some (4, pc, a, b, c)) (ha : a < L.length) (hL : L.set a .null = L2) (hj : i + 1 = j) (h : j_Go X d k (j, L2, S) m o) : j_Go X d k (i, L, .null :: S) m o := by
  subst hj; subst hL; exact g_step hk (by simp only [j_step, hc, j_do, if_pos ha]; rfl) h
theorem gs_iinc {x y : Int32} {L2 : List Value} (hk : jP[k]? = some mt) (hc : mt.1[i]? = some (5, pc, a, b, c)) (hx : L[a]? = some (.int x)) (hy : x + Int32.ofNat b = y) (hL : L.set a (.int y) = L2) (hj : i + 1 = j) (h : j_Go X d k (j, L2, S) m o) : j_Go X d k (i, L, S) m o := by
  subst hj; subst hL; subst hy; exact g_step hk (by simp only [j_step, hc, j_do, hx]; rfl) h
theorem gs_bin {x y z : Int32} (hk : jP[k]? = some mt) (hc : mt.1[i]? = some (6, pc, a, b, c)) (hz : j_bin a x y = some z) (hj : i + 1 = j) (h : j_Go X d k (j, L, .int z :: S) m o) : j_Go X d k (i, L, .int y :: .int x :: S) m o := by
  subst hj; exact g_step hk (by simp only [j_step, hc, j_do, hz]; rfl) h
theorem gs_un {x z : Int32} (hk : jP[k]? = some mt) (hc : mt.1[i]? = some (7, pc, a, b, c)) (hz : (if a = 0 then -x else (x.toUInt32 % 65536).toInt32) = z) (hj : i + 1 = j) (h : j_Go X d k (j, L, .int z :: S) m o) : j_Go X d k (i, L, .int x :: S) m o := by
  subst hj; subst hz; exact g_step hk (by simp only [j_step, hc, j_do]; rfl) h
theorem gs_ifT {x : Int32} (hk : jP[k]? = some mt) (hc : mt.1[i]? = some (8, pc, a, j, c)) (hx : j_cond a x 0 = true) (h : j_Go X d k (j, L, S) m o) : j_Go X d k (i, L, .int x :: S) m o :=
  g_step hk (by simp only [j_step, hc, j_do, if_pos hx]; rfl) h
theorem gs_ifF {x : Int32} (hk : jP[k]? = some mt) (hc : mt.1[i]? = some (8, pc, a, b, c)) (hx : j_cond a x 0 = false) (hj : i + 1 = j) (h : j_Go X d k (j, L, S) m o) : j_Go X d k (i, L, .int x :: S) m o := by
  subst hj; exact g_step hk (by simp only [j_step, hc, j_do, hx]; rfl) h
theorem gs_icT {x y : Int32} (hk : jP[k]? = some mt) (hc : mt.1[i]? = some (9, pc, a, j, c)) (hx : j_cond a x y = true) (h : j_Go X d k (j, L, S) m o) : j_Go X d k (i, L, .int y :: .int x :: S) m o :=
  g_step hk (by simp only [j_step, hc, j_do, if_pos hx]; rfl) h
theorem gs_icF {x y : Int32} (hk : jP[k]? = some mt) (hc : mt.1[i]? = some (9, pc, a, b, c)) (hx : j_cond a x y = false) (hj : i + 1 = j) (h : j_Go X d k (j, L, S) m o) : j_Go X d k (i, L, .int y :: .int x :: S) m o := by
  subst hj; exact g_step hk (by simp only [j_step, hc, j_do, hx]; rfl) h
theorem gs_goto (hk : jP[k]? = some mt) (hc : mt.1[i]? = some (10, pc, a, j, c)) (h : j_Go X d k (j, L, S) m o) : j_Go X d k (i, L, S) m o :=
  g_step hk (by simp only [j_step, hc]; rfl) h
theorem gs_nullT (hk : jP[k]? = some mt) (hc : mt.1[i]? = some (11, pc, a, j, c)) (h : j_Go X d k (j, L, S) m o) : j_Go X d k (i, L, .null :: S) m o :=
  g_step hk (by simp only [j_step, hc]; rfl) h
theorem gs_nullF {x : Nat} (hk : jP[k]? = some mt) (hc : mt.1[i]? = some (11, pc, a, b, c)) (hj : i + 1 = j) (h : j_Go X d k (j, L, S) m o) : j_Go X d k (i, L, .ref x :: S) m o := by
  subst hj; exact g_step hk (by simp only [j_step, hc]; rfl) h
theorem gs_nnT {x : Nat} (hk : jP[k]? = some mt) (hc : mt.1[i]? = some (12, pc, a, j, c)) (h : j_Go X d k (j, L, S) m o) : j_Go X d k (i, L, .ref x :: S) m o :=
  g_step hk (by simp only [j_step, hc]; rfl) h
theorem gs_nnF (hk : jP[k]? = some mt) (hc : mt.1[i]? = some (12, pc, a, b, c)) (hj : i + 1 = j) (h : j_Go X d k (j, L, S) m o) : j_Go X d k (i, L, .null :: S) m o := by
  subst hj; exact g_step hk (by simp only [j_step, hc]; rfl) h
theorem gs_dup {v : Value} (hk : jP[k]? = some mt) (hc : mt.1[i]? = some (13, pc, a, b, c)) (hv : v.category = 1) (hj : i + 1 = j) (h : j_Go X d k (j, L, v :: v :: S) m o) : j_Go X d k (i, L, v :: S) m o := by
  subst hj; exact g_step hk (by simp only [j_step, hc, j_do, if_pos hv]; rfl) h
theorem gs_pop {v : Value} (hk : jP[k]? = some mt) (hc : mt.1[i]? = some (14, pc, a, b, c)) (hv : v.category = 1) (hj : i + 1 = j) (h : j_Go X d k (j, L, S) m o) : j_Go X d k (i, L, v :: S) m o := by
  subst hj; exact g_step hk (by simp only [j_step, hc, j_do, if_pos hv]; rfl) h
theorem gs_dup2 {u v : Value} (hk : jP[k]? = some mt) (hc : mt.1[i]? = some (15, pc, a, b, c)) (hu : u.category = 1 ∧ v.category = 1) (hj : i + 1 = j) (h : j_Go X d k (j, L, u :: v :: u :: v :: S) m o) : j_Go X d k (i, L, u :: v :: S) m o := by
  subst hj; exact g_step hk (by simp only [j_step, hc, j_do, if_pos hu]; rfl) h
theorem gs_get {q : Nat} {v : Value} (hk : jP[k]? = some mt) (hc : mt.1[i]? = some (16, pc, a, b, c)) (hv : j_fld m q a b = some v) (hj : i + 1 = j) (h : j_Go X d k (j, L, v :: S) m o) : j_Go X d k (i, L, .ref (q + 1) :: S) m o := by
  subst hj
  obtain ⟨fs, h1, h2⟩ := j_fldE hv
  exact g_step hk (by simp only [j_step, hc, j_do, h1, if_true, h2]; rfl) h
theorem gs_put {q : Nat} {u v : Value} (hk : jP[k]? = some mt) (hc : mt.1[i]? = some (17, pc, a, b, c)) (hu : j_fld m q a b = some u) (hf : fits (j_fty a b) v = true) (hm : j_put m q b v = m2) (hj : i + 1 = j) (h : j_Go X d k (j, L, S) m2 o) : j_Go X d k (i, L, v :: .ref (q + 1) :: S) m o := by
  subst hj; subst hm
  obtain ⟨fs, h1, h2⟩ := j_fldE hu
  have hb := (List.getElem?_eq_some_iff.mp h2).1
  simp only [j_put, h1] at h
  exact g_step hk (by simp only [j_step, hc, j_do, h1]; rw [if_pos ⟨trivial, hb, hf⟩]; rfl) h
theorem gs_ald {q : Nat} {x : Int32} {vs : List Value} {y : Int32} (hk : jP[k]? = some mt) (hc : mt.1[i]? = some (22, pc, a, b, c)) (hv : j_arr m q a = some vs) (hx : ¬ (x < 0 ∨ vs.length ≤ x.toNatClampNeg)) (hy : j_iv (vs.getD x.toNatClampNeg .null) = y) (hj : i + 1 = j) (h : j_Go X d k (j, L, .int y :: S) m o) : j_Go X d k (i, L, .int x :: .ref (q + 1) :: S) m o := by
  subst hj; subst hy
  exact g_step hk (by simp only [j_step, hc, j_do, j_arrE hv, if_true, if_neg hx]; rfl) h
theorem gs_ast {q : Nat} {x z : Int32} {vs : List Value} (hk : jP[k]? = some mt) (hc : mt.1[i]? = some (23, pc, a, b, c)) (hv : j_arr m q a = some vs) (hx : ¬ (x < 0 ∨ vs.length ≤ x.toNatClampNeg)) (hm : j_sto m q x.toNatClampNeg (.int (j_nar a z)) = m2) (hj : i + 1 = j) (h : j_Go X d k (j, L, S) m2 o) : j_Go X d k (i, L, .int z :: .int x :: .ref (q + 1) :: S) m o := by
  subst hj; subst hm
  have h1 := j_arrE hv
  simp only [j_sto, j_put, h1] at h
  exact g_step hk (by simp only [j_step, hc, j_do, h1, if_true, if_neg hx]; rfl) h
theorem gs_aald {q y : Nat} {x : Int32} {vs : List Value} (hk : jP[k]? = some mt) (hc : mt.1[i]? = some (24, pc, a, b, c)) (hv : j_arr m q a = some vs) (hx : ¬ (x < 0 ∨ vs.length ≤ x.toNatClampNeg)) (hy : vs.getD x.toNatClampNeg (.int 0) = .ref y) (hj : i + 1 = j) (h : j_Go X d k (j, L, .ref y :: S) m o) : j_Go X d k (i, L, .int x :: .ref (q + 1) :: S) m o := by
  subst hj
  exact g_step hk (by simp only [j_step, hc, j_do, j_arrE hv, if_true, if_neg hx, hy]; rfl) h
theorem gs_ret {r : jO} (hk : jP[k]? = some mt) (hc : mt.1[i]? = some (33, pc, a, b, c)) (hr : (.inl none, m) = r) : j_Go X d k (i, L, []) m r := by
  subst hr; exact g_end hk (by simp only [j_step, hc]; rfl)
theorem gs_iret {x : Int32} {r : jO} (hk : jP[k]? = some mt) (hc : mt.1[i]? = some (34, pc, a, b, c)) (hx : a = 0 ∨ x &&& 1 = x) (hr : (.inl (some (.int x)), m) = r) : j_Go X d k (i, L, [.int x]) m r := by
  subst hr; exact g_end hk (by simp only [j_step, hc, j_do, if_pos hx])
theorem gs_aret {x : Nat} {r : jO} (hk : jP[k]? = some mt) (hc : mt.1[i]? = some (35, pc, a, b, c)) (hr : (.inl (some (.ref x)), m) = r) : j_Go X d k (i, L, [.ref x]) m r := by
  subst hr; exact g_end hk (by simp only [j_step, hc]; rfl)
theorem gs_aretN {r : jO} (hk : jP[k]? = some mt) (hc : mt.1[i]? = some (35, pc, a, b, c)) (hr : (.inl (some .null), m) = r) : j_Go X d k (i, L, [.null]) m r := by
  subst hr; exact g_end hk (by simp only [j_step, hc]; rfl)
theorem gs_throw {r : jO} (hk : jP[k]? = some mt) (hc : mt.1[i]? = some (36, pc, a, b, c)) (hS : ¬ 40 < (S.map fun v => v.category).sum) (hr : (.inr a, (m.1 + 1, m.2.1 + 6, false, m.2.2.2)) = r) : j_Go X d k (i, L, S) m r := by
  subst hr; exact g_end hk (by simp only [j_step, hc, j_do, if_neg hS])
theorem gs_null (hk : jP[k]? = some mt) (hc : mt.1[i]? = some (43, pc, a, b, c)) (hj : i + 1 = j) (h : j_Go X d k (j, L, .null :: S) m o) : j_Go X d k (i, L, S) m o := by
  subst hj; exact g_step hk (by simp only [j_step, hc]; rfl) h
theorem gs_max {x y : Int32} (hk : jP[k]? = some mt) (hc : mt.1[i]? = some (45, pc, a, b, c)) (hS : ¬ 8 < (S.map fun v => v.category).sum) (hj : i + 1 = j) (h : j_Go X d k (j, L, .int (if x < y then y else x) :: S) m o) : j_Go X d k (i, L, .int y :: .int x :: S) m o := by
  subst hj; exact g_step hk (by simp only [j_step, hc, j_do, if_neg hS]; rfl) h
theorem gs_min {x y : Int32} (hk : jP[k]? = some mt) (hc : mt.1[i]? = some (46, pc, a, b, c)) (hS : ¬ 8 < (S.map fun v => v.category).sum) (hj : i + 1 = j) (h : j_Go X d k (j, L, .int (if y < x then y else x) :: S) m o) : j_Go X d k (i, L, .int y :: .int x :: S) m o := by
  subst hj; exact g_step hk (by simp only [j_step, hc, j_do, if_neg hS]; rfl) h
theorem gs_call {as rest : List Value} {v : Option Value} {m2 : jM} {op : Nat} (hk : jP[k]? = some mt) (hc : mt.1[i]? = some (op, pc, a, b, c)) (hop : op = 29 ∨ op = 30 ∨ op = 49 ∨ ((op = 27 ∨ op = 28 ∨ op = 31 ∨ op = 32) ∧ j_recv m c as = true)) (hb : as.length = b) (hS : S = as.reverse ++ rest) (hcat : as.all (fun v => decide (v.category = 1)) = true) (hsum : ¬ 8 < (rest.map fun v => v.category).sum) (he : j_Ev X d a as m (.inl v, m2)) (hj : i + 1 = j) (h : j_Go X (d + 1) k (j, L, j_ret v rest) m2 o) : j_Go X (d + 1) k (i, L, S) m o := by
  subst hj; subst hS; subst hb
  have h1 : (as.reverse ++ rest).take as.length = as.reverse := by rw [← List.length_reverse (as := as), List.take_left]
  have h2 : (as.reverse ++ rest).drop as.length = rest := by rw [← List.length_reverse (as := as), List.drop_left]
  have h3 : as.reverse.all (fun v => decide (v.category = 1)) = true := by rw [List.all_reverse]; exact hcat
  have hcall : j_call a as.length i L (as.reverse ++ rest) m = some (.inr (.inl (a, as, rest, m))) := by
    unfold j_call
    rw [h1, h2, List.reverse_reverse, if_neg]
    rintro (q | q | q)
    · simp at q; omega
    · exact hsum q
    · rw [h3] at q; cases q
  refine g_call hk (k' := a) (as := as) (rest := rest) (m' := m) ?_ he h
  rcases hop with rfl | rfl | rfl | ⟨rfl | rfl | rfl | rfl, hr⟩
  · simp only [j_step, hc, j_do]; exact hcall
  · simp only [j_step, hc, j_do]; exact hcall
  · simp only [j_step, hc, j_do]; exact hcall
  · simp only [j_step, hc, j_do]; rw [h1, List.reverse_reverse, if_pos hr]; exact hcall
  · simp only [j_step, hc, j_do]; rw [h1, List.reverse_reverse, if_pos hr]; exact hcall
  · simp only [j_step, hc, j_do]; rw [h1, List.reverse_reverse, if_pos hr]; exact hcall
  · simp only [j_step, hc, j_do]; rw [h1, List.reverse_reverse, if_pos hr]; exact hcall
theorem j_recv_of {q t n : Nat} {v : Value} {as2 : List Value} (h : j_fld m q t n = some v) : j_recv m t (.ref (q + 1) :: as2) = true := by
  obtain ⟨fs, h1, -⟩ := j_fldE h
  simp [j_recv, h1]
end J21
