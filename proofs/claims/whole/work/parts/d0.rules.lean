/-! ===== the prologue: constructors over a memory A ++ object ++ what it made ===== -/
def j_df (t : Nat) : List Value := (List.range (j_N t)).map (fun k => defaultValue (j_fty t k))
def k_m (a b : Nat) (A : List jE) (t : Nat) (fs : List Value) (R : List jE) : jM := (a, b, true, A ++ (t, fs) :: R)
/-- the constructor k of the tag t, at the cell z, leaves rT there and behind -/
def k_C (X : List Int32) (d k t z na nb : Nat) (rT : List jE) : Prop := ∀ (a b : Nat) (A : List jE), A.length = z → j_Ev X d k [.ref (z + 1)] (a, b, true, A ++ [(t, j_df t)]) (.inl none, (a + na, b + nb, true, A ++ rT))
section SD0
variable {X : List Int32} {d k i a b s t f nf r : Nat} {A R : List jE} {fs L S : List Value} {o : jO} {mt : jMt}
theorem k_at0 (hs : A.length = s) : (A ++ (t, fs) :: R)[s]? = some (t, fs) := by
  subst hs; simp
theorem k_set0 {x : jE} (hs : A.length = s) : (A ++ (t, fs) :: R).set s x = A ++ x :: R := by
  subst hs; simp
theorem k_end (hs : A.length = s) (hR : R.length = r) {x : jE} : (A ++ (t, fs) :: (R ++ [x])) = (A ++ (t, fs) :: R) ++ [x] := by simp
theorem k_len (hs : A.length = s) (hR : R.length = r) : (A ++ (t, fs) :: R).length = s + 1 + r := by
  simp [hs, hR]; omega
/-- the superclass's constructor -/
theorem k_obj {p0 p1 x0 y0 x1 y1 z1 : Nat} (hk : jP[k]? = some mt) (c0 : mt.1[i]? = some (2, p0, 0, x0, y0)) (c1 : mt.1[i + 1]? = some (44, p1, x1, y1, z1)) (hL : L[0]? = some (.ref (s + 1))) {m : jM} (h : j_Go X d k (i + 2, L, []) m o) : j_Go X d k (i, L, []) m o := by
  refine gs_aload hk c0 hL rfl ?_
  exact g_step hk (by simp only [j_step, c1, j_do]; rfl) h
theorem k_put {v : Value} {op p c : Nat} (hk : jP[k]? = some mt) (hc : mt.1[i]? = some (op, p, t, f, c)) (hop : op = 17 ∨ op = 18) (hs : A.length = s) (hf : fs.length = nf) (hb : f < nf) (hv : fits (j_fty t f) v = true) (h : ∀ fs2 : List Value, fs2 = fs.set f v → fs2.length = nf → j_Go X d k (i + 1, L, S) (k_m a b A t fs2 R) o) : j_Go X d k (i, L, v :: .ref (s + 1) :: S) (k_m a b A t fs R) o := by
  have h0 := h _ rfl (List.length_set.trans hf)
  have h1 : j_at (k_m a b A t fs R) s = some (t, fs) := k_at0 hs
  have h2 : j_up (k_m a b A t fs R) s (t, fs.set f v) = k_m a b A t (fs.set f v) R := by
    simp only [j_up, k_m, k_set0 hs]
  rw [← h2] at h0
  rcases hop with rfl | rfl
  · exact g_step hk (by simp only [j_step, hc, j_do, h1]; rw [if_pos ⟨trivial, by omega, hv⟩]; rfl) h0
  · exact g_step hk (by simp only [j_step, hc, j_do, h1]; rw [if_pos ⟨trivial, by omega, hv⟩]; rfl) h0
theorem k_new {p t' x y : Nat} {M : List jE} (hk : jP[k]? = some mt) (hc : mt.1[i]? = some (19, p, t', x, y)) (h : j_Go X d k (i + 1, L, .ref (M.length + 1) :: S) (a + 1, b + j_N t', true, M ++ [(t', j_df t')]) o) : j_Go X d k (i, L, S) (a, b, true, M) o :=
  g_step hk (by simp only [j_step, hc, j_do]; rfl) h
theorem k_newa {op p tt x y n : Nat} {M : List jE} (hk : jP[k]? = some mt) (hc : mt.1[i]? = some (op, p, tt, x, y)) (hop : op = 20 ∨ op = 21) (hn : n ≤ 1000000) (h : j_Go X d k (i + 1, L, .ref (M.length + 1) :: S) (a + 1, b + n, true, M ++ [(tt, List.replicate n (j_dft tt))]) o) : j_Go X d k (i, L, .int (Int32.ofNat n) :: S) (a, b, true, M) o := by
  have h1 : ¬ (Int32.ofNat n < 0 ∨ 1000000 < n) := by
    rintro (e | e)
    · exact u_lt0 (by omega) e
    · omega
  have h2 : (Int32.ofNat n).toNatClampNeg = n := u_cl (by omega)
  rcases hop with rfl | rfl
  · exact g_step hk (by simp only [j_step, hc, j_do, h2]; rw [if_neg h1, if_pos trivial]; rfl) h
  · exact g_step hk (by simp only [j_step, hc, j_do, h2]; rw [if_neg h1, if_pos trivial]; rfl) h
/-- new T; dup; T.<init> -/
theorem k_mk {p1 t' x1 y1 p2 x2 y2 z2 op3 p3 k' z na nb nn : Nat} {M rT : List jE} (hk : jP[k]? = some mt) (c1 : mt.1[i]? = some (19, p1, t', x1, y1)) (c2 : mt.1[i + 1]? = some (13, p2, x2, y2, z2)) (c3 : mt.1[i + 2]? = some (op3, p3, k', 1, t')) (h3 : op3 = 31 ∨ op3 = 32) (hS : ¬ 8 < ((S.map fun v => v.category).sum + 1)) (hz : M.length = z) (hN : j_N t' = nn) (hC : k_C X d k' t' z na nb rT) (h : j_Go X (d + 1) k (i + 3, L, .ref (z + 1) :: S) (a + (1 + na), b + (nn + nb), true, M ++ rT) o) : j_Go X (d + 1) k (i, L, S) (a, b, true, M) o := by
  refine k_new hk c1 ?_
  rw [hz, hN]
  refine gs_dup hk c2 rfl rfl ?_
  have hr : j_recv ((a + 1, b + nn, true, M ++ [(t', j_df t')]) : jM) t' [.ref (z + 1)] = true := by
    have : j_at ((a + 1, b + nn, true, M ++ [(t', j_df t')]) : jM) z = some (t', j_df t') := by
      subst hz; simp [j_at]
    simp [j_recv, this]
  refine gs_call (as := [.ref (z + 1)]) (rest := .ref (z + 1) :: S) hk c3 (Or.inr (Or.inr (Or.inr ⟨?_, hr⟩))) rfl rfl rfl ?_ (hC (a + 1) (b + nn) M hz) rfl ?_
  · rcases h3 with rfl | rfl
    · exact Or.inr (Or.inr (Or.inl rfl))
    · exact Or.inr (Or.inr (Or.inr rfl))
  · simp only [List.map_cons, List.sum_cons]
    have : (Value.ref (z + 1)).category = 1 := rfl
    rw [this]; omega
  · rw [Nat.add_assoc a 1 na, Nat.add_assoc b nn nb]; exact h
/-- this.f = new T() -/
theorem k_ctor {p0 x0 y0 p1 t' x1 y1 p2 x2 y2 z2 op3 p3 k' op4 p4 y4 z na nb nn nT : Nat} {rT : List jE} (hk : jP[k]? = some mt) (c0 : mt.1[i]? = some (2, p0, 0, x0, y0)) (c1 : mt.1[i + 1]? = some (19, p1, t', x1, y1)) (c2 : mt.1[i + 2]? = some (13, p2, x2, y2, z2)) (c3 : mt.1[i + 3]? = some (op3, p3, k', 1, t')) (h3 : op3 = 31 ∨ op3 = 32) (c4 : mt.1[i + 4]? = some (op4, p4, t, f, y4)) (h4 : op4 = 17 ∨ op4 = 18) (hL : L[0]? = some (.ref (s + 1))) (hs : A.length = s) (hR : R.length = r) (hz : s + 1 + r = z) (hf : fs.length = nf) (hb : f < nf) (hft : ∀ q, fits (j_fty t f) (.ref q) = true) (hN : j_N t' = nn) (hT : rT.length = nT) (hC : k_C X d k' t' z na nb rT) (h : ∀ (fs2 : List Value) (R2 : List jE), fs2 = fs.set f (.ref (z + 1)) → fs2.length = nf → R2 = R ++ rT → R2.length = r + nT → j_Go X (d + 1) k (i + 5, L, []) (k_m (a + (1 + na)) (b + (nn + nb)) A t fs2 R2) o) : j_Go X (d + 1) k (i, L, []) (k_m a b A t fs R) o := by
  refine gs_aload hk c0 hL rfl ?_
  refine k_mk (z := z) hk c1 c2 c3 h3 (by simp [Value.category]) (by rw [k_len hs hR, hz]) hN hC ?_
  have e : A ++ (t, fs) :: R ++ rT = A ++ (t, fs) :: (R ++ rT) := by simp
  rw [e]
  exact k_put hk c4 h4 hs hf hb (hft _) (fun fs2 e1 l1 => h fs2 (R ++ rT) e1 l1 rfl (by rw [List.length_append, hR, hT]))
/-- this.f = new int[n] -/
theorem k_arr {p0 x0 y0 p1 n x1 y1 op2 p2 tt x2 y2 op3 p3 y3 z : Nat} (hk : jP[k]? = some mt) (c0 : mt.1[i]? = some (2, p0, 0, x0, y0)) (c1 : mt.1[i + 1]? = some (0, p1, n, x1, y1)) (c2 : mt.1[i + 2]? = some (op2, p2, tt, x2, y2)) (h2 : op2 = 20 ∨ op2 = 21) (c3 : mt.1[i + 3]? = some (op3, p3, t, f, y3)) (h3 : op3 = 17 ∨ op3 = 18) (hL : L[0]? = some (.ref (s + 1))) (hs : A.length = s) (hR : R.length = r) (hz : s + 1 + r = z) (hf : fs.length = nf) (hb : f < nf) (hft : ∀ q, fits (j_fty t f) (.ref q) = true) (hn : n ≤ 1000000) (h : ∀ (fs2 : List Value) (R2 : List jE), fs2 = fs.set f (.ref (z + 1)) → fs2.length = nf → R2 = R ++ [(tt, List.replicate n (j_dft tt))] → R2.length = r + 1 → j_Go X d k (i + 4, L, []) (k_m (a + 1) (b + n) A t fs2 R2) o) : j_Go X d k (i, L, []) (k_m a b A t fs R) o := by
  refine gs_aload hk c0 hL rfl ?_
  refine gs_push hk c1 rfl rfl ?_
  refine k_newa hk c2 h2 hn ?_
  rw [k_len hs hR, hz]
  have e : A ++ (t, fs) :: R ++ [(tt, List.replicate n (j_dft tt))] = A ++ (t, fs) :: (R ++ [(tt, List.replicate n (j_dft tt))]) := by simp
  rw [e]
  exact k_put hk c3 h3 hs hf hb (hft _) (fun fs2 e1 l1 => h fs2 _ e1 l1 rfl (by rw [List.length_append, hR]; rfl))
/-- this.f = n -/
theorem k_int {p0 x0 y0 p1 n x1 y1 op2 p2 y2 : Nat} (hk : jP[k]? = some mt) (c0 : mt.1[i]? = some (2, p0, 0, x0, y0)) (c1 : mt.1[i + 1]? = some (0, p1, n, x1, y1)) (c2 : mt.1[i + 2]? = some (op2, p2, t, f, y2)) (h2 : op2 = 17 ∨ op2 = 18) (hL : L[0]? = some (.ref (s + 1))) (hs : A.length = s) (hf : fs.length = nf) (hb : f < nf) (hft : fits (j_fty t f) (.int (Int32.ofNat n)) = true) (h : ∀ (fs2 : List Value), fs2 = fs.set f (.int (Int32.ofNat n)) → fs2.length = nf → j_Go X d k (i + 3, L, []) (k_m a b A t fs2 R) o) : j_Go X d k (i, L, []) (k_m a b A t fs R) o := by
  refine gs_aload hk c0 hL rfl ?_
  refine gs_push hk c1 rfl rfl ?_
  exact k_put hk c2 h2 hs hf hb hft h
/-- this.f[j] = new T(), over a whole list of cells with the row f among them -/
theorem k_elem {p0 x0 y0 p1 y1 p2 x2 y2 p3 t' x3 y3 p4 x4 y4 z4 op5 p5 k' p6 ta x6 y6 z y j na nb nn g q : Nat} {A2 Q rT rest : List jE} {vs fs' gs : List Value} (hk : jP[k]? = some mt) (c0 : mt.1[i]? = some (2, p0, 0, x0, y0)) (c1 : mt.1[i + 1]? = some (16, p1, t, f, y1)) (c2 : mt.1[i + 2]? = some (1, p2, 1, x2, y2)) (c3 : mt.1[i + 3]? = some (19, p3, t', x3, y3)) (c4 : mt.1[i + 4]? = some (13, p4, x4, y4, z4)) (c5 : mt.1[i + 5]? = some (op5, p5, k', 1, t')) (h5 : op5 = 31 ∨ op5 = 32) (c6 : mt.1[i + 6]? = some (25, p6, ta, x6, y6)) (hL : L[0]? = some (.ref (s + 1))) (hL1 : L[1]? = some (.int (Int32.ofNat j))) (hA : A2.length = y) (hQ : Q.length = q) (hz : y + 1 + q = z) (hj : j < 1000) (hjv : vs.length = g) (hjg : j < g) (m0 : A2[s]? = some (t, fs')) (m1 : fs'[f]? = some (.ref (y + 1))) (hN : j_N t' = nn) (hcomp : t' = j_comp ta) (hT : rT = (t', gs) :: rest) (hC : k_C X d k' t' z na nb rT) (h : j_Go X (d + 1) k (i + 7, L, []) (a + (1 + na), b + (nn + nb), true, A2 ++ (ta, vs.set j (.ref (z + 1))) :: (Q ++ rT)) o) : j_Go X (d + 1) k (i, L, []) (a, b, true, A2 ++ (ta, vs) :: Q) o := by
  have hs : s < A2.length := (List.getElem?_eq_some_iff.mp m0).1
  have hM : (A2 ++ (ta, vs) :: Q).length = z := by rw [k_len hA hQ, hz]
  refine gs_aload hk c0 hL rfl ?_
  refine gs_get (v := .ref (y + 1)) hk c1 ?_ rfl ?_
  · have : (A2 ++ (ta, vs) :: Q)[s]? = some (t, fs') := by rw [List.getElem?_append_left hs]; exact m0
    simp only [j_fld, j_at, this, if_true]; exact m1
  refine gs_iload hk c2 hL1 rfl ?_
  refine k_mk (z := z) hk c3 c4 c5 h5 (by simp [Value.category]) hM hN hC ?_
  have e0 : (A2 ++ (ta, vs) :: Q) ++ rT = A2 ++ (ta, vs) :: (Q ++ rT) := by simp
  have a2' : ((A2 ++ (ta, vs) :: Q) ++ rT)[z]? = some (t', gs) := by
    rw [← hM, hT]; simp
  rw [e0] at a2' ⊢
  have a1 : j_at ((a + (1 + na), b + (nn + nb), true, A2 ++ (ta, vs) :: (Q ++ rT)) : jM) y = some (ta, vs) := k_at0 hA
  have a2 : j_at ((a + (1 + na), b + (nn + nb), true, A2 ++ (ta, vs) :: (Q ++ rT)) : jM) z = some (t', gs) := a2'
  have n1 : ¬ (Int32.ofNat j < 0 ∨ vs.length ≤ (Int32.ofNat j).toNatClampNeg) := by
    rw [u_cl (by omega)]
    rintro (e | e)
    · exact u_lt0 (by omega) e
    · omega
  have e : j_up ((a + (1 + na), b + (nn + nb), true, A2 ++ (ta, vs) :: (Q ++ rT)) : jM) y (ta, vs.set j (.ref (z + 1))) = (a + (1 + na), b + (nn + nb), true, A2 ++ (ta, vs.set j (.ref (z + 1))) :: (Q ++ rT)) := by
    simp only [j_up, k_set0 hA]
  rw [← e] at h
  refine g_step hk ?_ h
  simp only [j_step, c6, j_do, a1, a2]
  rw [if_pos ⟨trivial, hcomp⟩, if_neg n1, u_cl (by omega)]
  rfl
/-- what a loop over an index looks at -/
theorem k_head {p0 x0 y0 p1 n x1 y1 p2 e y2 j : Nat} {m : jM} (hk : jP[k]? = some mt) (c0 : mt.1[i]? = some (1, p0, 1, x0, y0)) (c1 : mt.1[i + 1]? = some (0, p1, n, x1, y1)) (c2 : mt.1[i + 2]? = some (9, p2, 3, e, y2)) (hL1 : L[1]? = some (.int (Int32.ofNat j))) (hn : n < 1000) (hj : j < 1000) (hT : j < n → j_Go X d k (i + 3, L, []) m o) (hF : ¬ j < n → j_Go X d k (e, L, []) m o) : j_Go X d k (i, L, []) m o := by
  refine gs_iload hk c0 hL1 rfl ?_
  refine gs_push hk c1 rfl rfl ?_
  by_cases hh : j < n
  · refine gs_icF hk c2 ?_ rfl (hT hh)
    have : Int32.ofNat j < Int32.ofNat n := (u_lt (by omega) (by omega)).mpr hh
    simp [j_cond, this]
  · refine gs_icT hk c2 ?_ (hF hh)
    have : ¬ Int32.ofNat j < Int32.ofNat n := fun h => hh ((u_lt (by omega) (by omega)).mp h)
    simp [j_cond, this]
theorem k_eq {a a' b b' : Nat} {l l' : List jE} (h1 : a = a') (h2 : b = b') (h3 : l = l') : ((.inl none, (a, b, true, l)) : jO) = (.inl none, (a', b', true, l')) := by rw [h1, h2, h3]
end SD0
