/-! ===== what stays: frames; repetition that writes ===== -/
def s_fr (m m' : jM) (W : List Nat) : Prop := m'.1 = m.1 ∧ m'.2.1 = m.2.1 ∧ m'.2.2.2.length = m.2.2.2.length ∧ ∀ q, q ∉ W → j_at m' q = j_at m q
theorem s_fr.refl (m : jM) (W : List Nat) : s_fr m m W := ⟨rfl, rfl, rfl, fun _ _ => rfl⟩
theorem s_fr.trans {m m' m2 : jM} {W : List Nat} (h : s_fr m m' W) (h2 : s_fr m' m2 W) : s_fr m m2 W := by
  obtain ⟨a1, a2, a4, a5⟩ := h
  obtain ⟨b1, b2, b4, b5⟩ := h2
  exact ⟨b1.trans a1, b2.trans a2, b4.trans a4, fun q hq => (b5 q hq).trans (a5 q hq)⟩
theorem s_fr.mono {m m' : jM} {W V : List Nat} (h : s_fr m m' W) (hv : ∀ q, q ∈ W → q ∈ V) : s_fr m m' V :=
  ⟨h.1, h.2.1, h.2.2.1, fun q hq => h.2.2.2 q (fun hw => hq (hv q hw))⟩
theorem s_fr.fld {m m' : jM} {W : List Nat} (h : s_fr m m' W) {q t b : Nat} (hq : q ∉ W) : j_fld m' q t b = j_fld m q t b := by
  simp only [j_fld, h.2.2.2 q hq]
theorem s_fr.arr {m m' : jM} {W : List Nat} (h : s_fr m m' W) {q t : Nat} (hq : q ∉ W) : j_arr m' q t = j_arr m q t := by
  simp only [j_arr, h.2.2.2 q hq]
theorem s_fr_put (m : jM) (q b : Nat) (v : Value) : s_fr m (j_put m q b v) [q] := by
  refine ⟨?_, ?_, ?_, fun q' hq' => j_at_put (fun h => hq' (by rw [h]; exact List.mem_singleton.mpr rfl))⟩ <;>
  · unfold j_put
    cases j_at m q <;> simp [j_up]
theorem s_fr_sto (m : jM) (q b : Nat) (v : Value) : s_fr m (j_sto m q b v) [q] := s_fr_put m q b v
theorem g_rex {X : List Int32} {d k : Nat} {n : Nat} {st : Nat → jF} {m : jM} (Inv : Nat → jM → Prop) (h0 : Inv 0 m) (h : ∀ j m, j < n → Inv j m → ∃ m', Inv (j + 1) m' ∧ ∀ o, j_Go X d k (st (j + 1)) m' o → j_Go X d k (st j) m o) : ∃ m', Inv n m' ∧ ∀ o, j_Go X d k (st n) m' o → j_Go X d k (st 0) m o := by
  induction n with
  | zero => exact ⟨m, h0, fun _ h => h⟩
  | succ n ih =>
    obtain ⟨m1, i1, h1⟩ := ih (fun j m hj => h j m (Nat.lt_succ_of_lt hj))
    obtain ⟨m2, i2, h2⟩ := h n m1 (Nat.lt_succ_self n) i1
    exact ⟨m2, i2, fun o ho => h1 o (h2 o ho)⟩
theorem j_cpy_len (vs us : List Value) (sp dp n : Nat) : (j_cpy vs us sp dp n).length = us.length := by simp [j_cpy]
theorem j_cpy_get {vs us : List Value} {sp dp n i : Nat} : (j_cpy vs us sp dp n).getD i .null = if i < us.length then (if dp ≤ i ∧ i < dp + n then .int (j_iv (vs.getD (sp + (i - dp)) .null)) else us.getD i .null) else .null := by
  by_cases h : i < us.length
  · simp [j_cpy, h]
  · simp [j_cpy, h]
theorem j_cpy_0 (vs us : List Value) (sp dp : Nat) : j_cpy vs us sp dp 0 = us := by
  apply List.ext_getElem (j_cpy_len ..)
  intro i h1 h2
  have hn : ¬ (dp ≤ i ∧ i < dp) := by omega
  simp [j_cpy, hn, h2]
theorem j_cpy_s {vs us : List Value} {sp dp n : Nat} : (j_cpy vs us sp dp n).set (dp + n) (.int (j_iv (vs.getD (sp + n) .null))) = j_cpy vs us sp dp (n + 1) := by
  apply List.ext_getElem (by simp [j_cpy_len])
  intro i h1 h2
  rw [List.getElem_set]
  have hi : i < us.length := by simpa [j_cpy_len] using h2
  by_cases he : dp + n = i
  · subst he
    have hp : dp ≤ dp + n ∧ dp + n < dp + (n + 1) := by omega
    simp [j_cpy]
  · rw [if_neg he]
    have : (dp ≤ i ∧ i < dp + n) ↔ (dp ≤ i ∧ i < dp + (n + 1)) := by omega
    simp [j_cpy, this]
