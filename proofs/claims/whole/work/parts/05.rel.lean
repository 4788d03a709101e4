/-! ===== WHAT THE INTERPRETER'S STATES MEAN IN THE MACHINE ===== -/
def j_rl (b base : Nat) (v : Value) : Value := match v with
  | .ref 0 => .ref b
  | .ref (i + 1) => .ref (base + i)
  | v => v
def j_rv (b base : Nat) (v : Value) : Option Nat := match v with
  | .ref 0 => some b
  | .ref (i + 1) => some (base + i)
  | _ => none
def j_ty (t : Nat) : FieldType := match t with
  | 50 => .int | 51 => .char | 52 => .boolean | 53 => .long | 60 => .object RX7 | 61 => .object RX0 | _ => .object RX3
def j_tys (γ : Nat → ClassId) : List (ClassId × FieldType) := [(γ 50, .int), (γ 51, .char), (γ 52, .boolean), (γ 53, .long), (γ 60, .object RX7), (γ 61, .object RX0), (γ 62, .object RX3)]
def j_e (γ : Nat → ClassId) (b base : Nat) (c : jE) : va_E :=
  if c.1 < 50 then .inr (c.1, c.2.map (j_rl b base))
  else if c.1 = 53 then .inl (γ 53, c.2.length, .inr (.inl (fun j => j_lv (c.2.getD j .null))))
  else if c.1 < 60 then .inl (γ c.1, c.2.length, .inl (fun j => j_iv (c.2.getD j .null)))
  else .inl (γ c.1, c.2.length, .inr (.inr (.inr (.inr (fun j => j_rv b base (c.2.getD j .null))))))
def j_ws (γ : Nat → ClassId) (b base : Nat) (M : List jE) : va_W := M.mapIdx (fun i c => (base + i, j_e γ b base c))
theorem j_ws_get {γ : Nat → ClassId} {b base i : Nat} {M : List jE} {c : jE} (h : M[i]? = some c) : (j_ws γ b base M)[i]? = some (base + i, j_e γ b base c) := by
  simp [j_ws, h]
theorem j_ws_len {γ : Nat → ClassId} {b base : Nat} {M : List jE} : (j_ws γ b base M).length = M.length := by simp [j_ws]
theorem j_ws_of {γ : Nat → ClassId} {b base i : Nat} {M : List jE} {q : Nat × va_E} (h : (j_ws γ b base M)[i]? = some q) : ∃ c, M[i]? = some c ∧ q = (base + i, j_e γ b base c) := by
  simp only [j_ws, List.getElem?_mapIdx, Option.map_eq_some_iff] at h
  obtain ⟨c, h1, h2⟩ := h
  exact ⟨c, h1, h2.symm⟩
theorem j_ws_set {γ : Nat → ClassId} {b base i : Nat} {M : List jE} {c : jE} : (j_ws γ b base M).set i (base + i, j_e γ b base c) = j_ws γ b base (M.set i c) := by
  apply List.ext_getElem?
  intro k
  simp only [j_ws, List.getElem?_mapIdx, List.getElem?_set, List.length_mapIdx]
  by_cases hk : i = k
  · subst hk
    by_cases hl : i < M.length <;> simp [hl]
  · simp [hk]
theorem j_ws_app {γ : Nat → ClassId} {b base : Nat} {M : List jE} {c : jE} : j_ws γ b base M ++ [(base + M.length, j_e γ b base c)] = j_ws γ b base (M ++ [c]) := by
  simp [j_ws, List.mapIdx_append]
theorem j_ws_D {γ : Nat → ClassId} {b base : Nat} {M : List jE} : va_D (fun q => base ≤ q) (j_ws γ b base M) := by
  refine ⟨fun i j p q hi hj hpq => ?_, fun k q hk => ?_⟩
  · obtain ⟨c, -, rfl⟩ := j_ws_of hi
    obtain ⟨c', -, rfl⟩ := j_ws_of hj
    have : base + i = base + j := hpq
    omega
  · obtain ⟨c, -, rfl⟩ := j_ws_of hk
    exact Nat.le_add_right _ _
def j_H (D : va_G) (γ : Nat → ClassId) (b base : Nat) (m : jM) (H : Heap) : Prop := va_P D vwCl (j_ws γ b base m.2.2.2) H ∧ base + m.2.2.2.length ≤ H.size ∧ (m.2.2.1 = true → H.size = base + m.2.2.2.length)
def j_I (D : va_G) (γ : Nat → ClassId) (b base : Nat) (s : State) (m : jM) (H : Heap) (locs : List Loc) : Prop := j_H D γ b base m H ∧ va_S (fun q => base ≤ q) s.heap H locs
theorem j_set {D : va_G} {γ : Nat → ClassId} {b base i k : Nat} {s : State} {m : jM} {H H1 : Heap} {locs : List Loc} {c c' : jE} (h : j_I D γ b base s m H locs) (hm : j_at m i = some c) (he : va_at D vwCl (base + i, j_e γ b base c') H1) (hz : H1.size = H.size) (oq : ∀ q : Nat, q ≠ base + i → H1[q]? = H[q]?) : j_I D γ b base s (j_up m i c') H1 (locs ++ [⟨base + i, k⟩]) := by
  obtain ⟨⟨hP, h1, h2⟩, hS⟩ := h
  refine ⟨⟨?_, ?_, ?_⟩, hS.put hz oq (Nat.le_add_right _ _)⟩
  · have := hP.set j_ws_D (j_ws_get hm) he oq
    rw [j_ws_set] at this
    exact this
  · simp only [j_up, List.length_set]; omega
  · simp only [j_up, List.length_set]; intro hx; rw [hz]; exact h2 hx
theorem j_new {D : va_G} {γ : Nat → ClassId} {b base n : Nat} {s : State} {m : jM} {H H1 : Heap} {locs : List Loc} {c : jE} (h : j_I D γ b base s m H locs) (hx : m.2.2.1 = true) (he : va_at D vwCl (H.size, j_e γ b base c) H1) (hz : H1.size = H.size + 1) (oq : ∀ q : Nat, q < H.size → H1[q]? = H[q]?) : j_I D γ b base s (j_push m c n) H1 locs ∧ H.size = base + m.2.2.2.length := by
  obtain ⟨⟨hP, h1, h2⟩, hS⟩ := h
  have e := h2 hx
  refine ⟨⟨⟨?_, ?_, ?_⟩, ?_⟩, e⟩
  · have hk : ∀ (k : Nat) (x : Nat × va_E), (j_ws γ b base m.2.2.2)[k]? = some x → H1[x.1]? = H[x.1]? := fun k x hx => oq x.1 ((hP k x hx).lt)
    have := (hP.kept hk).app (w2 := [(base + m.2.2.2.length, j_e γ b base c)]) (fun k x hx => by
      have hz : k < 1 := (List.getElem?_eq_some_iff.mp hx).1
      rw [show k = 0 by omega] at hx
      cases hx
      rw [← e]
      exact he)
    rw [j_ws_app] at this
    exact this
  · simp only [j_push, List.length_append, List.length_singleton]; omega
  · intro _
    simp only [j_push, List.length_append, List.length_singleton]; omega
  · exact ⟨Nat.le_trans hS.1 (by omega), fun x h1 h2 => (oq x (Nat.lt_of_lt_of_le h1 hS.1)).trans (hS.2.1 x h1 h2), hS.2.2⟩
/-! locals -/
def j_lp (b base : Nat) (nL : Nat) (L : List Value) : List (Nat × Value) := (List.range nL).filterMap (fun i => (L[i]?).bind (fun v => if v = .retAddr 0 then none else some (i, j_rl b base v)))
theorem j_lp_mem {b base nL : Nat} {L : List Value} {q : Nat × Value} : q ∈ j_lp b base nL L ↔ q.1 < nL ∧ ∃ v, L[q.1]? = some v ∧ v ≠ .retAddr 0 ∧ q.2 = j_rl b base v := by
  simp only [j_lp, List.mem_filterMap, List.mem_range, Option.bind_eq_some_iff]
  constructor
  · rintro ⟨i, hi, v, hv, h⟩
    by_cases hr : v = .retAddr 0
    · rw [if_pos hr] at h; cases h
    · rw [if_neg hr] at h; cases h; exact ⟨hi, v, hv, hr, rfl⟩
  · rintro ⟨hi, v, hv, hr, h⟩
    exact ⟨q.1, hi, v, hv, by rw [if_neg hr, ← h]⟩
def j_L (b base nL : Nat) (ls : Array Slot) (L : List Value) : Prop := lv_has ls nL (j_lp b base nL L) ∧ L.length = nL ∧ ∀ (i : Nat) (v : Value), L[i]? = some v → v.category = 1
theorem j_L_at {b base nL i : Nat} {ls : Array Slot} {L : List Value} {v : Value} (h : j_L b base nL ls L) (hv : L[i]? = some v) (hr : v ≠ .retAddr 0) : ls[i]? = some (.val (j_rl b base v)) :=
  h.1.2.2 (i, j_rl b base v) (j_lp_mem.mpr ⟨by rw [← h.2.1]; exact (List.getElem?_eq_some_iff.mp hv).1, v, hv, hr, rfl⟩)
theorem j_rl_cat {b base : Nat} (v : Value) : (j_rl b base v).category = v.category := by
  cases v <;> try rfl
  rename_i a
  cases a <;> rfl
theorem j_L_set {b base nL i : Nat} {ls ls' : Array Slot} {L : List Value} {v : Value} (h : j_L b base nL ls L) (hc : v.category = 1) (h' : lv_has ls' nL ((i, j_rl b base v) :: (j_lp b base nL L).filter (fun q => !(q.1 == i) && !(q.1 + 1 == i && q.2.category == 2)))) : j_L b base nL ls' (L.set i v) := by
  obtain ⟨h1, h2, h3⟩ := h
  refine ⟨⟨h'.1, h'.2.1, fun q hq => h'.2.2 q ?_⟩, by simp [h2], fun k u hu => ?_⟩
  · obtain ⟨hl, u, hu, hr, hq2⟩ := j_lp_mem.mp hq
    by_cases hk : i = q.1
    · subst hk
      rw [List.getElem?_set_self (by omega)] at hu
      cases hu
      exact List.mem_cons.mpr (Or.inl (by rw [← hq2]))
    · rw [List.getElem?_set_ne hk] at hu
      refine List.mem_cons.mpr (Or.inr (List.mem_filter.mpr ⟨j_lp_mem.mpr ⟨hl, u, hu, hr, hq2⟩, ?_⟩))
      have hcat : q.2.category = 1 := by rw [hq2, j_rl_cat]; exact h3 _ _ hu
      have : ¬ q.1 = i := fun e => hk e.symm
      simp [this, hcat]
  · by_cases hk : i = k
    · subst hk
      by_cases hl : i < L.length
      · rw [List.getElem?_set_self hl] at hu; cases hu; exact hc
      · rw [List.getElem?_eq_none (by simp; omega)] at hu; cases hu
    · rw [List.getElem?_set_ne hk] at hu
      exact h3 _ _ hu
theorem j_L_unset {b base nL i : Nat} {ls : Array Slot} {L : List Value} (h : j_L b base nL ls L) : j_L b base nL ls (L.set i (.retAddr 0)) := by
  obtain ⟨h1, h2, h3⟩ := h
  refine ⟨⟨h1.1, h1.2.1, fun q hq => h1.2.2 q ?_⟩, by simp [h2], fun k u hu => ?_⟩
  · obtain ⟨hl, u, hu, hr, hq2⟩ := j_lp_mem.mp hq
    by_cases hk : i = q.1
    · subst hk
      by_cases hl : q.1 < L.length
      · rw [List.getElem?_set_self hl] at hu; cases hu; exact absurd rfl hr
      · rw [List.getElem?_eq_none (by simp; omega)] at hu; cases hu
    · rw [List.getElem?_set_ne hk] at hu
      exact j_lp_mem.mpr ⟨hl, u, hu, hr, hq2⟩
  · by_cases hk : i = k
    · subst hk
      by_cases hl : i < L.length
      · rw [List.getElem?_set_self hl] at hu; cases hu; rfl
      · rw [List.getElem?_eq_none (by simp; omega)] at hu; cases hu
    · rw [List.getElem?_set_ne hk] at hu
      exact h3 _ _ hu
/-! words -/
def j_good (w : Cond) : Bool := match w with
  | .arrayClass _ => true
  | w => w.onTables && (w.keepsH || w.keepsFace)
def j_W : List Cond := lw_tbl.filter j_good
def j_Ws (U : State) : Prop := ∀ w ∈ j_W, w.before #[] U = true
theorem j_use {w : Cond} {args args' : Array Value} {u U : State} (hg : j_good w = true) (hvm : u.vm = U.vm) (h : w.before args u = true) : w.before args' U = true := by
  cases w with
  | arrayClass ty =>
    simp only [Cond.before, Cond.holds, Cond.value] at h ⊢
    rw [← hvm]; exact h
  | _ => first | exact va_tabs (by simp only [j_good, Bool.and_eq_true] at hg; exact hg.1) hvm h
theorem j_warm {w : Cond} {s U : State} (hg : j_good w = true) (hW : s.WarmedH U.vm) (h : w.before #[] s = true) : w.before #[] U = true := by
  have key : (w.onTables && (w.keepsH || w.keepsFace)) = true → w.before #[] U = true := by
    intro hk
    simp only [Bool.and_eq_true, Bool.or_eq_true] at hk
    have h1 : w.before #[] (s.setVm U.vm) = true := by
      rcases hk.2 with hk2 | hk2
      · exact Cond.holds_shiftedH (State.Shifted.of_warmed hW) (fun m x hx => by rw [hW.hostNow]; exact hx) w [] hk2 h
      · exact Cond.before_shiftedFace (State.Shifted.of_warmed hW) w hk2 h
    exact va_tabs hk.1 (rfl : (s.setVm U.vm).vm = U.vm) h1
  cases w with
  | arrayClass ty =>
    have h1 : (Cond.arrayClass ty).before #[] (s.setVm U.vm) = true := Cond.before_shiftedFace (State.Shifted.of_warmed hW) _ rfl h
    exact j_use rfl (rfl : (s.setVm U.vm).vm = U.vm) h1
  | _ => first | exact key hg
theorem j_Ws_use {w : Cond} {args : Array Value} {U : State} (h : j_Ws U) (hw : w ∈ lw_tbl) (hg : j_good w = true) : w.before args U = true :=
  j_use hg rfl (h w (List.mem_filter.mpr ⟨hw, hg⟩))
theorem j_Ws_warm {s U : State} (h : j_Ws s) (hW : s.WarmedH U.vm) : j_Ws U := fun w hw => j_warm (List.mem_filter.mp hw).2 hW (h w hw)
theorem j_Ws_same {s U : State} (h : j_Ws s) (hvm : s.vm = U.vm) : j_Ws U := fun w hw => j_use (List.mem_filter.mp hw).2 hvm (h w hw)
def j_xn (x : Nat) : String := match x with
  | 0 => "java/lang/IllegalArgumentException" | 1 => "java/lang/IllegalStateException" | _ => "java/lang/IndexOutOfBoundsException"
/-- what a method finds at its start, but the cells -/
def j_K (D : va_G) (γ : Nat → ClassId) (b base : Nat) (X : List Int32) (U : State) : Prop :=
  va_K D vwCl (j_tys γ) U ∧ va_X b X.length (fun j => X.getD j 0) U U.heap ∧ b < base ∧ base ≤ U.heap.size ∧ j_Ws U ∧ (va_AO RX7 U ∧ va_AO RX0 U ∧ va_AO RX3 U) ∧
  vx_Zq Bundle.tN "UNASSIGNED_STACK" Bundle.steD (fun q => base ≤ q) U U.heap ∧ vx_Zq Bundle.tN "SUPPRESSED_SENTINEL" Bundle.listD (fun q => base ≤ q) U U.heap ∧ ∀ x y : Nat, x < 3 → y < 3 → x ≠ y → va_Nc (j_xn x) (j_xn y) U
theorem j_K_same {D : va_G} {γ : Nat → ClassId} {b base : Nat} {X : List Int32} {u U : State} (h : j_K D γ b base X u) (hvm : u.vm = U.vm) (hh : u.heap = U.heap) : j_K D γ b base X U := by
  obtain ⟨h1, h2, h3, h4, h5, ⟨h6, h7, h8⟩, h9, h10, h11⟩ := h
  have ha : u.vm.Alike U.vm := by rw [hvm]; exact Vm.Alike.refl _
  exact ⟨h1.moved ha, by rw [← hh]; exact h2.moved ha, h3, by rw [← hh]; exact h4, j_Ws_same h5 hvm, ⟨h6.moved ha, h7.moved ha, h8.moved ha⟩, by rw [← hh]; exact vx_Zq.moved ha h9, by rw [← hh]; exact vx_Zq.moved ha h10, fun x y hx hy hxy => (h11 x y hx hy hxy).moved ha⟩
theorem j_K_next {D : va_G} {γ : Nat → ClassId} {b base : Nat} {X : List Int32} {s U : State} {H : Heap} {locs : List Loc} (h : j_K D γ b base X s) (hW : s.WarmedH U.vm) (hH : U.heap = H) (hS : va_S (fun q => base ≤ q) s.heap H locs) : j_K D γ b base X U := by
  obtain ⟨h1, h2, h3, h4, h5, ⟨h6, h7, h8⟩, h9, h10, h11⟩ := h
  have ha := hW.alike
  subst hH
  exact ⟨h1.moved ha, (h2.kept (hS.2.1 b (by omega) (by simp; omega))).moved ha, h3, Nat.le_trans h4 hS.1, j_Ws_warm h5 hW, ⟨h6.moved ha, h7.moved ha, h8.moved ha⟩, vx_Zq.moved ha (h9.kept hS.2.1), vx_Zq.moved ha (h10.kept hS.2.1), fun x y hx hy hxy => (h11 x y hx hy hxy).moved ha⟩
