/-! ===== ONE INSTRUCTION on arrays, and the calls that the kit knows as one step ===== -/
theorem j_iv_set {vs : List Value} {i : Nat} {x : Int32} (h : i < vs.length) : (fun j => j_iv ((vs.set i (.int x)).getD j .null)) = upd (fun j => j_iv (vs.getD j .null)) i x := by
  funext j
  simp only [upd, List.getD_eq_getElem?_getD]
  by_cases hj : j = i
  · subst hj; simp [h, j_iv]
  · rw [if_neg hj, List.getElem?_set_ne (fun e => hj e.symm)]
theorem j_lv_set {vs : List Value} {i : Nat} {x : Int64} (h : i < vs.length) : (fun j => j_lv ((vs.set i (.long x)).getD j .null)) = vp_updL (fun j => j_lv (vs.getD j .null)) i x := by
  funext j
  simp only [vp_updL, List.getD_eq_getElem?_getD]
  by_cases hj : j = i
  · subst hj; simp [h, j_lv]
  · rw [if_neg hj, List.getElem?_set_ne (fun e => hj e.symm)]
theorem j_rv_set {b base : Nat} {vs : List Value} {i z : Nat} (h : i < vs.length) : (fun j => j_rv b base ((vs.set i (.ref (z + 1))).getD j .null)) = va_up (fun j => j_rv b base (vs.getD j .null)) i (some (base + z)) := by
  funext j
  simp only [va_up, List.getD_eq_getElem?_getD]
  by_cases hj : j = i
  · subst hj; simp [h, j_rv]
  · rw [if_neg hj, List.getElem?_set_ne (fun e => hj e.symm)]
theorem j_rf_rv {b base : Nat} {v : Value} (hr : v = .null ∨ ∃ x, v = .ref x) : va_rf (j_rv b base v) = j_rl b base v := by
  rcases hr with rfl | ⟨x, rfl⟩
  · rfl
  · cases x <;> rfl
theorem j_sum {b base : Nat} {S : List Value} : ((S.map (j_rl b base)).map fun v => v.category).sum = (S.map fun v => v.category).sum := by
  rw [List.map_map]
  congr 1
  apply List.map_congr_left
  intro v _
  exact j_rl_cat v
section J9
variable {p : Program} {l : Launch} {e : Env} {R : Room} {s : State} {m : MethodId} {args : Array Value} {below : List Frame} {meth : Method} {c : Code} {Q : State → Prop}
variable {D : va_G} {γ : Nat → ClassId} {b base nL c0 s0 pc tgt : Nat} {X : List Int32} {own : String} {cc : ByteArray} {mm : jM} {L S : List Value}
def j_ald (a : Nat) : Instr := match a with
  | 50 => .iaload | 51 => .caload | _ => .baload
def j_ast (a : Nat) : Instr := match a with
  | 50 => .iastore | 51 => .castore | _ => .bastore
theorem jo_ald (C0 : j_C p l R s m meth c D γ b base X own cc nL) {a q : Nat} {j : Int32} {vs : List Value} (ha : a = 50 ∨ a = 51 ∨ a = 52) (hdg : decode cc pc = .ok (j_ald a, 1)) (hm : j_at mm q = some (a, vs)) (hj : ¬ (j < 0 ∨ vs.length ≤ j.toNatClampNeg))
    (kk : j_G p l e R s m args below meth c Q D γ b base nL c0 s0 mm (pc + 1) L (.int (j_iv (vs.getD j.toNatClampNeg .null)) :: S)) : j_G p l e R s m args below meth c Q D γ b base nL c0 s0 mm pc L (.int j :: .ref (q + 1) :: S) := by
  intro H locs cells slots ls hI hL hc hs
  have k' := kk H locs cells slots ls hI hL hc hs
  have he := j_ws_get (γ := γ) (b := b) (base := base) hm
  rw [j_e_int ha] at he
  obtain ⟨k0, hk0⟩ := j_tp (γ := γ) (t := a) (by omega)
  rcases ha with rfl | rfl | rfl
  · exact va_iald C0.1 C0.2.1 C0.2.2.2.2.1.1 hI.1.1 q k0 he hk0 hj hdg k'
  · exact va_cald C0.1 C0.2.1 C0.2.2.2.2.1.1 hI.1.1 q k0 he hk0 hj hdg k'
  · exact va_zald C0.1 C0.2.1 C0.2.2.2.2.1.1 hI.1.1 q k0 he hk0 hj hdg k'
theorem j_stc {cA : ClassId} {n i : Nat} {f : Nat → Int32} {x : Int32} : (vp_cell cA (n, .inl f)).setSlot i (.int x) = vp_cell cA (n, .inl (upd f i x)) := by
  rw [vp_cell_i, vp_cell_i, arrV_store]
  congr 2
  funext q
  by_cases hq : q = i
  · subst hq; simp [updV, upd]
  · simp [updV, upd, hq]
theorem j_stl {cA : ClassId} {n i : Nat} {f : Nat → Int64} {x : Int64} : (vp_cell cA (n, .inr (.inl f))).setSlot i (.long x) = vp_cell cA (n, .inr (.inl (vp_updL f i x))) := by
  rw [vp_cell_l, vp_cell_l, arrV_store]
  congr 2
  funext q
  by_cases hq : q = i
  · subst hq; simp [updV, vp_updL]
  · simp [updV, vp_updL, hq]
theorem j_stq {cA : ClassId} {n i v : Nat} {f : Nat → Option Nat} : (vp_cell cA (n, .inr (.inr (.inr (.inr f))))).setSlot i (.ref v) = vp_cell cA (n, .inr (.inr (.inr (.inr (va_up f i (some v)))))) := by
  rw [vp_cell_q, vp_cell_q, arrV_store]
  congr 2
  funext q
  by_cases hq : q = i
  · subst hq; simp [updV, va_up, va_rf]
  · simp [updV, va_up, hq]
theorem jo_ast (C0 : j_C p l R s m meth c D γ b base X own cc nL) {a q : Nat} {j x : Int32} {vs : List Value} (ha : a = 50 ∨ a = 51 ∨ a = 52) (hdg : decode cc pc = .ok (j_ast a, 1)) (hm : j_at mm q = some (a, vs)) (hj : ¬ (j < 0 ∨ vs.length ≤ j.toNatClampNeg))
    (kk : j_G p l e R s m args below meth c Q D γ b base nL c0 s0 (j_up mm q (a, vs.set j.toNatClampNeg (.int (j_nar a x)))) (pc + 1) L S) : j_G p l e R s m args below meth c Q D γ b base nL c0 s0 mm pc L (.int x :: .int j :: .ref (q + 1) :: S) := by
  intro H locs cells slots ls hI hL hc hs
  have he := j_ws_get (γ := γ) (b := b) (base := base) hm
  rw [j_e_int ha] at he
  have hlt : j.toNatClampNeg < vs.length := Nat.not_le.mp fun q => hj (Or.inr q)
  obtain ⟨k0, hk0⟩ := j_tp (γ := γ) (t := a) (by omega)
  have hK := C0.2.2.2.2.1.1
  have fin : ∀ H1 : Heap, H1[base + q]? = some ((vp_cell (γ a) (vs.length, .inl (fun j => j_iv (vs.getD j .null)))).setSlot j.toNatClampNeg (.int (j_nar a x))) → H1.size = H.size → (∀ z, z ≠ base + q → H1[z]? = H[z]?) → W p l e R s m args below meth c H1 (locs ++ [⟨base + q, j.toNatClampNeg⟩]) cells slots Q (F0 m (pc + 1) ls (S.map (j_rl b base))) := by
    intro H1 e1 e2 e3
    refine kk H1 _ cells slots ls (j_set hI hm ?_ e2 e3) hL hc hs
    rw [j_e_int ha]
    show H1[base + q]? = some (vp_cell _ _)
    rw [e1, j_stc, List.length_set, j_iv_set hlt]
  rcases ha with rfl | rfl | rfl
  · exact W.iast C0.1 C0.2.1 (hI.1.1 q _ he) ((hK.2 k0 _ hk0).1 vs.length (fun j => .int (j_iv (vs.getD j .null)))) (fun q => by cases q) (by show ¬ (j < 0 ∨ (arrV _ _ _).slots.size ≤ _); rw [arrV_size]; exact hj) rfl rfl hdg fun H1 e z oq => fin H1 e z oq
  · exact W.cast C0.1 C0.2.1 (hI.1.1 q _ he) ((hK.2 k0 _ hk0).1 vs.length (fun j => .int (j_iv (vs.getD j .null)))) (fun q => by cases q) (by show ¬ (j < 0 ∨ (arrV _ _ _).slots.size ≤ _); rw [arrV_size]; exact hj) rfl rfl hdg fun H1 e z oq => fin H1 e z oq
  · exact W.zast C0.1 C0.2.1 (hI.1.1 q _ he) ((hK.2 k0 _ hk0).1 vs.length (fun j => .int (j_iv (vs.getD j .null)))) (fun q => by cases q) (by show ¬ (j < 0 ∨ (arrV _ _ _).slots.size ≤ _); rw [arrV_size]; exact hj) rfl rfl hdg fun H1 e z oq => fin H1 e z oq
theorem jo_lald (C0 : j_C p l R s m meth c D γ b base X own cc nL) {q : Nat} {j : Int32} {vs : List Value} (hdg : decode cc pc = .ok (.laload, 1)) (hm : j_at mm q = some (53, vs)) (hj : ¬ (j < 0 ∨ vs.length ≤ j.toNatClampNeg))
    (kk : j_G p l e R s m args below meth c Q D γ b base nL c0 s0 mm (pc + 1) L (.long (j_lv (vs.getD j.toNatClampNeg .null)) :: S)) : j_G p l e R s m args below meth c Q D γ b base nL c0 s0 mm pc L (.int j :: .ref (q + 1) :: S) := by
  intro H locs cells slots ls hI hL hc hs
  have he := j_ws_get (γ := γ) (b := b) (base := base) hm
  rw [j_e_long] at he
  obtain ⟨k0, hk0⟩ := j_tp (γ := γ) (t := 53) (by omega)
  exact va_lald C0.1 C0.2.1 C0.2.2.2.2.1.1 hI.1.1 q k0 he hk0 hj hdg (kk H locs cells slots ls hI hL hc hs)
theorem jo_last (C0 : j_C p l R s m meth c D γ b base X own cc nL) {q : Nat} {j : Int32} {x : Int64} {vs : List Value} (hdg : decode cc pc = .ok (.lastore, 1)) (hm : j_at mm q = some (53, vs)) (hj : ¬ (j < 0 ∨ vs.length ≤ j.toNatClampNeg))
    (kk : j_G p l e R s m args below meth c Q D γ b base nL c0 s0 (j_up mm q (53, vs.set j.toNatClampNeg (.long x))) (pc + 1) L S) : j_G p l e R s m args below meth c Q D γ b base nL c0 s0 mm pc L (.long x :: .int j :: .ref (q + 1) :: S) := by
  intro H locs cells slots ls hI hL hc hs
  have he := j_ws_get (γ := γ) (b := b) (base := base) hm
  rw [j_e_long] at he
  have hlt : j.toNatClampNeg < vs.length := Nat.not_le.mp fun q => hj (Or.inr q)
  obtain ⟨k0, hk0⟩ := j_tp (γ := γ) (t := 53) (by omega)
  have hK := C0.2.2.2.2.1.1
  refine W.last C0.1 C0.2.1 (hI.1.1 q _ he) ((hK.2 k0 _ hk0).1 vs.length (fun j => .long (j_lv (vs.getD j .null)))) (fun q => by cases q) (by show ¬ (j < 0 ∨ (arrV _ _ _).slots.size ≤ _); rw [arrV_size]; exact hj) rfl rfl hdg fun H1 e1 e2 e3 => ?_
  refine kk H1 _ cells slots ls (j_set hI hm ?_ e2 e3) hL hc hs
  rw [j_e_long]
  show H1[base + q]? = some (vp_cell _ _)
  rw [e1, List.length_set, j_lv_set hlt]
  exact congrArg some j_stl
theorem jo_aald (C0 : j_C p l R s m meth c D γ b base X own cc nL) {a q : Nat} {j : Int32} {vs : List Value} {v : Value} (ha : a = 60 ∨ a = 61 ∨ a = 62) (hdg : decode cc pc = .ok (.aaload, 1)) (hm : j_at mm q = some (a, vs)) (hj : ¬ (j < 0 ∨ vs.length ≤ j.toNatClampNeg)) (hv : vs.getD j.toNatClampNeg (.int 0) = v) (hr : v = .null ∨ ∃ x, v = .ref x)
    (kk : j_G p l e R s m args below meth c Q D γ b base nL c0 s0 mm (pc + 1) L (v :: S)) : j_G p l e R s m args below meth c Q D γ b base nL c0 s0 mm pc L (.int j :: .ref (q + 1) :: S) := by
  intro H locs cells slots ls hI hL hc hs
  have k' := kk H locs cells slots ls hI hL hc hs
  have he := j_ws_get (γ := γ) (b := b) (base := base) hm
  rw [j_e_ref (by omega)] at he
  have hlt : j.toNatClampNeg < vs.length := Nat.not_le.mp fun q => hj (Or.inr q)
  obtain ⟨k0, hk0⟩ := j_tp (γ := γ) (t := a) (by omega)
  have hv2 : vs.getD j.toNatClampNeg .null = v := by
    rw [← hv, List.getD_eq_getElem?_getD, List.getD_eq_getElem?_getD]
    simp [hlt]
  have hty : j_ty a = .object (j_an a) := by rcases ha with rfl | rfl | rfl <;> rfl
  rw [hty] at hk0
  refine va_aldq C0.1 C0.2.1 C0.2.2.2.2.1.1 hI.1.1 q k0 he hk0 hj hdg ?_
  have e1 : va_rf (j_rv b base (vs.getD j.toNatClampNeg .null)) = j_rl b base v := by rw [hv2]; exact j_rf_rv hr
  show W p l e R s m args below meth c H locs cells slots Q (F0 m (pc + 1) ls (va_rf (j_rv b base (vs.getD j.toNatClampNeg .null)) :: S.map (j_rl b base)))
  rw [e1]
  exact k'
theorem jo_aast (C0 : j_C p l R s m meth c D γ b base X own cc nL) {a q z : Nat} {j : Int32} {vs us : List Value} (ha : a = 60 ∨ a = 61 ∨ a = 62) (hdg : decode cc pc = .ok (.aastore, 1)) (hm : j_at mm q = some (a, vs)) (hz : j_at mm z = some (j_comp a, us)) (hj : ¬ (j < 0 ∨ vs.length ≤ j.toNatClampNeg))
    (kk : j_G p l e R s m args below meth c Q D γ b base nL c0 s0 (j_up mm q (a, vs.set j.toNatClampNeg (.ref (z + 1)))) (pc + 1) L S) : j_G p l e R s m args below meth c Q D γ b base nL c0 s0 mm pc L (.ref (z + 1) :: .int j :: .ref (q + 1) :: S) := by
  intro H locs cells slots ls hI hL hc hs
  have he := j_ws_get (γ := γ) (b := b) (base := base) hm
  rw [j_e_ref (by omega)] at he
  have hlt : j.toNatClampNeg < vs.length := Nat.not_le.mp fun q => hj (Or.inr q)
  have h0 : ¬ j < 0 := fun q => hj (Or.inl q)
  obtain ⟨k0, hk0⟩ := j_tp (γ := γ) (t := a) (by omega)
  have hK := C0.2.2.2.2.1.1
  have hcomp13 : j_comp a < 13 := by rcases ha with rfl | rfl | rfl <;> decide
  have hcl := j_cl (j_comp a) hcomp13
  have hv := j_ws_get (γ := γ) (b := b) (base := base) hz
  rw [j_e_obj (by omega)] at hv
  obtain ⟨r', hr', cellV, g1, g2, g3, -⟩ := hI.1.1 z _ hv
  have hcls := (hK.1 (j_comp a) _ hcl).2
  have hra := (hK.2 k0 _ hk0).2
  have hty : j_ty a = .object (j_R (j_comp a)) := by rcases ha with rfl | rfl | rfl <;> rfl
  rw [hty] at hra hk0
  obtain ⟨kA, comp, k1, k2, k3, -⟩ := hra
  have hcomp : comp = D.1 (j_comp a) := Option.some.inj (k3.symm.trans hcls.1)
  subst hcomp
  obtain ⟨kC, hkC, -⟩ := id hcls.2
  refine W.aast C0.1 C0.2.1 (hI.1.1 q _ he) (fun q h => by cases h) (fun h => by cases h) k1 k2 rfl hkC ⟨h0, by show _ < (arrV _ _ _).slots.size; rw [arrV_size]; exact hlt⟩ g1 (fun q h => by rw [g3] at h; cases h) (by rw [g2]; exact hkC) (by rw [g2]; exact va_assign hcls) rfl rfl hdg fun H1 e1 e2 e3 => ?_
  refine kk H1 _ cells slots ls (j_set hI hm ?_ e2 e3) hL hc hs
  rw [j_e_ref (by omega)]
  show H1[base + q]? = some (vp_cell _ _)
  rw [e1, List.length_set, j_rv_set hlt]
  exact congrArg some j_stq
theorem jo_slen (C0 : j_C p l R s m meth c D γ b base X own cc nL) (hdg : decode cc pc = .ok (.arraylength, 1)) (kk : j_G p l e R s m args below meth c Q D γ b base nL c0 s0 mm (pc + 1) L (.int (Int32.ofNat X.length) :: S)) : j_G p l e R s m args below meth c Q D γ b base nL c0 s0 mm pc L (.ref 0 :: S) := by
  intro H locs cells slots ls hI hL hc hs
  obtain ⟨-, hX, hb, hbs, -⟩ := C0.2.2.2.2.1
  exact va_slen C0.1 C0.2.1 hX (by omega) (A := fun q => base ≤ q) (by simp; omega) hI.2 hdg (kk H locs cells slots ls hI hL hc hs)
theorem jo_sld (C0 : j_C p l R s m meth c D γ b base X own cc nL) {j : Int32} (hdg : decode cc pc = .ok (.iaload, 1)) (hj : ¬ (j < 0 ∨ X.length ≤ j.toNatClampNeg)) (kk : j_G p l e R s m args below meth c Q D γ b base nL c0 s0 mm (pc + 1) L (.int (X.getD j.toNatClampNeg 0) :: S)) : j_G p l e R s m args below meth c Q D γ b base nL c0 s0 mm pc L (.int j :: .ref 0 :: S) := by
  intro H locs cells slots ls hI hL hc hs
  obtain ⟨-, hX, hb, hbs, -⟩ := C0.2.2.2.2.1
  exact va_sld C0.1 C0.2.1 hX (by omega) (A := fun q => base ≤ q) (by simp; omega) hI.2 hj hdg (kk H locs cells slots ls hI hL hc hs)
theorem jo_obj (C0 : j_C p l R s m meth c D γ b base X own cc nL) {cp q : Nat} (hdg : decode cc pc = .ok (.invokespecial cp, 3)) (hw : Cond.methodLink own cp objectInit ∈ lw_tbl) (hS : ¬ 8 < (S.map fun v => v.category).sum) (kk : j_G p l e R s m args below meth c Q D γ b base nL c0 s0 mm (pc + 3) L S) : j_G p l e R s m args below meth c Q D γ b base nL c0 s0 mm pc L (.ref (q + 1) :: S) := by
  intro H locs cells slots ls hI hL hc hs
  have h300 := C0.2.2.2.2.2.2.2
  have h10 := C0.2.2.2.2.2.2.1
  exact W.objInit C0.1 C0.2.1 C0.2.2.2.1 (j_word C0 hw) (j_word C0 j_oi1) (j_word C0 j_oi2) rfl (by show ls.size = _; rw [hL.1.1, C0.2.2.1]) rfl hdg (by omega) (by
    show 2 * 0 + ((S.map (j_rl b base)).map fun v => v.category).sum + 12 ≤ _
    rw [j_sum]; omega) (kk H locs cells slots ls hI hL hc hs)
theorem jo_max (C0 : j_C p l R s m meth c D γ b base X own cc nL) {cp : Nat} {x y : Int32} (hdg : decode cc pc = .ok (.invokestatic cp, 3)) (hw : Cond.methodLink own cp Lib.Math.max.name ∈ lw_tbl) (hS : ¬ 8 < (S.map fun v => v.category).sum) (hR1 : mm.1 ≤ c0 + R.cells) (hR2 : mm.2.1 ≤ s0 + R.slots)
    (kk : j_G p l e R s m args below meth c Q D γ b base nL c0 s0 mm (pc + 3) L (.int (if x < y then y else x) :: S)) : j_G p l e R s m args below meth c Q D γ b base nL c0 s0 mm pc L (.int y :: .int x :: S) := by
  intro H locs cells slots ls hI hL hc hs
  have h300 := C0.2.2.2.2.2.2.2
  have h10 := C0.2.2.2.2.2.2.1
  exact va_mmax C0.1 C0.2.1 (by rw [hL.1.1, C0.2.2.1]) C0.2.2.2.1 (j_word C0 hw) (j_word C0 j_max1) (j_word C0 j_math) (j_word C0 j_max2) (by omega) (by rw [j_sum]; omega) (by omega) (by omega) hdg (kk H locs cells slots ls hI hL hc hs)
theorem jo_min (C0 : j_C p l R s m meth c D γ b base X own cc nL) {cp : Nat} {x y : Int32} (hdg : decode cc pc = .ok (.invokestatic cp, 3)) (hw : Cond.methodLink own cp Lib.Math.min.name ∈ lw_tbl) (hS : ¬ 8 < (S.map fun v => v.category).sum) (hR1 : mm.1 ≤ c0 + R.cells) (hR2 : mm.2.1 ≤ s0 + R.slots)
    (kk : j_G p l e R s m args below meth c Q D γ b base nL c0 s0 mm (pc + 3) L (.int (if y < x then y else x) :: S)) : j_G p l e R s m args below meth c Q D γ b base nL c0 s0 mm pc L (.int y :: .int x :: S) := by
  intro H locs cells slots ls hI hL hc hs
  have h300 := C0.2.2.2.2.2.2.2
  have h10 := C0.2.2.2.2.2.2.1
  exact va_mmin C0.1 C0.2.1 (by rw [hL.1.1, C0.2.2.1]) C0.2.2.2.1 (j_word C0 hw) (j_word C0 j_min1) (j_word C0 j_math) (j_word C0 j_min2) (by omega) (by rw [j_sum]; omega) (by omega) (by omega) hdg (kk H locs cells slots ls hI hL hc hs)
theorem j_cpy_fn {vs us : List Value} {sp dp n : Nat} (h : dp + n ≤ us.length) : (fun j => j_iv ((j_cpy vs us sp dp n).getD j .null)) = va_cpy (fun j => j_iv (vs.getD j .null)) (fun j => j_iv (us.getD j .null)) sp dp n := by
  funext j
  simp only [j_cpy, va_cpy, List.getD_eq_getElem?_getD, List.getElem?_map]
  by_cases hj : j < us.length
  · rw [List.getElem?_range hj]
    simp only [Option.map_some, Option.getD_some]
    split
    · rfl
    · rfl
  · rw [if_neg (by omega), List.getElem?_eq_none (l := List.range us.length) (by simp; omega), List.getElem?_eq_none (l := us) (by omega)]
    rfl
theorem jo_acopy (C0 : j_C p l R s m meth c D γ b base X own cc nL) {cp q z : Nat} {sp dp n : Int32} {vs us : List Value} (hdg : decode cc pc = .ok (.invokestatic cp, 3)) (hw : Cond.methodLink own cp arraycopyName ∈ lw_tbl) (hq : j_at mm q = some (50, vs)) (hz : j_at mm z = some (50, us))
    (h1 : ¬ sp < 0) (h2 : ¬ dp < 0) (h3 : ¬ n < 0) (h4 : sp.toNatClampNeg + n.toNatClampNeg ≤ vs.length) (h5 : dp.toNatClampNeg + n.toNatClampNeg ≤ us.length) (hS : (S.map fun v => v.category).sum ≤ 8)
    (kk : j_G p l e R s m args below meth c Q D γ b base nL c0 s0 (mm.1, mm.2.1, false, mm.2.2.2.set z (50, j_cpy vs us sp.toNatClampNeg dp.toNatClampNeg n.toNatClampNeg)) (pc + 3) L S) : j_G p l e R s m args below meth c Q D γ b base nL c0 s0 mm pc L (.int n :: .int dp :: .ref (z + 1) :: .int sp :: .ref (q + 1) :: S) := by
  intro H locs cells slots ls hI hL hc hs
  have h300 := C0.2.2.2.2.2.2.2
  have h10 := C0.2.2.2.2.2.2.1
  have he0 := j_ws_get (γ := γ) (b := b) (base := base) hq
  rw [j_e_int (by omega)] at he0
  have he1 := j_ws_get (γ := γ) (b := b) (base := base) hz
  rw [j_e_int (by omega)] at he1
  refine va_copyi C0.1 C0.2.1 (by rw [hL.1.1, C0.2.2.1]) C0.2.2.2.1 (j_word C0 hw) (j_word C0 j_ac1) (j_word C0 j_ac2) (j_word C0 j_ac3) C0.2.2.2.2.1.1 hI.1.1 j_ws_D hI.2 q z 0 0 he0 he1 (ty := .int) rfl rfl rfl h1 h2 h3 h4 h5 (fun i hi => rfl) (by omega) (by
    rw [j_sum]
    have : nativeFrameWords "java/lang/System" "arraycopy" 5 = 7 := by decide +kernel
    omega) hdg fun H1 locs1 hP1 hD1 hS1 => ?_
  refine kk H1 locs1 cells slots ls ⟨⟨?_, ?_, fun h => by cases h⟩, hS1⟩ hL hc hs
  · rw [← j_ws_set, j_e_int (by omega), j_cpy_fn h5]
    simpa [j_cpy] using hP1
  · have hlen : z < mm.2.2.2.length := (List.getElem?_eq_some_iff.mp hz).1
    have hl : ((j_ws γ b base mm.2.2.2).set z (base + z, .inl (γ 50, us.length, .inl (va_cpy (fun j => j_iv (vs.getD j .null)) (fun j => j_iv (us.getD j .null)) sp.toNatClampNeg dp.toNatClampNeg n.toNatClampNeg)))).length = mm.2.2.2.length := by rw [List.length_set, j_ws_len]
    rw [List.length_set]
    have hx : mm.2.2.2.length - 1 < ((j_ws γ b base mm.2.2.2).set z (base + z, .inl (γ 50, us.length, .inl (va_cpy (fun j => j_iv (vs.getD j .null)) (fun j => j_iv (us.getD j .null)) sp.toNatClampNeg dp.toNatClampNeg n.toNatClampNeg)))).length := by omega
    have hlt := (hP1 _ _ (List.getElem?_eq_getElem hx)).lt
    have hadr : ∀ (k : Nat) (x : Nat × va_E), ((j_ws γ b base mm.2.2.2).set z (base + z, .inl (γ 50, us.length, .inl (va_cpy (fun j => j_iv (vs.getD j .null)) (fun j => j_iv (us.getD j .null)) sp.toNatClampNeg dp.toNatClampNeg n.toNatClampNeg))))[k]? = some x → x.1 = base + k := by
      intro k x hk
      by_cases hkz : z = k
      · subst hkz
        rw [List.getElem?_set_self (by rw [j_ws_len]; exact hlen)] at hk
        cases hk; rfl
      · rw [List.getElem?_set_ne hkz] at hk
        obtain ⟨c, -, rfl⟩ := j_ws_of hk
        rfl
    rw [hadr _ _ (List.getElem?_eq_getElem hx)] at hlt
    show base + mm.2.2.2.length ≤ H1.size
    omega
end J9
