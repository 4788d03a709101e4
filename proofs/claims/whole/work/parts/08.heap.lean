/-! ===== ONE INSTRUCTION that reads or writes cells ===== -/
theorem j_e_obj {γ : Nat → ClassId} {b base t : Nat} {fs : List Value} (h : t < 50) : j_e γ b base (t, fs) = .inr (t, fs.map (j_rl b base)) := by simp [j_e, h]
theorem j_e_int {γ : Nat → ClassId} {b base t : Nat} {fs : List Value} (h : t = 50 ∨ t = 51 ∨ t = 52) : j_e γ b base (t, fs) = .inl (γ t, fs.length, .inl (fun j => j_iv (fs.getD j .null))) := by
  rcases h with rfl | rfl | rfl <;> simp [j_e]
theorem j_e_long {γ : Nat → ClassId} {b base : Nat} {fs : List Value} : j_e γ b base (53, fs) = .inl (γ 53, fs.length, .inr (.inl (fun j => j_lv (fs.getD j .null)))) := by simp [j_e]
theorem j_e_ref {γ : Nat → ClassId} {b base t : Nat} {fs : List Value} (h : 60 ≤ t) : j_e γ b base (t, fs) = .inl (γ t, fs.length, .inr (.inr (.inr (.inr (fun j => j_rv b base (fs.getD j .null)))))) := by
  simp [j_e, show ¬ t < 50 by omega, show ¬ t = 53 by omega, show ¬ t < 60 by omega]
theorem j_fits {b base : Nat} {ty : FieldType} {v : Value} : fits ty (j_rl b base v) = fits ty v := by
  cases v <;> try rfl
  rename_i a
  cases a <;> cases ty <;> rfl
def j_oty (ty : FieldType) : Bool := match ty with
  | .int | .boolean | .object _ | .array _ => true
  | _ => false
theorem j_narrow {ty : FieldType} {v : Value} (h : fits ty v = true) (ho : j_oty ty = true) : narrow ty v = v := by
  cases ty <;> simp [j_oty] at ho <;> cases v <;> simp [fits] at h <;> try rfl
  rcases h with rfl | rfl <;> rfl
theorem j_oty_all : ∀ t, t < 13 → ∀ k, k < j_N t → j_oty (j_fty t k) = true := by decide +kernel
section J8
variable {p : Program} {l : Launch} {e : Env} {R : Room} {s : State} {m : MethodId} {args : Array Value} {below : List Frame} {meth : Method} {c : Code} {Q : State → Prop}
variable {D : va_G} {γ : Nat → ClassId} {b base nL c0 s0 pc tgt : Nat} {X : List Int32} {own : String} {cc : ByteArray} {mm : jM} {L S : List Value}
theorem j_word (C0 : j_C p l R s m meth c D γ b base X own cc nL) {w : Cond} (hw : w ∈ lw_tbl) (hg : j_good w = true := by rfl) : w.before args s = true := j_Ws_use C0.2.2.2.2.1.2.2.2.2.1 hw hg
theorem j_hts (C0 : j_C p l R s m meth c D γ b base X own cc nL) : ∀ w ∈ j_W, w.before args s = true := fun w hw => j_Ws_use C0.2.2.2.2.1.2.2.2.2.1 (List.mem_filter.mp hw).1 (List.mem_filter.mp hw).2
theorem jo_get (C0 : j_C p l R s m meth c D γ b base X own cc nL) {a k cp q : Nat} {fs : List Value} {v : Value} (ha : a < 13) (hk : k < j_N a) (hdg : decode cc pc = .ok (.getfield cp, 3))
    (hw : Cond.fieldLink own cp (j_T a k).1 (j_T a k).2.1 (j_T a k).2.2.1 ∈ lw_tbl ∨ Cond.fieldLinkNest own cp (j_T a k).1 (j_T a k).2.1 (j_T a k).2.2.1 "NotebookWeir" ∈ lw_tbl) (hm : j_at mm q = some (a, fs)) (hv : fs[k]? = some v)
    (kk : j_G p l e R s m args below meth c Q D γ b base nL c0 s0 mm (pc + 3) L (v :: S)) : j_G p l e R s m args below meth c Q D γ b base nL c0 s0 mm pc L (.ref (q + 1) :: S) := by
  intro H locs cells slots ls hI hL hc hs
  have k' := kk H locs cells slots ls hI hL hc hs
  have he := j_ws_get (γ := γ) (b := b) (base := base) hm
  rw [j_e_obj (by omega)] at he
  have hv' : (fs.map (j_rl b base))[k]? = some (j_rl b base v) := by simp [hv]
  rcases hw with hw | hw
  · exact va_get C0.1 C0.2.1 (j_hts C0) (j_lay a ha) C0.2.2.2.1 C0.2.2.2.2.1.1 hI.1.1 q he (j_cl a ha) k hk (j_word C0 hw) (fun _ h => h) hv' hdg k'
  · exact va_getN C0.1 C0.2.1 (j_hts C0) (j_lay a ha) C0.2.2.2.1 C0.2.2.2.2.1.1 hI.1.1 q he (j_cl a ha) k hk (j_word C0 hw) (fun _ h => h) hv' hdg k'
theorem jo_put (C0 : j_C p l R s m meth c D γ b base X own cc nL) {a k cp q : Nat} {fs : List Value} {v : Value} (ha : a < 13) (hk : k < j_N a) (hdg : decode cc pc = .ok (.putfield cp, 3))
    (hw : Cond.fieldLink own cp (j_T a k).1 (j_T a k).2.1 (j_T a k).2.2.1 ∈ lw_tbl ∨ Cond.fieldLinkNest own cp (j_T a k).1 (j_T a k).2.1 (j_T a k).2.2.1 "NotebookWeir" ∈ lw_tbl) (hfin : (j_T a k).2.2.2 = false) (hm : j_at mm q = some (a, fs)) (hl : k < fs.length) (hf : fits (j_fty a k) v = true)
    (kk : j_G p l e R s m args below meth c Q D γ b base nL c0 s0 (j_up mm q (a, fs.set k v)) (pc + 3) L S) : j_G p l e R s m args below meth c Q D γ b base nL c0 s0 mm pc L (v :: .ref (q + 1) :: S) := by
  intro H locs cells slots ls hI hL hc hs
  have he := j_ws_get (γ := γ) (b := b) (base := base) hm
  rw [j_e_obj (by omega)] at he
  have hK := C0.2.2.2.2.1.1
  have hts := j_hts (args := args) C0
  have hown := C0.2.2.2.1
  have hcl := j_cl a ha
  have hin := j_lay a ha
  have hd := j_tyok a ha k hk
  have hf' : fits (j_fty a k) (j_rl b base v) = true := by rw [j_fits]; exact hf
  have hn' := j_narrow hf' (j_oty_all a ha k hk)
  have hl' : k < (fs.map (j_rl b base)).length := by simpa using hl
  have hap := va_apart (own := own) hts hin (j_fty a) (j_tyok a ha) (j_nm a ha) hK hcl
  obtain ⟨r, h1, cell, q1, q2, q3, q4⟩ := hI.1.1 q _ he
  have hr : r = (j_R a, j_T a, j_N a) := Option.some.inj (h1.symm.trans hcl)
  subst hr
  obtain ⟨hS, hfc, kC, hkC, hkind⟩ := hK.1 a _ hcl
  obtain ⟨cf, kf, fi, f, hi, hsl⟩ := hS k hk
  have hlay := hts _ (hin _ (u_in_lay hk))
  unfold u_lay at hlay
  rw [if_neg (by rw [hfin]; decide)] at hlay
  have hst := (u_facts hfc hkC (u_lays hts hin hk) hi).1
  have h6 := u_store hfc hkC hkind hlay hi hd hn' hf'
  have fin : ∀ H' : Heap, H'[base + q]? = some (cell.setSlot f.slot (j_rl b base v)) → H'.size = H.size → (∀ z, z ≠ base + q → H'[z]? = H[z]?) → W p l e R s m args below meth c H' (locs ++ [⟨base + q, f.slot⟩]) cells slots Q (F0 m (pc + 3) ls (S.map (j_rl b base))) := by
    intro H' e1 e2 e3
    refine kk H' _ cells slots ls (j_set hI hm ?_ e2 e3) hL hc hs
    rw [j_e_obj (by omega), List.map_set]
    rw [hsl] at e1
    exact ⟨_, hcl, t_OB.to (V := updV (vp_V (fs.map (j_rl b base))) k (j_rl b base v)) ⟨_, e1, q2, q3, t_set q4 hap hk _⟩ (fun j _ => vp_updV_set hl' _ j)⟩
  rcases hw with hw | hw
  · exact W.putK C0.1 C0.2.1 (f := f) ⟨hown, j_word C0 hw, ⟨_, _, _, hi⟩, hst⟩ (by rw [q2]; exact h6) q1 q3 (by rw [hsl]; exact k2_hasslot (q4 k hk)) rfl rfl hdg fin
  · exact va_WputK C0.1 C0.2.1 (f := f) hown (j_word C0 hw) hi hst (by rw [q2]; exact h6) q1 q3 (by rw [hsl]; exact k2_hasslot (q4 k hk)) rfl rfl hdg fin
theorem jo_putF (C0 : j_C p l R s m meth c D γ b base X own cc nL) {a k cp q : Nat} {fs : List Value} {v : Value} (ha : a < 13) (hk : k < j_N a) (hdg : decode cc pc = .ok (.putfield cp, 3))
    (hw : Cond.fieldLink own cp (j_T a k).1 (j_T a k).2.1 (j_T a k).2.2.1 ∈ lw_tbl) (hfin : (j_T a k).2.2.2 = true) (hin2 : meth.name = "<init>") (hdecl : (j_T a k).1 = own) (hm : j_at mm q = some (a, fs)) (hl : k < fs.length) (hf : fits (j_fty a k) v = true)
    (kk : j_G p l e R s m args below meth c Q D γ b base nL c0 s0 (j_up mm q (a, fs.set k v)) (pc + 3) L S) : j_G p l e R s m args below meth c Q D γ b base nL c0 s0 mm pc L (v :: .ref (q + 1) :: S) := by
  intro H locs cells slots ls hI hL hc hs
  have he := j_ws_get (γ := γ) (b := b) (base := base) hm
  rw [j_e_obj (by omega)] at he
  have hK := C0.2.2.2.2.1.1
  have hts := j_hts (args := args) C0
  have hown := C0.2.2.2.1
  have hcl := j_cl a ha
  have hin := j_lay a ha
  have hd := j_tyok a ha k hk
  have hf' : fits (j_fty a k) (j_rl b base v) = true := by rw [j_fits]; exact hf
  have hn' := j_narrow hf' (j_oty_all a ha k hk)
  have hl' : k < (fs.map (j_rl b base)).length := by simpa using hl
  have hap := va_apart (own := own) hts hin (j_fty a) (j_tyok a ha) (j_nm a ha) hK hcl
  obtain ⟨r, h1, cell, q1, q2, q3, q4⟩ := hI.1.1 q _ he
  have hr : r = (j_R a, j_T a, j_N a) := Option.some.inj (h1.symm.trans hcl)
  subst hr
  obtain ⟨hS, hfc, kC, hkC, hkind⟩ := hK.1 a _ hcl
  obtain ⟨cf, kf, fi, f, hi, hsl⟩ := hS k hk
  have hlay := hts _ (hin _ (u_in_lay hk))
  unfold u_lay at hlay
  rw [if_pos hfin] at hlay
  have hst := (u_facts hfc hkC (u_lays hts hin hk) hi).1
  have hcf : m.cls = cf := by
    obtain ⟨_, _, c', _, _, _, -, -, hf', -, -, -, hown2, -⟩ := Cond.laysFinal_spec hlay
    have e1 : c' = cf := by have := hi.symm.trans hf'; simp at this; exact this.1.symm
    rw [hdecl] at hown2
    rw [← e1]; exact Option.some.inj (hown.symm.trans hown2)
  have h6 := u_fits hfc hkC hkind (Or.inr hlay) hi hd hn' hf'
  refine W.putFinK C0.1 C0.2.1 hown (j_word C0 hw) hi hst hcf hin2 (by rw [q2]; exact h6) q1 q3 (by rw [hsl]; exact k2_hasslot (q4 k hk)) rfl rfl hdg fun H' e1 e2 e3 => ?_
  refine kk H' _ cells slots ls (j_set hI hm ?_ e2 e3) hL hc hs
  rw [j_e_obj (by omega), List.map_set]
  rw [hsl] at e1
  exact ⟨_, hcl, t_OB.to (V := updV (vp_V (fs.map (j_rl b base))) k (j_rl b base v)) ⟨_, e1, q2, q3, t_set q4 hap hk _⟩ (fun j _ => vp_updV_set hl' _ j)⟩
theorem j_rl_dflt {b base : Nat} {ty : FieldType} : j_rl b base (defaultValue ty) = defaultValue ty := by cases ty <;> rfl
theorem jo_new (C0 : j_C p l R s m meth c D γ b base X own cc nL) {a cp : Nat} (ha : a < 13) (hdg : decode cc pc = .ok (.new cp, 3)) (hw : Cond.classLink own cp (j_R a) ∈ lw_tbl) (hx : mm.2.2.1 = true) (hR1 : mm.1 + 1 ≤ c0 + R.cells) (hR2 : mm.2.1 + j_N a ≤ s0 + R.slots)
    (kk : j_G p l e R s m args below meth c Q D γ b base nL c0 s0 (j_push mm (a, (List.range (j_N a)).map (fun k => defaultValue (j_fty a k))) (j_N a)) (pc + 3) L (.ref (mm.2.2.2.length + 1) :: S)) : j_G p l e R s m args below meth c Q D γ b base nL c0 s0 mm pc L S := by
  intro H locs cells slots ls hI hL hc hs
  have hK := C0.2.2.2.2.1.1
  have hKn := hK.1 a _ (j_cl a ha)
  refine W.newcK C0.1 C0.2.1 C0.2.2.2.1 (j_word C0 hw) (j_word C0 (j_inst a ha)) (j_word C0 (j_init a ha)) rfl hdg (by omega) (by omega) hKn.2.1 rfl fun H1 kC hkC e1 z1 o1 => ?_
  obtain ⟨g1, g2⟩ := j_new (n := j_N a) (c := (a, (List.range (j_N a)).map (fun k => defaultValue (j_fty a k)))) hI hx (by
    rw [j_e_obj (by omega)]
    refine ⟨_, j_cl a ha, (u_born (j_fty a) (j_hts (args := args) C0) (j_lay a ha) hKn hkC e1 (j_tyok a ha)).to fun j hj => ?_⟩
    simp [vp_V, List.getD_eq_getElem?_getD, hj, j_rl_dflt]) z1 o1
  rw [g2]
  exact kk H1 locs (cells + 1) (slots + j_N a) ls g1 hL (by simp only [j_push]; omega) (by simp only [j_push]; omega)
theorem j_tp {t : Nat} (h : t = 50 ∨ t = 51 ∨ t = 52 ∨ t = 53 ∨ t = 60 ∨ t = 61 ∨ t = 62) : ∃ k : Nat, (j_tys γ)[k]? = some (γ t, j_ty t) := by
  rcases h with rfl | rfl | rfl | rfl | rfl | rfl | rfl
  · exact ⟨0, rfl⟩
  · exact ⟨1, rfl⟩
  · exact ⟨2, rfl⟩
  · exact ⟨3, rfl⟩
  · exact ⟨4, rfl⟩
  · exact ⟨5, rfl⟩
  · exact ⟨6, rfl⟩
def j_at8 (t : Nat) : ArrayType := match t with
  | 50 => .int | 51 => .char | 52 => .boolean | _ => .long
theorem jo_newa (C0 : j_C p l R s m meth c D γ b base X own cc nL) {a : Nat} {n : Int32} (ha : a = 50 ∨ a = 51 ∨ a = 52 ∨ a = 53) (hdg : decode cc pc = .ok (.newarray (j_at8 a), 2)) (hn : ¬ (n < 0 ∨ 1000000 < n.toNatClampNeg)) (hx : mm.2.2.1 = true) (hR1 : mm.1 + 1 ≤ c0 + R.cells) (hR2 : mm.2.1 + n.toNatClampNeg ≤ s0 + R.slots)
    (kk : j_G p l e R s m args below meth c Q D γ b base nL c0 s0 (j_push mm (a, List.replicate n.toNatClampNeg (j_dft a)) n.toNatClampNeg) (pc + 2) L (.ref (mm.2.2.2.length + 1) :: S)) : j_G p l e R s m args below meth c Q D γ b base nL c0 s0 mm pc L (.int n :: S) := by
  intro H locs cells slots ls hI hL hc hs
  have hK := C0.2.2.2.2.1.1
  have hn0 : ¬ n < 0 := fun h => hn (Or.inl h)
  have hnb : n.toNatClampNeg ≤ 1000000 := Nat.not_lt.mp fun h => hn (Or.inr h)
  obtain ⟨k0, hk0⟩ := j_tp (γ := γ) (t := a) (by omega)
  have hra := (hK.2 k0 _ hk0).2
  have hty : newarray.typeOf (j_at8 a) = j_ty a := by rcases ha with rfl | rfl | rfl | rfl <;> rfl
  have hfind : s.vm.findClass ("[" ++ (newarray.typeOf (j_at8 a)).toString) = some (γ a) := by
    rw [hty]
    rcases ha with rfl | rfl | rfl | rfl <;> exact hra
  refine va_newaK C0.1 C0.2.1 (atype := j_at8 a) (by
    rcases ha with rfl | rfl | rfl | rfl
    · exact j_word C0 j_arr50
    · exact j_word C0 j_arr51
    · exact j_word C0 j_arr52
    · exact j_word C0 j_arr53) rfl hdg rfl hn0 rfl (by
      have : componentBytes (newarray.typeOf (j_at8 a)) ≤ 8 := by rcases ha with rfl | rfl | rfl | rfl <;> decide
      calc n.toNatClampNeg * componentBytes (newarray.typeOf (j_at8 a)) ≤ 1000000 * 8 := Nat.mul_le_mul hnb this
        _ ≤ 536870912 := by decide) (by omega) (by omega) rfl fun H1 cA e1 z1 o1 hAr hNm => ?_
  have hcA : cA = γ a := Option.some.inj (hNm.symm.trans hfind)
  subst hcA
  obtain ⟨g1, g2⟩ := j_new (n := n.toNatClampNeg) (c := (a, List.replicate n.toNatClampNeg (j_dft a))) hI hx (by
    rcases ha with rfl | rfl | rfl | rfl
    · rw [j_e_int (by omega)]
      show H1[H.size]? = some (vp_cell _ _)
      rw [vp_cell_i, e1, List.length_replicate]
      congr 2; funext j; simp [j_dft, List.getD_eq_getElem?_getD, List.getElem?_replicate]; split <;> rfl
    · rw [j_e_int (by omega)]
      show H1[H.size]? = some (vp_cell _ _)
      rw [vp_cell_i, e1, List.length_replicate]
      congr 2; funext j; simp [j_dft, List.getD_eq_getElem?_getD, List.getElem?_replicate]; split <;> rfl
    · rw [j_e_int (by omega)]
      show H1[H.size]? = some (vp_cell _ _)
      rw [vp_cell_i, e1, List.length_replicate]
      congr 2; funext j; simp [j_dft, List.getD_eq_getElem?_getD, List.getElem?_replicate]; split <;> rfl
    · rw [j_e_long]
      show H1[H.size]? = some (vp_cell _ _)
      rw [vp_cell_l, e1, List.length_replicate]
      congr 2; funext j; simp [j_dft, List.getD_eq_getElem?_getD, List.getElem?_replicate]; split <;> rfl) z1 o1
  rw [g2]
  exact kk H1 locs (cells + 1) (slots + n.toNatClampNeg) ls g1 hL (by simp only [j_push]; omega) (by simp only [j_push]; omega)
def j_an (a : Nat) : String := match a with
  | 60 => RX7 | 61 => RX0 | _ => RX3
theorem jo_anew (C0 : j_C p l R s m meth c D γ b base X own cc nL) {a cp : Nat} {n : Int32} (ha : a = 60 ∨ a = 61 ∨ a = 62) (hdg : decode cc pc = .ok (.anewarray cp, 3)) (hw : Cond.classLink own cp (j_an a) ∈ lw_tbl) (hn : ¬ (n < 0 ∨ 1000000 < n.toNatClampNeg)) (hx : mm.2.2.1 = true) (hR1 : mm.1 + 1 ≤ c0 + R.cells) (hR2 : mm.2.1 + n.toNatClampNeg ≤ s0 + R.slots)
    (kk : j_G p l e R s m args below meth c Q D γ b base nL c0 s0 (j_push mm (a, List.replicate n.toNatClampNeg (j_dft a)) n.toNatClampNeg) (pc + 3) L (.ref (mm.2.2.2.length + 1) :: S)) : j_G p l e R s m args below meth c Q D γ b base nL c0 s0 mm pc L (.int n :: S) := by
  intro H locs cells slots ls hI hL hc hs
  have hK := C0.2.2.2.2.1.1
  have hAO := C0.2.2.2.2.1.2.2.2.2.2.1
  have hn0 : ¬ n < 0 := fun h => hn (Or.inl h)
  have hnb : n.toNatClampNeg ≤ 1000000 := Nat.not_lt.mp fun h => hn (Or.inr h)
  obtain ⟨k0, hk0⟩ := j_tp (γ := γ) (t := a) (by omega)
  have hra := (hK.2 k0 _ hk0).2
  have hty : j_ty a = .object (j_an a) := by rcases ha with rfl | rfl | rfl <;> rfl
  rw [hty] at hra
  obtain ⟨kA0, comp0, r1, r2, r3, r4⟩ := hra
  refine W.anew C0.1 C0.2.1 C0.2.2.2.1 (j_word C0 hw) (by
    rcases ha with rfl | rfl | rfl
    · exact va_AO.use hAO.1
    · exact va_AO.use hAO.2.1
    · exact va_AO.use hAO.2.2) rfl hdg rfl hn0 (by omega) (by omega) (by omega) fun cA kA comp f1 f2 f3 f4 => ?_
  have hcA : cA = γ a := Option.some.inj (f1.symm.trans r4)
  subst hcA
  generalize hH1 : H.push ({ cls := γ a, slots := Array.replicate n.toNatClampNeg .null, vm := .none } : Cell) = H1
  have z1 : H1.size = H.size + 1 := by rw [← hH1, Array.size_push]
  have e1 : H1[H.size]? = some (arrV (γ a) n.toNatClampNeg (fun _ => .null)) := by rw [← hH1, Array.getElem?_push_size, ← arrV_new]
  have o1 : ∀ q : Nat, q < H.size → H1[q]? = H[q]? := fun q hq => by rw [← hH1, Array.getElem?_push, if_neg (Nat.ne_of_lt hq)]
  obtain ⟨g1, g2⟩ := j_new (n := n.toNatClampNeg) (c := (a, List.replicate n.toNatClampNeg (j_dft a))) hI hx (by
    rw [j_e_ref (by omega)]
    show H1[H.size]? = some (vp_cell _ _)
    rw [vp_cell_q, e1, List.length_replicate]
    congr 2; funext j
    have : j_dft a = .null := by rcases ha with rfl | rfl | rfl <;> rfl
    rw [this]
    simp [List.getD_eq_getElem?_getD, List.getElem?_replicate]; split <;> rfl) z1 o1
  rw [g2]
  exact kk H1 locs (cells + 1) (slots + n.toNatClampNeg) ls g1 hL (by simp only [j_push]; omega) (by simp only [j_push]; omega)
end J8
