/-! ===== ONE INSTRUCTION: from the interpreter's step to the machine's (no cells are touched) ===== -/
section J6
variable {p : Program} {l : Launch} {e : Env} {R : Room} {s : State} {m : MethodId} {args : Array Value} {below : List Frame} {meth : Method} {c : Code} {Q : State → Prop}
variable {D : va_G} {γ : Nat → ClassId} {b base nL c0 s0 pc tgt : Nat} {X : List Int32} {own : String} {cc : ByteArray} {mm : jM} {L S : List Value}
/-- what stays in a method -/
def j_C (p : Program) (l : Launch) (R : Room) (s : State) (m : MethodId) (meth : Method) (c : Code) (D : va_G) (γ : Nat → ClassId) (b base : Nat) (X : List Int32) (own : String) (cc : ByteArray) (nL : Nat) : Prop :=
  p.tables.exec = Jvm.exec ∧ c.code = cc ∧ c.maxLocals = nL ∧ s.vm.findClass own = some m.cls ∧ j_K D γ b base X s ∧ meth.locks = false ∧ 10 ≤ R.frames ∧ 300 ≤ R.locals
/-- the goal of a walk: from here it comes to Q -/
def j_G (p : Program) (l : Launch) (e : Env) (R : Room) (s : State) (m : MethodId) (args : Array Value) (below : List Frame) (meth : Method) (c : Code) (Q : State → Prop) (D : va_G) (γ : Nat → ClassId) (b base nL c0 s0 : Nat) (mm : jM) (pc : Nat) (L S : List Value) : Prop :=
  ∀ (H : Heap) (locs : List Loc) (cells slots : Nat) (ls : Array Slot), j_I D γ b base s mm H locs → j_L b base nL ls L → c0 + cells = mm.1 → s0 + slots = mm.2.1 → W p l e R s m args below meth c H locs cells slots Q (F0 m pc ls (S.map (j_rl b base)))
theorem jo_iconst (C0 : j_C p l R s m meth c D γ b base X own cc nL) {n : Int} {v : Int32} (hdg : decode cc pc = .ok (.iconst n, 1)) (hv : Int32.ofInt n = v) (k : j_G p l e R s m args below meth c Q D γ b base nL c0 s0 mm (pc + 1) L (.int v :: S)) : j_G p l e R s m args below meth c Q D γ b base nL c0 s0 mm pc L S :=
  fun H locs cells slots ls hI hL hc hs => lv_iconst C0.1 C0.2.1 hdg hv (k H locs cells slots ls hI hL hc hs)
theorem jo_bipush (C0 : j_C p l R s m meth c D γ b base X own cc nL) {n : Int} {v : Int32} (hdg : decode cc pc = .ok (.bipush n, 2)) (hv : (Int8.ofInt n).toInt32 = v) (k : j_G p l e R s m args below meth c Q D γ b base nL c0 s0 mm (pc + 2) L (.int v :: S)) : j_G p l e R s m args below meth c Q D γ b base nL c0 s0 mm pc L S :=
  fun H locs cells slots ls hI hL hc hs => lv_bipush C0.1 C0.2.1 hdg hv (k H locs cells slots ls hI hL hc hs)
theorem jo_sipush (C0 : j_C p l R s m meth c D γ b base X own cc nL) {n : Int} {v : Int32} (hdg : decode cc pc = .ok (.sipush n, 3)) (hv : (Int16.ofInt n).toInt32 = v) (k : j_G p l e R s m args below meth c Q D γ b base nL c0 s0 mm (pc + 3) L (.int v :: S)) : j_G p l e R s m args below meth c Q D γ b base nL c0 s0 mm pc L S :=
  fun H locs cells slots ls hI hL hc hs => lv_sipush C0.1 C0.2.1 hdg hv (k H locs cells slots ls hI hL hc hs)
theorem jo_ldc (C0 : j_C p l R s m meth c D γ b base X own cc nL) {n : Nat} {v : Int32} (hdg : decode cc pc = .ok (.ldc n, 2)) (hw : Cond.constant own n v ∈ lw_tbl) (k : j_G p l e R s m args below meth c Q D γ b base nL c0 s0 mm (pc + 2) L (.int v :: S)) : j_G p l e R s m args below meth c Q D γ b base nL c0 s0 mm pc L S :=
  fun H locs cells slots ls hI hL hc hs => lv_ldc C0.1 C0.2.1 C0.2.2.2.1 (j_Ws_use C0.2.2.2.2.1.2.2.2.2.1 hw rfl) hdg (k H locs cells slots ls hI hL hc hs)
theorem jo_ldcw (C0 : j_C p l R s m meth c D γ b base X own cc nL) {n : Nat} {v : Int32} (hdg : decode cc pc = .ok (.ldc_w n, 3)) (hw : Cond.constant own n v ∈ lw_tbl) (k : j_G p l e R s m args below meth c Q D γ b base nL c0 s0 mm (pc + 3) L (.int v :: S)) : j_G p l e R s m args below meth c Q D γ b base nL c0 s0 mm pc L S :=
  fun H locs cells slots ls hI hL hc hs => lv_ldcw C0.1 C0.2.1 C0.2.2.2.1 (j_Ws_use C0.2.2.2.2.1.2.2.2.2.1 hw rfl) hdg (k H locs cells slots ls hI hL hc hs)
theorem jo_iload (C0 : j_C p l R s m meth c D γ b base X own cc nL) {a len : Nat} {x : Int32} (hdg : (decode cc pc = .ok (.iload_n (Fin.ofNat 4 a), 1) ∧ a < 4 ∧ len = 1) ∨ (decode cc pc = .ok (.iload a, 2) ∧ len = 2)) (hv : L[a]? = some (.int x)) (k : j_G p l e R s m args below meth c Q D γ b base nL c0 s0 mm (pc + len) L (.int x :: S)) : j_G p l e R s m args below meth c Q D γ b base nL c0 s0 mm pc L S := by
  intro H locs cells slots ls hI hL hc hs
  have h1 := j_L_at hL hv (by intro h; cases h)
  rcases hdg with ⟨hd, ha, rfl⟩ | ⟨hd, rfl⟩
  · exact lv_iload_n C0.1 C0.2.1 hd (i := a) (by simp [Fin.ofNat, Nat.mod_eq_of_lt ha]) h1 (k H locs cells slots ls hI hL hc hs)
  · exact lv_iload C0.1 C0.2.1 hd h1 (k H locs cells slots ls hI hL hc hs)
theorem lv_aloadV {H : Heap} {locs : List Loc} {cells slots : Nat} {ls : Array Slot} {rest : List Value} (hexec : p.tables.exec = Jvm.exec) (hb : c.code = cc) {i len : Nat} {v : Value} (hr : v.isRef = true) (hdg : (decode cc pc = .ok (.aload_n (Fin.ofNat 4 i), 1) ∧ i < 4 ∧ len = 1) ∨ (decode cc pc = .ok (.aload i, 2) ∧ len = 2)) (hl : ls[i]? = some (.val v))
    (k : W p l e R s m args below meth c H locs cells slots Q (F0 m (pc + len) ls (v :: rest))) : W p l e R s m args below meth c H locs cells slots Q (F0 m pc ls (rest)) := by
  intro T hT X
  obtain ⟨t, a, b⟩ := k T hT X
  refine ⟨t, ?_, b⟩
  rcases hdg with ⟨hd, ha, rfl⟩ | ⟨hd, rfl⟩
  · have hl' : ls[i % 4]? = some (.val v) := by rw [Nat.mod_eq_of_lt ha]; exact hl
    jvm_step X.here [X.here.top, hexec, hb, hd, hl', hr]
    exact a
  · jvm_step X.here [X.here.top, hexec, hb, hd, hl, hr]
    exact a
theorem j_rl_ref {x : Nat} : ∃ y : Nat, j_rl b base (.ref x) = .ref y := by
  cases x with
  | zero => exact ⟨b, rfl⟩
  | succ x => exact ⟨base + x, rfl⟩
theorem jo_aload (C0 : j_C p l R s m meth c D γ b base X own cc nL) {a len : Nat} {v : Value} (hdg : (decode cc pc = .ok (.aload_n (Fin.ofNat 4 a), 1) ∧ a < 4 ∧ len = 1) ∨ (decode cc pc = .ok (.aload a, 2) ∧ len = 2)) (hv : L[a]? = some v) (hr : v = .null ∨ ∃ x, v = .ref x) (k : j_G p l e R s m args below meth c Q D γ b base nL c0 s0 mm (pc + len) L (v :: S)) : j_G p l e R s m args below meth c Q D γ b base nL c0 s0 mm pc L S := by
  intro H locs cells slots ls hI hL hc hs
  have h1 := j_L_at hL hv (by rcases hr with rfl | ⟨x, rfl⟩ <;> (intro h; cases h))
  refine lv_aloadV C0.1 C0.2.1 (v := j_rl b base v) ?_ hdg h1 (k H locs cells slots ls hI hL hc hs)
  rcases hr with rfl | ⟨x, rfl⟩
  · rfl
  · obtain ⟨y, hy⟩ := j_rl_ref (b := b) (base := base) (x := x)
    rw [hy]; rfl
theorem jo_istore (C0 : j_C p l R s m meth c D γ b base X own cc nL) {a len : Nat} {x : Int32} (hdg : (decode cc pc = .ok (.istore_n (Fin.ofNat 4 a), 1) ∧ a < 4 ∧ len = 1) ∨ (decode cc pc = .ok (.istore a, 2) ∧ len = 2)) (ha : a < L.length) (k : j_G p l e R s m args below meth c Q D γ b base nL c0 s0 mm (pc + len) (L.set a (.int x)) S) : j_G p l e R s m args below meth c Q D γ b base nL c0 s0 mm pc L (.int x :: S) := by
  intro H locs cells slots ls hI hL hc hs
  have hn : a < nL := by rw [← hL.2.1]; exact ha
  rcases hdg with ⟨hd, h4, rfl⟩ | ⟨hd, rfl⟩
  · exact lv_istore_n C0.1 C0.2.1 hd (i := a) (by simp [Fin.ofNat, Nat.mod_eq_of_lt h4]) hL.1 hn rfl fun ls' h' => k H locs cells slots ls' hI (j_L_set hL rfl h') hc hs
  · exact lv_istore C0.1 C0.2.1 hd hL.1 hn rfl fun ls' h' => k H locs cells slots ls' hI (j_L_set hL rfl h') hc hs
theorem lv_astoreV {H : Heap} {locs : List Loc} {cells slots : Nat} {ls : Array Slot} {rest : List Value} (hexec : p.tables.exec = Jvm.exec) (hb : c.code = cc) {i len : Nat} {v : Value} (hr : v.isRef = true) (hcat : v.category = 1) (hdg : (decode cc pc = .ok (.astore_n (Fin.ofNat 4 i), 1) ∧ i < 4 ∧ len = 1) ∨ (decode cc pc = .ok (.astore i, 2) ∧ len = 2)) {lv : List (Nat × Value)} (h : lv_has ls nL lv) (hn : i < nL)
    (kk : ∀ ls' : Array Slot, lv_has ls' nL ((i, v) :: lv.filter (fun q => !(q.1 == i) && !(q.1 + 1 == i && q.2.category == 2))) → W p l e R s m args below meth c H locs cells slots Q (F0 m (pc + len) ls' rest)) : W p l e R s m args below meth c H locs cells slots Q (F0 m pc ls (v :: rest)) := by
  obtain ⟨ls', e', h'⟩ := lv_store1 (v := v) h hn hcat
  intro T hT X
  obtain ⟨t, a, b⟩ := kk ls' h' T hT X
  refine ⟨t, ?_, b⟩
  rcases hdg with ⟨hd, ha, rfl⟩ | ⟨hd, rfl⟩
  · have e2 : storeLocals ls (i % 4) v = some ls' := by rw [Nat.mod_eq_of_lt ha]; exact e'
    cases v <;> first | (cases hr; done) | (jvm_step X.here [X.here.top, ↓top_set X.here.top, hexec, hb, hd, e2, Value.isRef]; exact a)
  · cases v <;> first | (cases hr; done) | (jvm_step X.here [X.here.top, ↓top_set X.here.top, hexec, hb, hd, e', Value.isRef]; exact a)
theorem jo_astore (C0 : j_C p l R s m meth c D γ b base X own cc nL) {a len : Nat} {v : Value} (hr : v = .null ∨ ∃ x, v = .ref x) (hdg : (decode cc pc = .ok (.astore_n (Fin.ofNat 4 a), 1) ∧ a < 4 ∧ len = 1) ∨ (decode cc pc = .ok (.astore a, 2) ∧ len = 2)) (ha : a < L.length) (k : j_G p l e R s m args below meth c Q D γ b base nL c0 s0 mm (pc + len) (L.set a v) S) : j_G p l e R s m args below meth c Q D γ b base nL c0 s0 mm pc L (v :: S) := by
  intro H locs cells slots ls hI hL hc hs
  have hn : a < nL := by rw [← hL.2.1]; exact ha
  have hcat : v.category = 1 := by rcases hr with rfl | ⟨x, rfl⟩ <;> rfl
  have hir : (j_rl b base v).isRef = true := by
    rcases hr with rfl | ⟨x, rfl⟩
    · rfl
    · obtain ⟨y, hy⟩ := j_rl_ref (b := b) (base := base) (x := x)
      rw [hy]; rfl
  exact lv_astoreV C0.1 C0.2.1 hir (by rw [j_rl_cat]; exact hcat) hdg hL.1 hn fun ls' h' => k H locs cells slots ls' hI (j_L_set hL hcat h') hc hs
theorem jo_iinc (C0 : j_C p l R s m meth c D γ b base X own cc nL) {a : Nat} {n : Int} {x v : Int32} (hdg : decode cc pc = .ok (.iinc a n, 3)) (hx : L[a]? = some (.int x)) (hv : x + Int32.ofInt n = v) (k : j_G p l e R s m args below meth c Q D γ b base nL c0 s0 mm (pc + 3) (L.set a (.int v)) S) : j_G p l e R s m args below meth c Q D γ b base nL c0 s0 mm pc L S := by
  intro H locs cells slots ls hI hL hc hs
  have hn : a < nL := by rw [← hL.2.1]; exact (List.getElem?_eq_some_iff.mp hx).1
  have hm : (a, Value.int x) ∈ j_lp b base nL L := j_lp_mem.mpr ⟨hn, _, hx, (by intro h; cases h), rfl⟩
  obtain ⟨q, hq⟩ := List.getElem?_of_mem hm
  exact lv_iinc C0.1 C0.2.1 hdg hL.1 hq hv hn rfl fun ls' h' => k H locs cells slots ls' hI (j_L_set (v := .int v) hL rfl h') hc hs
def j_bi (a : Nat) : Instr := match a with
  | 0 => .iadd | 1 => .isub | 2 => .imul | 3 => .iand | 4 => .ior | 5 => .ixor | 6 => .ishl | 7 => .ishr | 8 => .iushr | 9 => .idiv | _ => .irem
theorem jo_bin (C0 : j_C p l R s m meth c D γ b base X own cc nL) {a : Nat} {x y z : Int32} (hdg : decode cc pc = .ok (j_bi a, 1)) (hz : j_bin a x y = some z) (k : j_G p l e R s m args below meth c Q D γ b base nL c0 s0 mm (pc + 1) L (.int z :: S)) : j_G p l e R s m args below meth c Q D γ b base nL c0 s0 mm pc L (.int y :: .int x :: S) := by
  intro H locs cells slots ls hI hL hc hs
  have k' := k H locs cells slots ls hI hL hc hs
  match a, hdg, hz with
  | 0, hdg, hz => cases hz; exact lv_iadd C0.1 C0.2.1 hdg k'
  | 1, hdg, hz => cases hz; exact lv_isub C0.1 C0.2.1 hdg k'
  | 2, hdg, hz => cases hz; exact lv_imul C0.1 C0.2.1 hdg k'
  | 3, hdg, hz => cases hz; exact lv_iand C0.1 C0.2.1 hdg k'
  | 4, hdg, hz => cases hz; exact lv_ior C0.1 C0.2.1 hdg k'
  | 5, hdg, hz => cases hz; exact lv_ixor C0.1 C0.2.1 hdg k'
  | 6, hdg, hz => cases hz; exact lv_ishl C0.1 C0.2.1 hdg k'
  | 7, hdg, hz => cases hz; exact lv_ishr C0.1 C0.2.1 hdg k'
  | 8, hdg, hz => cases hz; exact lv_iushr C0.1 C0.2.1 hdg rfl k'
  | 9, hdg, hz =>
    simp only [j_bin] at hz
    split at hz
    · cases hz
    · rename_i hne; cases hz; exact lv_idiv C0.1 C0.2.1 hdg hne k'
  | 10, hdg, hz =>
    simp only [j_bin] at hz
    split at hz
    · cases hz
    · rename_i hne; cases hz; exact lv_irem C0.1 C0.2.1 hdg hne k'
  | n + 11, hdg, hz => cases hz
theorem jo_ineg (C0 : j_C p l R s m meth c D γ b base X own cc nL) {x : Int32} (hdg : decode cc pc = .ok (.ineg, 1)) (k : j_G p l e R s m args below meth c Q D γ b base nL c0 s0 mm (pc + 1) L (.int (-x) :: S)) : j_G p l e R s m args below meth c Q D γ b base nL c0 s0 mm pc L (.int x :: S) :=
  fun H locs cells slots ls hI hL hc hs => lv_ineg C0.1 C0.2.1 hdg (k H locs cells slots ls hI hL hc hs)
theorem jo_i2c (C0 : j_C p l R s m meth c D γ b base X own cc nL) {x : Int32} (hdg : decode cc pc = .ok (.i2c, 1)) (k : j_G p l e R s m args below meth c Q D γ b base nL c0 s0 mm (pc + 1) L (.int (x.toUInt32 % 65536).toInt32 :: S)) : j_G p l e R s m args below meth c Q D γ b base nL c0 s0 mm pc L (.int x :: S) :=
  fun H locs cells slots ls hI hL hc hs => lv_i2c C0.1 C0.2.1 hdg rfl (k H locs cells slots ls hI hL hc hs)
def j_cd (a : Nat) : ClassFile.Cond := match a with
  | 0 => .eq | 1 => .ne | 2 => .lt | 3 => .ge | 4 => .gt | _ => .le
theorem jo_if (C0 : j_C p l R s m meth c D γ b base X own cc nL) {a : Nat} {x : Int32} {off : Int} (hdg : decode cc pc = .ok (.ifCond (j_cd a) off, 3)) (ht : (pc : Int) + off = (tgt : Int)) (kt : j_cond a x 0 = true → j_G p l e R s m args below meth c Q D γ b base nL c0 s0 mm tgt L S) (kf : j_cond a x 0 = false → j_G p l e R s m args below meth c Q D γ b base nL c0 s0 mm (pc + 3) L S) : j_G p l e R s m args below meth c Q D γ b base nL c0 s0 mm pc L (.int x :: S) := by
  intro H locs cells slots ls hI hL hc hs
  match a, hdg, kt, kf with
  | 0, hdg, kt, kf => exact lv_if_eq C0.1 C0.2.1 hdg ht (fun h => kt (by simp [j_cond, h]) H locs cells slots ls hI hL hc hs) (fun h => kf (by simp [j_cond, h]) H locs cells slots ls hI hL hc hs)
  | 1, hdg, kt, kf => exact lv_if_ne C0.1 C0.2.1 hdg ht (fun h => kt (by simp [j_cond, h]) H locs cells slots ls hI hL hc hs) (fun h => kf (by simp [j_cond, h]) H locs cells slots ls hI hL hc hs)
  | 2, hdg, kt, kf => exact lv_if_lt C0.1 C0.2.1 hdg ht (fun h => kt (by simp only [j_cond]; exact decide_eq_true h) H locs cells slots ls hI hL hc hs) (fun h => kf (by simp only [j_cond]; exact decide_eq_false h) H locs cells slots ls hI hL hc hs)
  | 3, hdg, kt, kf => exact lv_if_ge C0.1 C0.2.1 hdg ht (fun h => kt (by simp only [j_cond, Bool.not_eq_true']; exact decide_eq_false (Int32.not_lt.mpr h)) H locs cells slots ls hI hL hc hs) (fun h => kf (by simp only [j_cond, Bool.not_eq_false']; exact decide_eq_true (Int32.not_le.mp h)) H locs cells slots ls hI hL hc hs)
  | 4, hdg, kt, kf => exact lv_if_gt C0.1 C0.2.1 hdg ht (fun h => kt (by simp only [j_cond, Bool.not_eq_true']; exact decide_eq_false (Int32.not_le.mpr h)) H locs cells slots ls hI hL hc hs) (fun h => kf (by simp only [j_cond, Bool.not_eq_false']; exact decide_eq_true (Int32.not_lt.mp h)) H locs cells slots ls hI hL hc hs)
  | n + 5, hdg, kt, kf => exact lv_if_le C0.1 C0.2.1 hdg ht (fun h => kt (by simp only [j_cond]; exact decide_eq_true h) H locs cells slots ls hI hL hc hs) (fun h => kf (by simp only [j_cond]; exact decide_eq_false h) H locs cells slots ls hI hL hc hs)
theorem jo_icmp (C0 : j_C p l R s m meth c D γ b base X own cc nL) {a : Nat} {x y : Int32} {off : Int} (hdg : decode cc pc = .ok (.if_icmp (j_cd a) off, 3)) (ht : (pc : Int) + off = (tgt : Int)) (kt : j_cond a x y = true → j_G p l e R s m args below meth c Q D γ b base nL c0 s0 mm tgt L S) (kf : j_cond a x y = false → j_G p l e R s m args below meth c Q D γ b base nL c0 s0 mm (pc + 3) L S) : j_G p l e R s m args below meth c Q D γ b base nL c0 s0 mm pc L (.int y :: .int x :: S) := by
  intro H locs cells slots ls hI hL hc hs
  match a, hdg, kt, kf with
  | 0, hdg, kt, kf => exact lv_icmp_eq C0.1 C0.2.1 hdg ht (fun h => kt (by simp [j_cond, h]) H locs cells slots ls hI hL hc hs) (fun h => kf (by simp [j_cond, h]) H locs cells slots ls hI hL hc hs)
  | 1, hdg, kt, kf => exact lv_icmp_ne C0.1 C0.2.1 hdg ht (fun h => kt (by simp [j_cond, h]) H locs cells slots ls hI hL hc hs) (fun h => kf (by simp [j_cond, h]) H locs cells slots ls hI hL hc hs)
  | 2, hdg, kt, kf => exact lv_icmp_lt C0.1 C0.2.1 hdg ht (fun h => kt (by simp only [j_cond]; exact decide_eq_true h) H locs cells slots ls hI hL hc hs) (fun h => kf (by simp only [j_cond]; exact decide_eq_false h) H locs cells slots ls hI hL hc hs)
  | 3, hdg, kt, kf => exact lv_icmp_ge C0.1 C0.2.1 hdg ht (fun h => kt (by simp only [j_cond, Bool.not_eq_true']; exact decide_eq_false (Int32.not_lt.mpr h)) H locs cells slots ls hI hL hc hs) (fun h => kf (by simp only [j_cond, Bool.not_eq_false']; exact decide_eq_true (Int32.not_le.mp h)) H locs cells slots ls hI hL hc hs)
  | 4, hdg, kt, kf => exact lv_icmp_gt C0.1 C0.2.1 hdg ht (fun h => kt (by simp only [j_cond, Bool.not_eq_true']; exact decide_eq_false (Int32.not_le.mpr h)) H locs cells slots ls hI hL hc hs) (fun h => kf (by simp only [j_cond, Bool.not_eq_false']; exact decide_eq_true (Int32.not_lt.mp h)) H locs cells slots ls hI hL hc hs)
  | n + 5, hdg, kt, kf => exact lv_icmp_le C0.1 C0.2.1 hdg ht (fun h => kt (by simp only [j_cond]; exact decide_eq_true h) H locs cells slots ls hI hL hc hs) (fun h => kf (by simp only [j_cond]; exact decide_eq_false h) H locs cells slots ls hI hL hc hs)
theorem jo_goto (C0 : j_C p l R s m meth c D γ b base X own cc nL) {off : Int} (hdg : decode cc pc = .ok (.goto off, 3)) (ht : (pc : Int) + off = (tgt : Int)) (k : j_G p l e R s m args below meth c Q D γ b base nL c0 s0 mm tgt L S) : j_G p l e R s m args below meth c Q D γ b base nL c0 s0 mm pc L S :=
  fun H locs cells slots ls hI hL hc hs => lv_goto C0.1 C0.2.1 hdg ht (k H locs cells slots ls hI hL hc hs)
theorem jo_ifnull (C0 : j_C p l R s m meth c D γ b base X own cc nL) {v : Value} {off : Int} (hdg : decode cc pc = .ok (.ifnull off, 3)) (ht : (pc : Int) + off = (tgt : Int)) (hr : v = .null ∨ ∃ x, v = .ref x) (kt : v = .null → j_G p l e R s m args below meth c Q D γ b base nL c0 s0 mm tgt L S) (kf : v ≠ .null → j_G p l e R s m args below meth c Q D γ b base nL c0 s0 mm (pc + 3) L S) : j_G p l e R s m args below meth c Q D γ b base nL c0 s0 mm pc L (v :: S) := by
  intro H locs cells slots ls hI hL hc hs
  rcases hr with rfl | ⟨x, rfl⟩
  · exact lv_ifnullN C0.1 C0.2.1 hdg ht (kt rfl H locs cells slots ls hI hL hc hs)
  · obtain ⟨y, hy⟩ := j_rl_ref (b := b) (base := base) (x := x)
    rw [List.map_cons, hy]
    exact lv_ifnull C0.1 C0.2.1 hdg (kf (by intro h; cases h) H locs cells slots ls hI hL hc hs)
theorem jo_ifnonnull (C0 : j_C p l R s m meth c D γ b base X own cc nL) {v : Value} {off : Int} (hdg : decode cc pc = .ok (.ifnonnull off, 3)) (ht : (pc : Int) + off = (tgt : Int)) (hr : v = .null ∨ ∃ x, v = .ref x) (kt : v ≠ .null → j_G p l e R s m args below meth c Q D γ b base nL c0 s0 mm tgt L S) (kf : v = .null → j_G p l e R s m args below meth c Q D γ b base nL c0 s0 mm (pc + 3) L S) : j_G p l e R s m args below meth c Q D γ b base nL c0 s0 mm pc L (v :: S) := by
  intro H locs cells slots ls hI hL hc hs
  rcases hr with rfl | ⟨x, rfl⟩
  · exact lv_ifnonnullN C0.1 C0.2.1 hdg (kf rfl H locs cells slots ls hI hL hc hs)
  · obtain ⟨y, hy⟩ := j_rl_ref (b := b) (base := base) (x := x)
    rw [List.map_cons, hy]
    exact lv_ifnonnull C0.1 C0.2.1 hdg ht (kt (by intro h; cases h) H locs cells slots ls hI hL hc hs)
theorem jo_dup (C0 : j_C p l R s m meth c D γ b base X own cc nL) {v : Value} (hdg : decode cc pc = .ok (.dup, 1)) (hv : v.category = 1) (k : j_G p l e R s m args below meth c Q D γ b base nL c0 s0 mm (pc + 1) L (v :: v :: S)) : j_G p l e R s m args below meth c Q D γ b base nL c0 s0 mm pc L (v :: S) :=
  fun H locs cells slots ls hI hL hc hs => lv_dup C0.1 C0.2.1 hdg (by rw [j_rl_cat]; exact hv) (k H locs cells slots ls hI hL hc hs)
theorem jo_pop (C0 : j_C p l R s m meth c D γ b base X own cc nL) {v : Value} (hdg : decode cc pc = .ok (.pop, 1)) (hv : v.category = 1) (k : j_G p l e R s m args below meth c Q D γ b base nL c0 s0 mm (pc + 1) L S) : j_G p l e R s m args below meth c Q D γ b base nL c0 s0 mm pc L (v :: S) :=
  fun H locs cells slots ls hI hL hc hs => lv_pop C0.1 C0.2.1 hdg (by rw [j_rl_cat]; exact hv) (k H locs cells slots ls hI hL hc hs)
theorem jo_dup2 (C0 : j_C p l R s m meth c D γ b base X own cc nL) {u v : Value} (hdg : decode cc pc = .ok (.dup2, 1)) (hu : u.category = 1) (hv : v.category = 1) (k : j_G p l e R s m args below meth c Q D γ b base nL c0 s0 mm (pc + 1) L (u :: v :: u :: v :: S)) : j_G p l e R s m args below meth c Q D γ b base nL c0 s0 mm pc L (u :: v :: S) :=
  fun H locs cells slots ls hI hL hc hs => lv_dup2_11 C0.1 C0.2.1 hdg (by rw [j_rl_cat]; exact hu) (by rw [j_rl_cat]; exact hv) (k H locs cells slots ls hI hL hc hs)
theorem jo_lconst (C0 : j_C p l R s m meth c D γ b base X own cc nL) {n : Fin 2} {v : Int64} (hdg : decode cc pc = .ok (.lconst n, 1)) (hv : Int64.ofNat (n : Nat) = v) (k : j_G p l e R s m args below meth c Q D γ b base nL c0 s0 mm (pc + 1) L (.long v :: S)) : j_G p l e R s m args below meth c Q D γ b base nL c0 s0 mm pc L S :=
  fun H locs cells slots ls hI hL hc hs => lv_lconst C0.1 C0.2.1 hdg hv (k H locs cells slots ls hI hL hc hs)
theorem jo_i2l (C0 : j_C p l R s m meth c D γ b base X own cc nL) {x : Int32} (hdg : decode cc pc = .ok (.i2l, 1)) (k : j_G p l e R s m args below meth c Q D γ b base nL c0 s0 mm (pc + 1) L (.long x.toInt64 :: S)) : j_G p l e R s m args below meth c Q D γ b base nL c0 s0 mm pc L (.int x :: S) :=
  fun H locs cells slots ls hI hL hc hs => lv_i2l C0.1 C0.2.1 hdg rfl (k H locs cells slots ls hI hL hc hs)
theorem jo_lcmp (C0 : j_C p l R s m meth c D γ b base X own cc nL) {x y : Int64} (hdg : decode cc pc = .ok (.lcmp, 1)) (k : j_G p l e R s m args below meth c Q D γ b base nL c0 s0 mm (pc + 1) L (.int (lg_cmp x y) :: S)) : j_G p l e R s m args below meth c Q D γ b base nL c0 s0 mm pc L (.long y :: .long x :: S) :=
  fun H locs cells slots ls hI hL hc hs => W.lcmp C0.1 C0.2.1 hdg (k H locs cells slots ls hI hL hc hs)
theorem jo_null (C0 : j_C p l R s m meth c D γ b base X own cc nL) (hdg : decode cc pc = .ok (.aconst_null, 1)) (k : j_G p l e R s m args below meth c Q D γ b base nL c0 s0 mm (pc + 1) L (.null :: S)) : j_G p l e R s m args below meth c Q D γ b base nL c0 s0 mm pc L S :=
  fun H locs cells slots ls hI hL hc hs => lv_null C0.1 C0.2.1 hdg (k H locs cells slots ls hI hL hc hs)
theorem jo_sw (C0 : j_C p l R s m meth c D γ b base X own cc nL) {dflt hi : Int} {offs : Array Int} {len : Nat} {x : Int32} (hdg : decode cc pc = .ok (.tableswitch dflt 0 hi offs, len)) (hhi : hi + 1 = offs.size) (kd : (x < 0 ∨ offs.size ≤ x.toNatClampNeg) → ∀ t : Nat, (pc : Int) + dflt = (t : Int) → j_G p l e R s m args below meth c Q D γ b base nL c0 s0 mm t L S) (ki : ¬ x < 0 → ∀ off : Int, offs[x.toNatClampNeg]? = some off → ∃ t : Nat, (pc : Int) + off = (t : Int) ∧ j_G p l e R s m args below meth c Q D γ b base nL c0 s0 mm t L S) (hd : ∃ t : Nat, (pc : Int) + dflt = (t : Int)) : j_G p l e R s m args below meth c Q D γ b base nL c0 s0 mm pc L (.int x :: S) := by
  intro H locs cells slots ls hI hL hc hs
  obtain ⟨t, ht⟩ := hd
  have hx : x < 0 ↔ x.toInt < 0 := by rw [Int32.lt_iff_toInt_lt]; simp
  have hnat : x.toNatClampNeg = x.toInt.toNat := rfl
  by_cases h0 : x < 0
  · exact lv_tableOut C0.1 C0.2.1 hdg (Or.inl (hx.mp h0)) ht (kd (Or.inl h0) t ht H locs cells slots ls hI hL hc hs)
  · have h0' : ¬ x.toInt < 0 := fun h => h0 (hx.mpr h)
    by_cases h1 : offs.size ≤ x.toNatClampNeg
    · exact lv_tableOut C0.1 C0.2.1 hdg (Or.inr (by omega)) ht (kd (Or.inr h1) t ht H locs cells slots ls hI hL hc hs)
    · have hlt : x.toNatClampNeg < offs.size := by omega
      obtain ⟨t2, ht2, k2⟩ := ki h0 _ (Array.getElem?_eq_getElem hlt)
      exact lv_tableIn C0.1 C0.2.1 hdg h0' (by omega) (by rw [Int.sub_zero, ← hnat]; exact Array.getElem?_eq_getElem hlt) ht2 (k2 H locs cells slots ls hI hL hc hs)
end J6
