/-! ===== RETURNS, THROWS AND CALLS ===== -/
def j_Q (D : va_G) (γ : Nat → ClassId) (b base : Nat) (o : jO) : Array Value → State → Outcome → State → Prop := fun _ st oc t => ∃ v, o.1 = .inl v ∧ oc = .returned (v.map (j_rl b base)) ∧ j_H D γ b base o.2 t.heap ∧ va_F (fun q => base ≤ q) st t
def j_X (D : va_G) (γ : Nat → ClassId) (b base : Nat) (o : jO) : String → State → State → Prop := fun E st t => ∃ x, o.1 = .inr x ∧ x < 3 ∧ E = j_xn x ∧ j_H D γ b base o.2 t.heap ∧ va_F (fun q => base ≤ q) st t
def j_Pc (D : va_G) (γ : Nat → ClassId) (b base : Nat) (X : List Int32) (as : List Value) (m0 : jM) : Array Value → State → Prop := fun a U => a = (as.map (j_rl b base)).toArray ∧ j_K D γ b base X U ∧ j_H D γ b base m0 U.heap
theorem j_blind {D : va_G} {γ : Nat → ClassId} {b base : Nat} {X : List Int32} {as : List Value} {m0 : jM} : FrameBlind (j_Pc D γ b base X as m0) := fun _ _ _ _ h => ⟨h.1, j_K_same h.2.1 rfl rfl, h.2.2⟩
def j_rm (d mc ms : Nat) : Room := { frames := d + 10, cells := mc, slots := ms, locals := 100 * d + 300 }
theorem j_Met_of {l : Launch} {y : MethodName} {ws : List Cond} {rm : Room} {Pc : Array Value → State → Prop} {D : va_G} {γ : Nat → ClassId} {b base mc ms : Nat} {o : jO} {free : Addr → Prop} (h : vx_Met l y ws rm Pc (j_Q D γ b base o) (j_X D γ b base o) mc ms free) {v : Option Value} (hv : o.1 = .inl v) : Met l y ws rm Pc (j_Q D γ b base o) mc ms free := by
  intro p e ha hc hk s m args below hf happ hP hK
  obtain ⟨n, oc, h1, h2, h3, h4⟩ := h p e ha hc hk s m args below hf happ hP hK
  refine ⟨n, oc, h1, h2, h3, ?_⟩
  rcases h4 with h4 | ⟨q, _, E, ce, L, ⟨x, hx, _⟩, _⟩
  · exact h4
  · rw [hv] at hx; cases hx
/-- what the check of a method says -/
def j_F (k : Nat) : Prop := ∃ (mt : jMt) (cps : List Nat), jP[k]? = some mt ∧ j_chks (j_d k).1 (j_d k).2.2.1 mt.1 mt.2.2.2 mt.2.2.1 ((j_d k).2.2.2.2.2.1 == 2) (j_d k).2.2.2.2.1 cps = true ∧ mt.2.1 = (j_d k).2.2.2.1 ∧ (j_d k).2.1.cls = j_own (j_d k).1 ∧ plainName (j_d k).2.1.cls = true ∧
  ((j_d k).2.1.cls ≠ "java/lang/invoke/MethodHandle" ∧ (j_d k).2.1.cls ≠ "java/lang/invoke/VarHandle") ∧ (parseMethodDescriptor (j_d k).2.1.desc).map (fun q => q.parameters.length) = some (j_d k).2.2.2.2.2.2.1 ∧ (j_d k).2.2.2.2.2.2.1 + 1 ≤ 20 ∧
  (j_d k).2.2.2.2.2.2.1 + (if (j_d k).2.2.2.2.2.1 = 0 then 0 else 1) ≤ (j_d k).2.2.2.1 ∧ (j_d k).2.2.2.1 ≤ 40 ∧ ((j_d k).2.2.2.2.2.1 = 2 → (j_d k).2.1.name = "<init>" ∧ (j_d k).2.2.2.2.1 = none) ∧ (j_d k).1 ≤ 14 ∧ j_tab (j_d k).1 (j_d k).2.2.1 mt.1 mt.2.2.1 (j_d k).2.2.2.2.2.2.2 = true ∧ mt.1[0]?.map (fun q => q.2.1) = some 0 ∧ ∀ r ∈ mt.2.2.1, r.2.2.2.2 < mt.2.1
theorem j_F_of {k : Nat} {cps : List Nat} (h : j_mok k cps = true) : j_F k := by
  simp only [j_mok] at h
  split at h
  · cases h
  · rename_i mt hmt
    simp only [Bool.and_eq_true, decide_eq_true_eq] at h
    obtain ⟨⟨⟨⟨⟨⟨⟨⟨⟨⟨⟨⟨⟨h1, h2⟩, h3⟩, h4⟩, h5⟩, h6⟩, h7⟩, h8⟩, h9⟩, h10⟩, h11⟩, h12⟩, h13⟩, h14⟩ := h
    exact ⟨mt, cps, hmt, h1, h2, h3, h4, h5, h6, h7, h8, h9, h10, h11, h12, h13, fun r hr => of_decide_eq_true (List.all_eq_true.mp h14 r hr)⟩
theorem j_oini : ∀ o, o ≤ 14 → Cond.initialized (j_own o) ∈ lw_tbl := by
  intro o ho
  by_cases h : o < 13
  · have e : j_own o = j_R o := by simp [j_own, h]
    rw [e]; exact j_init o h
  · by_cases h2 : o = 13
    · subst h2; exact List.mem_of_getElem? (i := 123) rfl
    · have h3 : o = 14 := by omega
      subst h3; exact List.mem_of_getElem? (i := 144) rfl
theorem j_cw_good (d : jD) : j_good (j_cw d) = true := by
  unfold j_cw; split <;> rfl
theorem j_flags {l : Launch} (h : l.flags = flags0) : l.stackTraces = false := by
  simp only [Launch.stackTraces, h]
  decide +kernel
section J14
variable {p : Program} {l : Launch} {e : Env} {R : Room} {s : State} {m : MethodId} {args : Array Value} {below : List Frame} {meth : Method} {c : Code} {Q : State → Prop}
variable {D : va_G} {γ : Nat → ClassId} {b base nL c0 s0 : Nat} {X : List Int32} {o : Nat} {cc : ByteArray} {mm : jM} {L S : List Value}
variable {cd : List jI} {sw : List Nat} {hs : List (Nat × Nat × Nat × Nat × Nat)} {ini : Bool} {ret : Option FieldType} {i cp pc d : Nat}
theorem j_endV {mc ms : Nat} (C0 : j_C p l R s m meth c D γ b base X (j_own o) cc nL) (hret : meth.sig.returnType = none) (hdg : decode cc pc = .ok (.return_, 1)) (hmc : mm.1 = c0 + mc) (hms : mm.2.1 = s0 + ms) :
    j_G p l e R s m args below meth c (vx_MQ below (j_Q D γ b base (.inl none, mm)) (j_X D γ b base (.inl none, mm)) args s mc ms (fun q => base ≤ q)) D γ b base nL c0 s0 mm pc L [] := by
  intro H locs cells slots ls hI hL hc hs
  have e1 : cells = mc := by omega
  have e2 : slots = ms := by omega
  subst e1; subst e2
  exact vx_ret (W.vret C0.1 C0.2.1 hret (fun t ht hW => ⟨none, rfl, rfl, by rw [ht]; exact hI.1, hI.2.F ht⟩) hI.2.2.2 hdg (hlocks := C0.2.2.2.2.2.1))
theorem j_endI {mc ms : Nat} {v : Int32} (C0 : j_C p l R s m meth c D γ b base X (j_own o) cc nL) (hret : meth.sig.returnType = some .int ∨ (meth.sig.returnType = some .boolean ∧ v &&& 1 = v)) (hdg : decode cc pc = .ok (.ireturn, 1)) (hmc : mm.1 = c0 + mc) (hms : mm.2.1 = s0 + ms) :
    j_G p l e R s m args below meth c (vx_MQ below (j_Q D γ b base (.inl (some (.int v)), mm)) (j_X D γ b base (.inl (some (.int v)), mm)) args s mc ms (fun q => base ≤ q)) D γ b base nL c0 s0 mm pc L [.int v] := by
  intro H locs cells slots ls hI hL hc hs
  have e1 : cells = mc := by omega
  have e2 : slots = ms := by omega
  subst e1; subst e2
  rcases hret with hret | ⟨hret, hv⟩
  · exact vx_ret (W.iret C0.1 C0.2.1 hret (fun t ht hW => ⟨_, rfl, rfl, by rw [ht]; exact hI.1, hI.2.F ht⟩) hI.2.2.2 hdg (hlocks := C0.2.2.2.2.2.1))
  · exact vx_ret (W.zret C0.1 C0.2.1 hret (by show Value.int (v &&& 1) = _; rw [hv]) (fun t ht hW => ⟨_, rfl, rfl, by rw [ht]; exact hI.1, hI.2.F ht⟩) hI.2.2.2 hdg (hlocks := C0.2.2.2.2.2.1))
theorem j_endA {mc ms : Nat} {v : Value} {rt : FieldType} (C0 : j_C p l R s m meth c D γ b base X (j_own o) cc nL) (hret : meth.sig.returnType = some rt) (hrt : (∃ n, rt = .object n) ∨ ∃ t, rt = .array t) (hv : v = .null ∨ ∃ x, v = .ref x) (hdg : decode cc pc = .ok (.areturn, 1)) (hmc : mm.1 = c0 + mc) (hms : mm.2.1 = s0 + ms) :
    j_G p l e R s m args below meth c (vx_MQ below (j_Q D γ b base (.inl (some v), mm)) (j_X D γ b base (.inl (some v), mm)) args s mc ms (fun q => base ≤ q)) D γ b base nL c0 s0 mm pc L [v] := by
  intro H locs cells slots ls hI hL hc hs
  have e1 : cells = mc := by omega
  have e2 : slots = ms := by omega
  subst e1; subst e2
  have hv' : j_rl b base v = .null ∨ ∃ a, j_rl b base v = .ref a := by
    rcases hv with rfl | ⟨x, rfl⟩
    · exact Or.inl rfl
    · exact Or.inr j_rl_ref
  exact vx_ret (W.aret C0.1 C0.2.1 hret hrt hv' (fun t ht hW => ⟨_, rfl, rfl, by rw [ht]; exact hI.1, hI.2.F ht⟩) hI.2.2.2 hdg (hlocks := C0.2.2.2.2.2.1))
theorem j_xat (x : Nat) (hx : x < 3) (ic : Nat) (hic : (x = 0 ∧ ic = 86) ∨ (x = 1 ∧ ic = 93) ∨ (x = 2 ∧ ic = 122)) : ∀ w ∈ vx_at0 (j_own 11) ic (j_xn x) ["java/lang/RuntimeException", "java/lang/Exception"], w ∈ lw_tbl ∧ j_good w = true ∧ vx_ot w = true := by
  intro w hw
  have key : ∀ {L : List Cond}, L.all (fun w => decide (w ∈ lw_tbl) && j_good w && vx_ot w) = true → w ∈ L → w ∈ lw_tbl ∧ j_good w = true ∧ vx_ot w = true := by
    intro L h h2
    have := List.all_eq_true.mp h w h2
    simp only [Bool.and_eq_true, decide_eq_true_eq] at this
    exact ⟨this.1.1, this.1.2, this.2⟩
  rcases hic with ⟨rfl, rfl⟩ | ⟨rfl, rfl⟩ | ⟨rfl, rfl⟩
  · exact key j_xat0 hw
  · exact key j_xat1 hw
  · exact key j_xat2 hw
theorem j_xini (x : Nat) (hx : x < 3) : Cond.initialized (j_xn x) ∈ lw_tbl := by
  match x, hx with
  | 0, _ => exact j_xini0
  | 1, _ => exact j_xini1
  | 2, _ => exact j_xini2
theorem j_cast (x : Nat) (hx : x < 3) : Cond.castable (j_xn x) (j_xn x) ∈ lw_tbl := by
  match x, hx with
  | 0, _ => exact j_cast0
  | 1, _ => exact j_cast1
  | 2, _ => exact j_cast2
theorem j_endX {mc ms x ik ic : Nat} (C0 : j_C p l R s m meth c D γ b base X (j_own 11) cc nL) (hl : l.stackTraces = false) (hx : x < 3) (hic : (x = 0 ∧ ic = 86) ∨ (x = 1 ∧ ic = 93) ∨ (x = 2 ∧ ic = 122)) (hw : Cond.classLink (j_own 11) ik (j_xn x) ∈ lw_tbl)
    (d0 : decode cc pc = .ok (.new ik, 3)) (d3 : decode cc (pc + 3) = .ok (.dup, 1)) (d4 : decode cc (pc + 4) = .ok (.invokespecial ic, 3)) (d7 : decode cc (pc + 7) = .ok (.athrow, 1)) (hout : ∀ z ∈ c.exceptionTable.toList, False) (hS : ¬ 40 < (S.map fun v => v.category).sum)
    (hR1 : mm.1 + 1 ≤ c0 + R.cells) (hR2 : mm.2.1 + 6 ≤ s0 + R.slots) (hmc : mm.1 + 1 = c0 + mc) (hms : mm.2.1 + 6 = s0 + ms) :
    j_G p l e R s m args below meth c (vx_MQ below (j_Q D γ b base (.inr x, (mm.1 + 1, mm.2.1 + 6, false, mm.2.2.2))) (j_X D γ b base (.inr x, (mm.1 + 1, mm.2.1 + 6, false, mm.2.2.2))) args s mc ms (fun q => base ≤ q)) D γ b base nL c0 s0 mm pc L S := by
  intro H locs cells slots ls hI hL hc hs
  have h300 := C0.2.2.2.2.2.2.2
  have h10 := C0.2.2.2.2.2.2.1
  obtain ⟨-, -, hb, hbs, -, -, hU, hN, -⟩ := C0.2.2.2.2.1
  have hat := j_xat x hx ic hic
  refine vx_throw0 C0.1 C0.2.1 hl (own := j_own 11) (cls := j_xn x) (names := ["java/lang/RuntimeException", "java/lang/Exception"]) (ik := ik) (ic := ic) (A := fun q => base ≤ q) C0.2.2.2.1 ?_ (by decide +kernel) (j_word C0 hw) (j_word C0 (j_xini x hx)) (fun w hw => j_word C0 (hat w hw).1 (hat w hw).2.1) ?_ hU hN hI.2 (by rw [hL.1.1, C0.2.2.1]) d0 d3 d4 d7 (fun z hz => (hout z hz).elim) (by show 2 + 3 < R.frames; omega) (by
    rw [j_sum]
    show _ + (13 * (2 + 1) + 42) ≤ _
    omega) (by omega) (by omega) C0.2.2.2.2.2.1 ?_ hI.2.2.2 (by omega) (by omega)
  · match x, hx with
    | 0, _ => decide +kernel
    | 1, _ => decide +kernel
    | 2, _ => decide +kernel
  · intro w hw2
    rcases List.mem_cons.mp hw2 with rfl | hw2
    · rfl
    · rcases List.mem_cons.mp hw2 with rfl | hw2
      · rfl
      · exact (hat w hw2).2.2
  · intro t ha hz hk
    refine ⟨x, rfl, hx, rfl, ⟨hI.1.1.kept (fun k q hq => hk q.1 ((hI.1.1 k q hq).lt)), Nat.le_trans hI.1.2.1 hz, fun h => by cases h⟩, Nat.le_trans hI.2.1 hz, fun q h1 h2 => ?_⟩
    rw [hk q (Nat.lt_of_lt_of_le h1 hI.2.1)]
    exact hI.2.2.1 q h1 h2
/-- behind a call that has returned -/
theorem j_after {mc ms : Nat} {v : Option Value} {rest st0 : List Value} {a : Array Value} {o' : jO} (hv : o'.1 = .inl v) (hmc : o'.2.1 = mm.1 + mc) (hms : o'.2.2.1 = mm.2.1 + ms) (k : j_G p l e R s m args below meth c Q D γ b base nL c0 s0 o'.2 (pc + 3) L (j_ret v rest))
    {H : Heap} {locs : List Loc} {cells slots : Nat} {ls : Array Slot} (hI : j_I D γ b base s mm H locs) (hL : j_L b base nL ls L) (hc : c0 + cells = mm.1) (hs : s0 + slots = mm.2.1)
    (hr : va_Run p l e R s m args below meth c H locs cells slots mc ms (F0 m pc ls st0) (rest.map (j_rl b base)) (j_Q D γ b base o' a) (fun q => base ≤ q)) : W p l e R s m args below meth c H locs cells slots Q (F0 m pc ls st0) := by
  intro T hT X
  obtain ⟨v', st₀, t, T', L', h0, X', hL', e1, e2, ⟨w, hw1, hw2, hw3, hw4⟩, st⟩ := hr T hT X
  rw [hv] at hw1
  cases hw1
  cases hw2
  obtain ⟨k1, k2, k3⟩ := vx_keep (A0 := fun q => base ≤ q) (A1 := fun q => base ≤ q) (free := fun q => base ≤ q) h0 e1 hI.2 (fun q _ h => h) (fun q h => h) hL' hw4
  have k' := k T'.heap (locs ++ L') (cells + mc) (slots + ms) ls ⟨by rw [e1]; exact hw3, k3⟩ hL (by omega) (by omega) T' rfl X'
  obtain ⟨t2, a1, b1⟩ := k'
  refine ⟨t2, st t2 ?_, b1⟩
  have e3 : (j_ret v rest).map (j_rl b base) = (v.map (j_rl b base)).toList ++ rest.map (j_rl b base) := by cases v <;> rfl
  rw [e3] at a1
  exact a1
theorem j_ws1 (C0 : j_C p l R s m meth c D γ b base X (j_own o) cc nL) {k : Nat} (hk : k ∈ jCall) : ∀ w ∈ [j_cw (j_d k)], ∀ (a' : Array Value) (U : State), s.WarmedH U.vm → w.before a' U = true := by
  intro w hw a' U hW
  rw [List.mem_singleton.mp hw]
  have h1 : (j_cw (j_d k)).before #[] s = true := j_word C0 (j_dw_ok k hk _ List.mem_cons_self) (j_cw_good _)
  exact j_use (j_cw_good _) rfl (j_warm (j_cw_good _) hW h1)
theorem j_sig {k : Nat} (F : j_F k) : ∀ sig, parseMethodDescriptor (j_y k).desc = some sig → (j_d k).2.2.2.2.2.2.1 = sig.parameters.length := by
  obtain ⟨mt, cps, -, -, -, -, -, -, h, -⟩ := F
  intro sig hs
  have hs' : parseMethodDescriptor (j_d k).2.1.desc = some sig := hs
  rw [hs'] at h
  exact (Option.some.inj h).symm
theorem j_cw_nil {d : jD} (h : d.2.2.2.2.2.2.2 = []) : j_cw d = .code d.2.1 d.2.2.1 d.2.2.2.1 d.2.2.2.2.1 := by unfold j_cw; rw [h]
set_option maxRecDepth 10000 in
theorem j_ar1 {a d R : Nat} (h : a ≤ 40) (hR : 100 * d + 400 ≤ R) : 8 + (a + 11) + (100 * d + 300) ≤ R := by
  generalize 100 * d = z at hR ⊢
  omega
theorem j_ar2 {d R : Nat} (hR : d + 11 ≤ R) : d + 10 + 1 ≤ R := hR
theorem j_cw_nilk {k : Nat} (h : (j_d k).2.2.2.2.2.2.2 = []) : j_cw (j_d k) = .code (j_y k) (j_d k).2.2.1 (j_d k).2.2.2.1 (j_d k).2.2.2.2.1 := j_cw_nil h
theorem j_CallB {k cp d mc ms : Nat} (C0 : j_C p l R s m meth c D γ b base X (j_own o) cc nL) (hk : k ∈ jCall) (F : j_F k) (hnil : (j_d k).2.2.2.2.2.2.2 = []) (hw : Cond.methodLink (j_own o) cp (j_y k) ∈ lw_tbl) (hRf : d + 11 ≤ R.frames) (hRl : 100 * d + 400 ≤ R.locals) :
    CallB R s args (j_own o) cp (j_y k) (j_d k).2.2.1 (j_d k).2.2.2.1 (j_d k).2.2.2.2.1 [j_cw (j_d k)] (j_rm d mc ms) mc ms (j_d k).2.2.2.2.2.2.1 := by
  have hs := j_sig F
  obtain ⟨mt, cps, -, -, -, h3, -, h5, -, -, -, h9, -, h11, -⟩ := F
  refine ⟨rfl, rfl, ?_, ?_, j_ws1 C0 hk, ?_, ?_, ?_, h5, hs, j_word C0 hw⟩
  · exact j_ar2 hRf
  · exact j_ar1 h9 hRl
  · rw [← j_cw_nilk hnil]; exact List.mem_singleton_self _
  · rw [← j_cw_nilk hnil]; exact j_word C0 (j_dw_ok k hk _ List.mem_cons_self) (j_cw_good _)
  · show (Cond.initialized (j_d k).2.1.cls).before args s = true
    rw [h3]; exact j_word C0 (j_oini _ h11)
theorem j_CallN {k cp d mc ms : Nat} (C0 : j_C p l R s m meth c D γ b base X (j_own o) cc nL) (hk : k ∈ jCall) (F : j_F k) (hnil : (j_d k).2.2.2.2.2.2.2 = []) (hw : Cond.methodLinkNest (j_own o) cp (j_y k) "NotebookWeir" ∈ lw_tbl) (hRf : d + 11 ≤ R.frames) (hRl : 100 * d + 400 ≤ R.locals) :
    va_CN R s args (j_own o) cp (j_y k) "NotebookWeir" (j_d k).2.2.1 (j_d k).2.2.2.1 (j_d k).2.2.2.2.1 [j_cw (j_d k)] (j_rm d mc ms) mc ms (j_d k).2.2.2.2.2.2.1 := by
  have hs := j_sig F
  obtain ⟨mt, cps, -, -, -, h3, -, h5, -, -, -, h9, -, h11, -⟩ := F
  refine ⟨⟨rfl, rfl, ?_, ?_, j_ws1 C0 hk, ?_⟩, ?_, ?_, h5, hs, j_word C0 hw⟩
  · exact j_ar2 hRf
  · exact j_ar1 h9 hRl
  · rw [← j_cw_nilk hnil]; exact List.mem_singleton_self _
  · rw [← j_cw_nilk hnil]; exact j_word C0 (j_dw_ok k hk _ List.mem_cons_self) (j_cw_good _)
  · show (Cond.initialized (j_d k).2.1.cls).before args s = true
    rw [h3]; exact j_word C0 (j_oini _ h11)
theorem j_PreS {as : List Value} {H : Heap} {locs : List Loc} (C0 : j_C p l R s m meth c D γ b base X (j_own o) cc nL) (hI : j_I D γ b base s mm H locs) : PreS s H (j_Pc D γ b base X as mm) (as.map (j_rl b base)) :=
  ⟨j_blind, fun U hU hW => ⟨rfl, j_K_next C0.2.2.2.2.1 hW hU hI.2, by rw [hU]; exact hI.1⟩⟩
theorem j_PreV {q t : Nat} {fs as2 : List Value} {H : Heap} {locs : List Loc} (C0 : j_C p l R s m meth c D γ b base X (j_own o) cc nL) (hI : j_I D γ b base s mm H locs) (ht : t < 13) (hm : j_at mm q = some (t, fs)) : PreV s H (j_R t) (base + q) (j_Pc D γ b base X (.ref (q + 1) :: as2) mm) (as2.map (j_rl b base)) := by
  refine ⟨j_blind, ?_, fun U hU hW => ⟨rfl, j_K_next C0.2.2.2.2.1 hW hU hI.2, by rw [hU]; exact hI.1⟩⟩
  have he := j_ws_get (γ := γ) (b := b) (base := base) hm
  rw [j_e_obj (by omega)] at he
  exact va_recv C0.2.2.2.2.1.1 hI.1.1 (j_cl t ht) he
theorem j_fix (C0 : j_C p l R s m meth c D γ b base X (j_own o) cc nL) : CallFix p m c cc nL s args j_W (j_own o) := ⟨C0.1, C0.2.1, C0.2.2.1, C0.2.2.2.1, j_hts C0⟩
theorem j_kw {k : Nat} (hk : k ∈ jCall) (h : (j_d k).2.2.2.2.2.1 = 1) : Cond.instanceMethod (j_y k) ∈ lw_tbl ∧ Cond.selects (j_y k).cls (j_y k) (j_y k) ∈ lw_tbl := by
  have h1 := j_dw_ok k hk
  simp only [j_dw, h] at h1
  exact ⟨h1 _ (by simp [j_y]), h1 _ (by simp [j_y])⟩
theorem j_kw2 {k : Nat} (hk : k ∈ jCall) (h : (j_d k).2.2.2.2.2.1 = 2) : Cond.instanceMethod (j_y k) ∈ lw_tbl := by
  have h1 := j_dw_ok k hk
  simp only [j_dw, h] at h1
  exact h1 _ (by simp [j_y])
theorem j_kw0 {k : Nat} (hk : k ∈ jCall) (h : (j_d k).2.2.2.2.2.1 = 0) : Cond.static (j_y k) ∈ lw_tbl := by
  have h1 := j_dw_ok k hk
  simp only [j_dw, h] at h1
  exact h1 _ (by simp [j_y])
theorem j_room8 {rest : List Value} (h : (rest.map fun v => v.category).sum ≤ 8) : ((rest.map (j_rl b base)).map fun v => v.category).sum ≤ 8 := by rw [j_sum]; exact h
/-- a static call -/
theorem jo_callS {k cp d mc ms : Nat} {as rest : List Value} {v : Option Value} {o' : jO} (C0 : j_C p l R s m meth c D γ b base X (j_own o) cc nL) (hk : k ∈ jCall) (F : j_F k) (hkind : (j_d k).2.2.2.2.2.1 = 0) (hnil : (j_d k).2.2.2.2.2.2.2 = []) (hdg : decode cc pc = .ok (.invokestatic cp, 3))
    (hw : Cond.methodLink (j_own o) cp (j_y k) ∈ lw_tbl ∨ Cond.methodLinkNest (j_own o) cp (j_y k) "NotebookWeir" ∈ lw_tbl) (hRf : d + 11 ≤ R.frames) (hRl : 100 * d + 400 ≤ R.locals) (hn : as.length = (j_d k).2.2.2.2.2.2.1) (hsum : (rest.map fun v => v.category).sum ≤ 8)
    (hM : vx_Met l (j_y k) [j_cw (j_d k)] (j_rm d mc ms) (j_Pc D γ b base X as mm) (j_Q D γ b base o') (j_X D γ b base o') mc ms (fun q => base ≤ q)) (hv : o'.1 = .inl v) (hmc : o'.2.1 = mm.1 + mc) (hms : o'.2.2.1 = mm.2.1 + ms) (hR1 : o'.2.1 ≤ c0 + R.cells) (hR2 : o'.2.2.1 ≤ s0 + R.slots)
    (kk : j_G p l e R s m args below meth c Q D γ b base nL c0 s0 o'.2 (pc + 3) L (j_ret v rest)) : j_G p l e R s m args below meth c Q D γ b base nL c0 s0 mm pc L (as.reverse ++ rest) := by
  intro H locs cells slots ls hI hL hc hs
  have hM2 := j_Met_of hM hv
  have hst : (as.reverse ++ rest).map (j_rl b base) = (as.map (j_rl b base)).reverse ++ rest.map (j_rl b base) := by rw [List.map_append, List.map_reverse]
  rw [hst]
  refine j_after (a := (as.map (j_rl b base)).toArray) hv hmc hms kk hI hL hc hs ?_
  rcases hw with hw | hw
  · exact va_runS (j_fix C0) hM2 ⟨j_CallB C0 hk F hnil hw hRf hRl, j_word C0 (j_kw0 hk hkind)⟩ (j_PreS C0 hI) rfl (by rw [List.length_map]; exact hn) hL.1.1 rfl (lv_room (j_room8 hsum)) hdg ⟨by omega, by omega⟩
  · exact va_runSN (j_fix C0) hM2 ⟨j_CallN C0 hk F hnil hw hRf hRl, j_word C0 (j_kw0 hk hkind), trivial⟩ (j_PreS C0 hI) rfl (by rw [List.length_map]; exact hn) hL.1.1 rfl (lv_room (j_room8 hsum)) hdg ⟨by omega, by omega⟩
theorem j_own_R {t : Nat} (ht : t < 13) : j_own t = j_R t := by simp [j_own, ht]
/-- a call of an object's method -/
theorem jo_callV {k cp d mc ms q t : Nat} {as2 rest fs : List Value} {v : Option Value} {o' : jO} (C0 : j_C p l R s m meth c D γ b base X (j_own o) cc nL) (hk : k ∈ jCall) (F : j_F k) (hkind : (j_d k).2.2.2.2.2.1 = 1) (hnil : (j_d k).2.2.2.2.2.2.2 = []) (hdg : decode cc pc = .ok (.invokevirtual cp, 3))
    (hw : Cond.methodLink (j_own o) cp (j_y k) ∈ lw_tbl ∨ Cond.methodLinkNest (j_own o) cp (j_y k) "NotebookWeir" ∈ lw_tbl) (hRf : d + 11 ≤ R.frames) (hRl : 100 * d + 400 ≤ R.locals) (hn : as2.length = (j_d k).2.2.2.2.2.2.1) (hsum : (rest.map fun v => v.category).sum ≤ 8) (ht : t < 13) (hdt : (j_d k).1 = t) (hm : j_at mm q = some (t, fs))
    (hM : vx_Met l (j_y k) [j_cw (j_d k)] (j_rm d mc ms) (j_Pc D γ b base X (.ref (q + 1) :: as2) mm) (j_Q D γ b base o') (j_X D γ b base o') mc ms (fun q => base ≤ q)) (hv : o'.1 = .inl v) (hmc : o'.2.1 = mm.1 + mc) (hms : o'.2.2.1 = mm.2.1 + ms) (hR1 : o'.2.1 ≤ c0 + R.cells) (hR2 : o'.2.2.1 ≤ s0 + R.slots)
    (kk : j_G p l e R s m args below meth c Q D γ b base nL c0 s0 o'.2 (pc + 3) L (j_ret v rest)) : j_G p l e R s m args below meth c Q D γ b base nL c0 s0 mm pc L (as2.reverse ++ .ref (q + 1) :: rest) := by
  intro H locs cells slots ls hI hL hc hs
  have hM2 := j_Met_of hM hv
  have hcls : (j_y k).cls = j_R t := by
    obtain ⟨mt, cps, -, -, -, h3, -⟩ := F
    show (j_d k).2.1.cls = _
    rw [h3, hdt]; exact j_own_R ht
  have hst : (as2.reverse ++ .ref (q + 1) :: rest).map (j_rl b base) = (as2.map (j_rl b base)).reverse ++ .ref (base + q) :: rest.map (j_rl b base) := by rw [List.map_append, List.map_reverse]; rfl
  rw [hst]
  have hkw := j_kw hk hkind
  rw [hcls] at hkw
  refine j_after (a := (Value.ref (base + q) :: as2.map (j_rl b base)).toArray) hv hmc hms kk hI hL hc hs ?_
  rcases hw with hw | hw
  · exact va_runV (j_fix C0) hM2 ⟨j_CallB C0 hk F hnil hw hRf hRl, j_word C0 hkw.1, j_word C0 hkw.2⟩ (j_PreV C0 hI ht hm) rfl (by rw [List.length_map]; exact hn) hL.1.1 rfl (lv_room (j_room8 hsum)) hdg ⟨by omega, by omega⟩
  · exact va_runVN (j_fix C0) hM2 ⟨j_CallN C0 hk F hnil hw hRf hRl, j_word C0 hkw.1, j_word C0 hkw.2⟩ (j_PreV C0 hI ht hm) rfl (by rw [List.length_map]; exact hn) hL.1.1 rfl (lv_room (j_room8 hsum)) hdg ⟨by omega, by omega⟩
/-- a constructor's call -/
theorem jo_callI {k cp d mc ms q : Nat} {as2 rest : List Value} {v : Option Value} {o' : jO} (C0 : j_C p l R s m meth c D γ b base X (j_own o) cc nL) (hk : k ∈ jCall) (F : j_F k) (hkind : (j_d k).2.2.2.2.2.1 = 2) (hnil : (j_d k).2.2.2.2.2.2.2 = []) (hdg : decode cc pc = .ok (.invokespecial cp, 3))
    (hw : Cond.methodLink (j_own o) cp (j_y k) ∈ lw_tbl ∨ Cond.methodLinkNest (j_own o) cp (j_y k) "NotebookWeir" ∈ lw_tbl) (hRf : d + 11 ≤ R.frames) (hRl : 100 * d + 400 ≤ R.locals) (hn : as2.length = (j_d k).2.2.2.2.2.2.1) (hsum : (rest.map fun v => v.category).sum ≤ 8)
    (hM : vx_Met l (j_y k) [j_cw (j_d k)] (j_rm d mc ms) (j_Pc D γ b base X (.ref (q + 1) :: as2) mm) (j_Q D γ b base o') (j_X D γ b base o') mc ms (fun q => base ≤ q)) (hv : o'.1 = .inl v) (hmc : o'.2.1 = mm.1 + mc) (hms : o'.2.2.1 = mm.2.1 + ms) (hR1 : o'.2.1 ≤ c0 + R.cells) (hR2 : o'.2.2.1 ≤ s0 + R.slots)
    (kk : j_G p l e R s m args below meth c Q D γ b base nL c0 s0 o'.2 (pc + 3) L (j_ret v rest)) : j_G p l e R s m args below meth c Q D γ b base nL c0 s0 mm pc L (as2.reverse ++ .ref (q + 1) :: rest) := by
  intro H locs cells slots ls hI hL hc hs
  have hM2 := j_Met_of hM hv
  have hin : (j_y k).name = "<init>" ∧ (j_d k).2.2.2.2.1 = none := by
    obtain ⟨mt, cps, -, -, -, -, -, -, -, -, -, -, h10, -⟩ := F
    exact h10 hkind
  have hst : (as2.reverse ++ .ref (q + 1) :: rest).map (j_rl b base) = (as2.map (j_rl b base)).reverse ++ .ref (base + q) :: rest.map (j_rl b base) := by rw [List.map_append, List.map_reverse]; rfl
  rw [hst]
  refine j_after (a := (Value.ref (base + q) :: as2.map (j_rl b base)).toArray) hv hmc hms kk hI hL hc hs ?_
  rcases hw with hw | hw
  · have hB := j_CallB (args := args) (mc := mc) (ms := ms) C0 hk F hnil hw hRf hRl
    rw [hin.2] at hB
    exact va_runI (j_fix C0) hM2 ⟨hB, hin.1, j_word C0 (j_kw2 hk hkind)⟩ (j_PreS (as := .ref (q + 1) :: as2) C0 hI) rfl (by rw [List.length_map]; exact hn) hL.1.1 rfl (lv_room (j_room8 hsum)) hdg ⟨by omega, by omega⟩
  · have hB := j_CallN (args := args) (mc := mc) (ms := ms) C0 hk F hnil hw hRf hRl
    rw [hin.2] at hB
    exact va_runIN (j_fix C0) hM2 ⟨hB, hin.1, j_word C0 (j_kw2 hk hkind)⟩ (j_PreS (as := .ref (q + 1) :: as2) C0 hI) rfl (by rw [List.length_map]; exact hn) hL.1.1 rfl (lv_room (j_room8 hsum)) hdg ⟨by omega, by omega⟩
end J14
