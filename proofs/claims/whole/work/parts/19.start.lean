/-! THE CLAIM OUT OF ONE WALK OF THE LAW'S BODY. Your part is whole_start (and what it stands on); all else here is the same for every law, but numbers. -/
def R_law : String := "NotebookWeirLaw"
def lw_P (b : Addr) (xs : List Int32) (args : Array Value) (s : State) : Prop := args = #[.ref b] ∧ s.IntsAt b xs ∧ xs.length ≤ 2048 ∧ (Jvm.Cond.and given_1 narrow_1).before args s = true
def lw_Q (_ : Array Value) (s : State) (o : Outcome) (t : State) : Prop := o = .returned (some (.int 1)) ∧ Framed s o t [] 601024 7293034
def lw_Z (below : List Frame) (a : Array Value) (s : State) : State → Prop := fun t => ∃ o, t.status = .running ∧ Ended t below o ∧ lw_Q a s o t
/-- the law's own end, with 1 on the stack, nothing written that was there before, its room as the claim has it -/
theorem lw_ret {p : Program} {l : Launch} {e : Env} {s : State} {m : MethodId} {below : List Frame} {meth : Method} {c : Code} {b : Nat} (hx : p.tables.exec = Jvm.exec) (hb : c.code = code) (hr : meth.sig.returnType = ret) (hlocks : meth.locks = false) {pc : Nat} {H : Heap} {ls : Array Slot} (hdg : decode code pc = .ok (.ireturn, 1)) : W p l e room_1 s m #[Value.ref b] below meth c H [] 601024 7293034 (lw_Z below #[Value.ref b] s) (F0 m pc ls [.int 1]) := by
  intro T hT X
  obtain ⟨fs, hret, hrun, hended, hW, hframe⟩ := X.leave (v := some (.int 1)) (hlocks := hlocks) (fun h => by rw [hr] at h; cases h)
  have hmeth' : T.vm.method? m = some meth := X.method'
  refine ⟨T.setFrames fs, ?_, .returned (some (.int 1)), hrun, hended, rfl, ⟨_, rfl⟩, hW, hframe⟩
  jvm_step X.here [X.here.top, hx, hb, hdg, hmeth', hr, ret, narrow_b1]
  (try refine ⟨rfl, ?_⟩); (try refine ⟨rfl, ?_⟩)
  first | (intro acts; rw [hret _ acts rfl rfl rfl]) | rw [hret _ _ rfl rfl rfl]
  exact Steps.refl _
/-- what holds at the law's entry: the machine, the code, the tables' words (any of lw_tbl by 'hts w (by decide +kernel)'), the script of L ints xs at the cell b, what the Statement gives of the start (any of its parts by flat_of_before) -/
def lw_At (p : Program) (s : State) (m : MethodId) (meth : Method) (c : Code) (b L : Nat) (xs : Nat → Int32) : Prop :=
  p.tables.exec = Jvm.exec ∧ c.code = code ∧ meth.sig.returnType = ret ∧ c.maxLocals = 7 ∧ s.vm.findClass R_law = some m.cls ∧ (∀ w ∈ lw_tbl, w.before #[Value.ref b] s = true) ∧ va_X b L xs s s.heap ∧ b < s.heap.size ∧ meth.locks = false ∧ (Jvm.Cond.and given_1 narrow_1).before #[Value.ref b] s = true
/-! ===== FROM THE LAW'S ENTRY to the interpreter's run of it ===== -/
theorem j_arrOf {s : State} {ty : FieldType} {args : Array Value} (h : (Cond.arrayClass ty).before args s = true) : ∃ c : ClassId, s.vm.findClass ("[" ++ ty.toString) = some c ∧ ArrOfT s c ty := by
  obtain ⟨c, k, comp, h1, h2, h3⟩ := Cond.arrayClass_spec h
  exact ⟨c, h1, fun n z => ⟨(fun k h => by cases h), k, h2, comp, h3⟩⟩
theorem j_arrOver {s : State} {C : String} {args : Array Value} (h : (Cond.arrayOver (.object C)).before args s = true) : ∃ c : ClassId, va_RA s c (.object C) ∧ ArrOfT s c (.object C) := by
  obtain ⟨comp, c, k, h1, h2, h3, h4, h5⟩ := Cond.arrayOver_spec h
  exact ⟨c, ⟨k, comp, h3, h4, h1, h5⟩, fun n z => ⟨(fun k h => by cases h), k, h3, comp, h4⟩⟩
set_option maxRecDepth 100000 in
theorem j_Kstart {s : State} {b L : Nat} {xs : Nat → Int32} (hts : ∀ w ∈ lw_tbl, w.before #[Value.ref b] s = true) (hX : va_X b L xs s s.heap) (hbl : b < s.heap.size) (hgv : (Jvm.Cond.and given_1 narrow_1).before #[Value.ref b] s = true) : ∃ (D : va_G) (γ : Nat → ClassId), j_K D γ b s.heap.size ((List.range L).map xs) s := by
  have hWs : j_Ws s := fun w hw => j_use (List.mem_filter.mp hw).2 rfl (hts w (List.mem_filter.mp hw).1)
  have hfl := flat_of_before _ hgv
  have hcl : ∀ t, ∃ q : ClassId × (Nat → Nat), t < 13 → u_Kn s (j_R t) (j_T t) (j_N t) q.1 q.2 := by
    intro t
    by_cases ht : t < 13
    · obtain ⟨cC, iS, h⟩ := u_known (ws := lw_tbl) hts (fun w hw => (List.mem_filter.mp (j_lay t ht w hw)).1) (hts _ (j_inst t ht))
      exact ⟨(cC, iS), fun _ => h⟩
    · exact ⟨(0, fun _ => 0), fun h => absurd h ht⟩
  obtain ⟨c50, a50, b50⟩ := j_arrOf (hts _ j_arr50)
  obtain ⟨c51, a51, b51⟩ := j_arrOf (hts _ j_arr51)
  obtain ⟨c52, a52, b52⟩ := j_arrOf (hts _ j_arr52)
  obtain ⟨c53, a53, b53⟩ := j_arrOf (hts _ j_arr53)
  obtain ⟨c60, a60, b60⟩ := j_arrOver (hts _ j_over60)
  obtain ⟨c61, a61, b61⟩ := j_arrOver (hts _ j_over61)
  obtain ⟨c62, a62, b62⟩ := j_arrOver (hts _ j_over62)
  refine ⟨(fun t => (Classical.choose (hcl t)).1, fun t => (Classical.choose (hcl t)).2), fun t => if t = 50 then c50 else if t = 51 then c51 else if t = 52 then c52 else if t = 53 then c53 else if t = 60 then c60 else if t = 61 then c61 else c62, ⟨fun c q hq => ?_, fun k q hq => ?_⟩, ?_, hbl, Nat.le_refl _, hWs, ⟨va_AO.of (hts _ j_over60), va_AO.of (hts _ j_over61), va_AO.of (hts _ j_over62)⟩, ?_, ?_, ?_⟩
  · have hc : c < 13 := (List.getElem?_eq_some_iff.mp hq).1
    have e := (j_cl c hc).symm.trans hq
    cases e
    exact Classical.choose_spec (hcl c) hc
  · match k, hq with
    | 0, hq => cases hq; exact ⟨b50, a50⟩
    | 1, hq => cases hq; exact ⟨b51, a51⟩
    | 2, hq => cases hq; exact ⟨b52, a52⟩
    | 3, hq => cases hq; exact ⟨b53, a53⟩
    | 4, hq => cases hq; exact ⟨b60, a60⟩
    | 5, hq => cases hq; exact ⟨b61, a61⟩
    | 6, hq => cases hq; exact ⟨b62, a62⟩
    | k + 7, hq => cases hq
  · obtain ⟨scr, h1, h2, h3, h4, h5⟩ := hX
    refine ⟨scr, h1, h2, h3, by simpa using h4, fun j hj => ?_⟩
    have hj' : j < L := by simpa using hj
    rw [h5 j hj']
    simp [hj']
  · exact vx_Zqof (hts _ (List.mem_of_getElem? (i := 897) rfl)) (hts _ (List.mem_of_getElem? (i := 137) rfl)) (hfl _ (by decide +kernel)) (fun a ha => Nat.not_le.mpr ha)
  · exact vx_Zqof (hts _ (List.mem_of_getElem? (i := 899) rfl)) (hts _ (List.mem_of_getElem? (i := 137) rfl)) (hfl _ (by decide +kernel)) (fun a ha => Nat.not_le.mpr ha)
  · intro x y hx hy hxy
    match x, y, hx, hy, hxy with
    | 0, 0, _, _, h => exact absurd rfl h
    | 1, 1, _, _, h => exact absurd rfl h
    | 2, 2, _, _, h => exact absurd rfl h
    | 0, 1, _, _, _ => exact va_Nc.of (hfl _ (by decide +kernel))
    | 0, 2, _, _, _ => exact va_Nc.of (hfl _ (by decide +kernel))
    | 1, 0, _, _, _ => exact va_Nc.of (hfl _ (by decide +kernel))
    | 1, 2, _, _, _ => exact va_Nc.of (hfl _ (by decide +kernel))
    | 2, 0, _, _, _ => exact va_Nc.of (hfl _ (by decide +kernel))
    | 2, 1, _, _, _ => exact va_Nc.of (hfl _ (by decide +kernel))
/-- the law's start as the interpreter has it -/
def j_f0 : jF := (0, j_ent 7 [.ref 0], [])
def j_m0 : jM := (0, 0, true, [])
def j_law : Nat := 266
/-- the interpreter's run of the law ends with 1, within the room -/
def j_Good (X : List Int32) : Prop := ∃ (n d : Nat) (m : jM), j_go jP X n d j_law j_f0 j_m0 = some (.inl (some (.int 1)), m) ∧ m.1 ≤ 601024 ∧ m.2.1 ≤ 7293034 ∧ d ≤ 800
set_option maxRecDepth 100000 in
theorem j_start {p : Program} {e : Env} {s : State} {m : MethodId} {below : List Frame} {meth : Method} {c : Code} (l : Launch) (hflags : l.flags = flags0) {b L : Nat} {xs : Nat → Int32} (C0 : lw_At p s m meth c b L xs) (hG : j_Good ((List.range L).map xs)) : W p l e room_1 s m #[Value.ref b] below meth c s.heap [] 0 0 (lw_Z below #[Value.ref b] s) (entryFrame m ([Value.ref b] : List Value).toArray 7) := by
  obtain ⟨hx, hcb, hret, hml, hown, hts, hX, hbl, hlocks, hgv⟩ := C0
  obtain ⟨D, γ, hK⟩ := j_Kstart hts hX hbl hgv
  obtain ⟨n, d, me, hgo, hc1, hs1, hd⟩ := hG
  have hown' : s.vm.findClass (j_own 13) = some m.cls := hown
  have hC : j_C p l room_1 s m meth c D γ b s.heap.size ((List.range L).map xs) (j_own 13) code 7 := ⟨hx, hcb, hml, hown', hK, hlocks, Nat.le_of_ble_eq_true rfl, Nat.le_of_ble_eq_true rfl⟩
  have hmt : jP[j_law]? = some (jc_266, 7, [], [25, 72, 117, 162, 217, 252, 309, 357, 402, 409, 444, 479, 486, 493, 518, 553, 588, 623, 668, 713, 760, 795, 830, 837]) := by rfl
  have hB := j_body (j_flags hflags) (D := D) (γ := γ) (b := b) (base := s.heap.size) (X := (List.range L).map xs) j_Fall n d j_law j_f0 j_m0 _ hgo (p := p) (e := e) (R := room_1) (s := s) (m := m) (args := #[Value.ref b]) (below := below) (meth := meth) (c := c) (Q := lw_Z below #[Value.ref b] s) (nL := 7) (c0 := 0) (s0 := 0) (oo := 13) (cc := code) (ini := false) (ret := some .boolean) (tab := []) hmt j_lawchk rfl (fun h => absurd rfl h) (fun r hr => by cases hr) hC (fun h => by cases h)
    (by show d + 10 ≤ 2048; omega) (by show 100 * d + 300 ≤ 84000; omega) (by rw [Nat.zero_add]; exact hc1) (by rw [Nat.zero_add]; exact hs1) (fun f' mm' hst => by
      obtain ⟨op, pc, a, bb, cx, hcd, hdo⟩ := j_step_E hst
      rw [j_pc_at hcd]
      have hchk := j_chks_at j_lawchk hcd
      simp only [j_chk, hcd] at hchk
      rcases j_do_end hdo with ⟨-, -, h⟩ | ⟨rfl, v, hS, -, h⟩ | ⟨-, v, -, hv, h⟩ | ⟨-, -, h⟩
      · cases h
      · simp only [Prod.mk.injEq, Sum.inl.injEq, Option.some.injEq, Value.int.injEq] at h
        obtain ⟨rfl, rfl⟩ := h
        rw [hS]
        simp only [Bool.and_eq_true, j_dc, decide_eq_true_eq] at hchk
        intro H locs cells slots ls hI hL hc hs
        refine va_forget (fun q hq => hI.2.2.2 q hq) ?_
        refine W.widen (k := 601024) (n := 7293034) (by rw [← hc] at hc1; simpa using hc1) (by rw [← hs] at hs1; simpa using hs1) ?_
        exact lw_ret hx hcb hret hlocks hchk.1
      · rcases hv with rfl | ⟨x, rfl⟩ <;> cases h
      · cases h)
  have hz : j_pc jc_266 0 = 0 := by rfl
  rw [lg_entry_eq]
  have hw := hB s.heap [] 0 0 _ ⟨⟨fun k q hq => (by cases hq), Nat.le_refl _, fun _ => rfl⟩, va_S.rf⟩ (j_entry (b := b) (base := s.heap.size) (as := [.ref 0]) (maxL := 7) (fun v hv => by rw [List.mem_singleton.mp hv]; rfl) (by decide)) rfl rfl
  exact hw
