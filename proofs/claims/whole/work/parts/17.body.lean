/-! ===== THE RUN, IN THE MACHINE: every method by induction ===== -/
theorem j_chks_at {o : Nat} {cc : ByteArray} {cd : List jI} {sw : List Nat} {hs : List (Nat × Nat × Nat × Nat × Nat)} {ini : Bool} {ret : Option FieldType} {cps : List Nat} {i : Nat} {q : jI} (h : j_chks o cc cd sw hs ini ret cps = true) (hi : cd[i]? = some q) : j_chk o cc cd sw hs ini ret i (cps.getD i 0) = true :=
  List.all_eq_true.mp h i (List.mem_range.mpr (List.getElem?_eq_some_iff.mp hi).1)
theorem j_pc_at {cd : List jI} {i op pc a b c : Nat} (h : cd[i]? = some (op, pc, a, b, c)) : j_pc cd i = pc := by simp [j_pc, h]
theorem j_tab_nil {o : Nat} {cc : ByteArray} {cd : List jI} {tab : List (Nat × Nat × Nat × Nat)} (h : j_tab o cc cd [] tab = true) : tab = [] := by
  cases tab with
  | nil => rfl
  | cons t ts => simp [j_tab] at h
section J17
variable {p : Program} {l : Launch} {e : Env} {R : Room} {s : State} {m : MethodId} {args : Array Value} {below : List Frame} {meth : Method} {c : Code} {Q : State → Prop}
variable {D : va_G} {γ : Nat → ClassId} {b base nL c0 s0 : Nat} {X : List Int32} {o : Nat} {cc : ByteArray} {mm : jM} {L S : List Value}
variable {cd : List jI} {sw : List Nat} {hs : List (Nat × Nat × Nat × Nat × Nat)} {ini : Bool} {ret : Option FieldType} {i cp pc d : Nat}
theorem jo_end {op a bb cx mc ms : Nat} {o' : jO} (C0 : j_C p l R s m meth c D γ b base X (j_own o) cc nL) (hl : l.stackTraces = false) (hret : meth.sig.returnType = ret) (hcd : cd[i]? = some (op, pc, a, bb, cx)) (hchk : j_chk o cc cd sw hs ini ret i cp = true) (hhs : hs = [] → ∀ z ∈ c.exceptionTable.toList, False)
    (hdo : j_do sw X op a bb cx i L S mm = some (.inr (.inr o'))) (hmc : o'.2.1 = c0 + mc) (hms : o'.2.2.1 = s0 + ms) (hR1 : o'.2.1 ≤ c0 + R.cells) (hR2 : o'.2.2.1 ≤ s0 + R.slots) :
    j_G p l e R s m args below meth c (vx_MQ below (j_Q D γ b base o') (j_X D γ b base o') args s mc ms (fun q => base ≤ q)) D γ b base nL c0 s0 mm pc L S := by
  simp only [j_chk, hcd] at hchk
  rcases j_do_end hdo with ⟨rfl, rfl, rfl⟩ | ⟨rfl, v, rfl, hv, rfl⟩ | ⟨rfl, v, rfl, hv, rfl⟩ | ⟨rfl, hS, rfl⟩
  · simp only [Bool.and_eq_true, j_dc, decide_eq_true_eq] at hchk
    exact j_endV C0 (by rw [hret]; exact hchk.2) hchk.1 hmc hms
  · simp only [Bool.and_eq_true, j_dc, decide_eq_true_eq] at hchk
    refine j_endI C0 ?_ hchk.1 hmc hms
    by_cases ha : a = 0
    · exact Or.inl (by rw [hret, hchk.2, if_pos ha])
    · refine Or.inr ⟨by rw [hret, hchk.2, if_neg ha], ?_⟩
      rcases hv with h | h
      · exact absurd h ha
      · exact h
  · simp only [Bool.and_eq_true, j_dc, decide_eq_true_eq] at hchk
    obtain ⟨h1, h2⟩ := hchk
    split at h2
    · exact j_endA C0 hret (Or.inl ⟨_, rfl⟩) hv h1 hmc hms
    · exact j_endA C0 hret (Or.inr ⟨_, rfl⟩) hv h1 hmc hms
    · cases h2
  · simp only [Bool.and_eq_true, j_dc, decide_eq_true_eq] at hchk
    obtain ⟨⟨⟨⟨⟨⟨h1, h2⟩, h3⟩, h4⟩, h5⟩, h6⟩, h7⟩ := hchk
    subst h7
    have h6' := List.elem_iff.mp h6
    have hw := j_xl_ok 11 _ h6'
    have hic : a < 3 ∧ ((a = 0 ∧ cx = 86) ∨ (a = 1 ∧ cx = 93) ∨ (a = 2 ∧ cx = 122)) := by
      simp only [j_xl, List.mem_cons, Prod.mk.injEq, List.not_mem_nil, or_false] at h6'
      omega
    exact j_endX C0 hl hic.1 hic.2 hw h1 h2 h3 h4 (hhs (List.isEmpty_iff.mp h5)) hS hR1 hR2 hmc hms
end J17
theorem j_split {S : List Value} {b : Nat} : S = (S.take b).reverse.reverse ++ S.drop b := by rw [List.reverse_reverse, List.take_append_drop]
theorem j_hand_mem {i x h2 el : Nat} : ∀ {hs : List (Nat × Nat × Nat × Nat × Nat)}, j_hand hs i x = some (h2, el) → ∃ r ∈ hs, r.2.2.2.2 = el := by
  intro hs
  induction hs with
  | nil => intro h; cases h
  | cons r hs ih =>
    intro h
    obtain ⟨lo, hi, h', k, e⟩ := r
    simp only [j_hand] at h
    split at h
    · cases h; exact ⟨_, List.mem_cons_self, rfl⟩
    · obtain ⟨r, hr, e⟩ := ih h
      exact ⟨r, List.mem_cons_of_mem _ hr, e⟩
theorem j_recvE {m : jM} {c : Nat} {as : List Value} (h : j_recv m c as = true) : ∃ q as2 fs, as = .ref (q + 1) :: as2 ∧ j_at m q = some (c, fs) := by
  unfold j_recv at h
  split at h
  · split at h
    · rename_i t fs hm
      have : t = c := by simpa using h
      subst this
      exact ⟨_, _, _, rfl, hm⟩
    · cases h
  · cases h
/-- the handler that is found, in the machine's table -/
theorem j_handE {o : Nat} {cc : ByteArray} {cd : List jI} {i x h2 el pc : Nat} : ∀ {hs : List (Nat × Nat × Nat × Nat × Nat)} {tab : List (Nat × Nat × Nat × Nat)}, j_tab o cc cd hs tab = true → (∀ r ∈ hs, r.1 ≤ i ∧ i < r.2.1 ∧ j_pc cd r.1 ≤ pc ∧ pc < j_pc cd r.2.1) → j_hand hs i x = some (h2, el) →
    ∃ (pre suf : List ExceptionTableEntry) (z : ExceptionTableEntry) (len : Nat), tableOf tab = pre ++ z :: suf ∧ (∀ r ∈ pre, r.catchType ≠ 0 ∧ ∃ y : Nat, y < 3 ∧ y ≠ x ∧ Cond.classLink (j_own o) r.catchType (j_xn y) ∈ lw_tbl) ∧ covers z pc = true ∧ z.catchType ≠ 0 ∧ Cond.classLink (j_own o) z.catchType (j_xn x) ∈ lw_tbl ∧
      ((decode cc z.handlerPc = .ok (.astore_n (Fin.ofNat 4 el), 1) ∧ el < 4 ∧ len = 1) ∨ (decode cc z.handlerPc = .ok (.astore el, 2) ∧ len = 2)) ∧ z.handlerPc + len = j_pc cd h2 := by
  intro hs
  induction hs with
  | nil => intro tab _ _ hh; cases hh
  | cons r hs ih =>
    intro tab ht hcov hh
    obtain ⟨lo, hi, h, k, e⟩ := r
    cases tab with
    | nil => simp [j_tab] at ht
    | cons t ts =>
      obtain ⟨f, t2, g, ct⟩ := t
      simp only [j_tab, Bool.and_eq_true, Bool.or_eq_true, decide_eq_true_eq] at ht
      obtain ⟨⟨⟨⟨⟨⟨h1, h2'⟩, h3⟩, h4⟩, h5⟩, h6⟩, h7⟩ := ht
      obtain ⟨c1, c2, c3, c4⟩ := hcov _ List.mem_cons_self
      have hw := j_el_ok o _ (List.elem_iff.mp h5)
      simp only [j_hand] at hh
      by_cases hk : k = x
      · rw [if_pos ⟨c1, c2, hk⟩] at hh
        cases hh
        subst hk
        refine ⟨[], tableOf ts, ⟨f, t2, g, ct⟩, if j_pc cd h2 = g + 1 then 1 else 2, rfl, (fun r hr => by cases hr), ?_, h4, hw, ?_, ?_⟩
        · simp only [covers, Bool.and_eq_true, decide_eq_true_eq]
          rw [h1, h2']; exact ⟨c3, c4⟩
        · rcases h6 with ⟨a1, a2, a3⟩ | ⟨a1, a3⟩
          · simp only [j_dc, decide_eq_true_eq] at a1
            exact Or.inl ⟨a1, a2, by rw [if_pos a3]⟩
          · simp only [j_dc, decide_eq_true_eq] at a1
            exact Or.inr ⟨a1, by rw [if_neg (by omega)]⟩
        · rcases h6 with ⟨a1, a2, a3⟩ | ⟨a1, a3⟩
          · rw [if_pos a3]; exact a3.symm
          · rw [if_neg (by omega)]; exact a3.symm
      · rw [if_neg (fun q => hk q.2.2)] at hh
        obtain ⟨pre, suf, z, len, g1, g2, g3⟩ := ih h7 (fun r hr => hcov r (List.mem_cons_of_mem _ hr)) hh
        refine ⟨⟨f, t2, g, ct⟩ :: pre, suf, z, len, by
          have e : tableOf ((f, t2, g, ct) :: ts) = ⟨f, t2, g, ct⟩ :: tableOf ts := rfl
          rw [e, g1]; rfl, fun r hr => ?_, g3⟩
        rcases List.mem_cons.mp hr with rfl | hr
        · exact ⟨h4, k, h3, hk, hw⟩
        · exact g2 r hr
/-- out of a method's contract for shorter runs: a call -/
theorem j_calE {o cp a b c kind : Nat} {nest free : Bool} {hs : List (Nat × Nat × Nat × Nat × Nat)} (h : j_cal o cp a b c nest kind hs free = true) : (cp, a, nest) ∈ j_ml o ∧ a ∈ jCall ∧ (j_d a).2.2.2.2.2.1 = kind ∧ b = (j_d a).2.2.2.2.2.2.1 + (if kind = 0 then 0 else 1) ∧ (kind = 0 ∨ ((j_d a).1 = c ∧ c < 13)) ∧ (free = true ∨ hs = []) := by
  simp only [j_cal, Bool.and_eq_true, Bool.or_eq_true, decide_eq_true_eq, List.isEmpty_iff] at h
  obtain ⟨⟨⟨⟨⟨⟨h1, h2⟩, h3⟩, h4⟩, h5⟩, h6⟩, -⟩ := h
  exact ⟨List.elem_iff.mp h1, List.elem_iff.mp h2, h3, h4, h5, h6⟩
theorem j_mlF {o cp a : Nat} (h : (cp, a, false) ∈ j_ml o) : Cond.methodLink (j_own o) cp (j_y a) ∈ lw_tbl := j_ml_ok o _ h
theorem j_mlT {o cp a : Nat} (h : (cp, a, true) ∈ j_ml o) : Cond.methodLinkNest (j_own o) cp (j_y a) "NotebookWeir" ∈ lw_tbl := j_ml_ok o _ h
set_option maxHeartbeats 2000000 in
theorem j_body {l : Launch} (hl : l.stackTraces = false) {D : va_G} {γ : Nat → ClassId} {b base : Nat} {X : List Int32} (hF : ∀ k ∈ jCall, j_F k) : ∀ (n d k : Nat) (f : jF) (mm : jM) (o : jO), j_go jP X n d k f mm = some o →
    ∀ {p : Program} {e : Env} {R : Room} {s : State} {m : MethodId} {args : Array Value} {below : List Frame} {meth : Method} {c : Code} {Q : State → Prop} {nL c0 s0 oo : Nat} {cc : ByteArray} {ini : Bool} {ret : Option FieldType} {mt : jMt} {cps : List Nat} {tab : List (Nat × Nat × Nat × Nat)},
      jP[k]? = some mt → j_chks oo cc mt.1 mt.2.2.2 mt.2.2.1 ini ret cps = true → j_tab oo cc mt.1 mt.2.2.1 tab = true → (mt.2.2.1 ≠ [] → c.exceptionTable.toList = tableOf tab) → (∀ r ∈ mt.2.2.1, r.2.2.2.2 < nL) → j_C p l R s m meth c D γ b base X (j_own oo) cc nL → (ini = true → meth.name = "<init>") →
      d + 10 ≤ R.frames → 100 * d + 300 ≤ R.locals → o.2.1 ≤ c0 + R.cells → o.2.2.1 ≤ s0 + R.slots →
      (∀ (f' : jF) (mm' : jM), j_step mt X f' mm' = some (.inr (.inr o)) → j_G p l e R s m args below meth c Q D γ b base nL c0 s0 mm' (j_pc mt.1 f'.1) f'.2.1 f'.2.2) →
      j_G p l e R s m args below meth c Q D γ b base nL c0 s0 mm (j_pc mt.1 f.1) f.2.1 f.2.2 := by
  intro n
  induction n with
  | zero => intro d k f mm o h; cases h
  | succ n ih =>
    -- the contract of a method for runs of n steps
    have met : ∀ (k' d' : Nat) (as : List Value) (mm' : jM) (o' : jO) (mt' : jMt), k' ∈ jCall → jP[k']? = some mt' → j_go jP X n d' k' (0, j_ent mt'.2.1 as, []) mm' = some o' → (∀ v ∈ as, v.category = 1) → as.length = (j_d k').2.2.2.2.2.2.1 + (if (j_d k').2.2.2.2.2.1 = 0 then 0 else 1) →
        vx_Met l (j_y k') [j_cw (j_d k')] (j_rm d' (o'.2.1 - mm'.1) (o'.2.2.1 - mm'.2.1)) (j_Pc D γ b base X as mm') (j_Q D γ b base o') (j_X D γ b base o') (o'.2.1 - mm'.1) (o'.2.2.1 - mm'.2.1) (fun q => base ≤ q) := by
      intro k' d' as mm' o' mt' hk' hmt' hgo hcat hlen
      have hmono := j_go_mono _ _ _ _ _ _ hgo
      obtain ⟨mt2, cps, hmt2, hchks, hml2, hcls, hplain, -, -, -, hfitL, -, hinit, -, htab, hp0, hhl⟩ := hF k' hk'
      have e1 : mt2 = mt' := Option.some.inj (hmt2.symm.trans hmt')
      subst e1
      have body : ∀ (p : Program) (e : Env) (s : State) (m : MethodId) (args : Array Value) (below : List Frame) (meth : Method) (c : Code) (s₁ : State), BodyLoose p l (j_y k') (headSpec [j_cw (j_d k')] (j_rm d' (o'.2.1 - mm'.1) (o'.2.2.1 - mm'.2.1))) (j_d k').2.2.1 (j_d k').2.2.2.1 (j_d k').2.2.2.2.1 e s m args below meth c s₁ → c.maxLocals = (j_d k').2.2.2.1 → c.exceptionTable.toList = tableOf (j_d k').2.2.2.2.2.2.2 → j_Pc D γ b base X as mm' args s →
          W p l e (headSpec [j_cw (j_d k')] (j_rm d' (o'.2.1 - mm'.1) (o'.2.2.1 - mm'.2.1))).room s m args below meth c s.heap [] 0 0 (vx_MQ below (j_Q D γ b base o') (j_X D γ b base o') args s (o'.2.1 - mm'.1) (o'.2.2.1 - mm'.2.1) (fun q => base ≤ q)) (entryFrame m args (j_d k').2.2.2.1) := by
        intro p e s m args below meth c s₁ B hml ht hP
        obtain ⟨rfl, hK, hH⟩ := hP
        have hown : s.vm.findClass (j_own (j_d k').1) = some m.cls := by rw [← hcls]; exact findClass_of_methodNamed B.named
        have C0 : j_C p l (headSpec [j_cw (j_d k')] (j_rm d' (o'.2.1 - mm'.1) (o'.2.2.1 - mm'.2.1))).room s m meth c D γ b base X (j_own (j_d k').1) (j_d k').2.2.1 (j_d k').2.2.2.1 := ⟨B.exec, B.bytes, hml, hown, hK, B.notSynchronized, Nat.le_add_left _ _, Nat.le_add_left _ _⟩
        rw [lg_entry_eq]
        have hG := ih d' k' (0, j_ent mt2.2.1 as, []) mm' o' hgo (p := p) (e := e) (args := (as.map (j_rl b base)).toArray) (below := below) (Q := vx_MQ below (j_Q D γ b base o') (j_X D γ b base o') (as.map (j_rl b base)).toArray s (o'.2.1 - mm'.1) (o'.2.2.1 - mm'.2.1) (fun q => base ≤ q)) (c0 := mm'.1) (s0 := mm'.2.1) hmt' hchks htab (fun _ => ht) (fun r hr => by rw [← hml2]; exact hhl r hr) C0 (fun h => by
            have hk2 : (j_d k').2.2.2.2.2.1 = 2 := by simpa using h
            have hn := (name_of_methodNamed B.named B.method).1
            rw [hn]; exact (hinit hk2).1) (Nat.le_refl _) (Nat.le_refl _) (by show o'.2.1 ≤ mm'.1 + (o'.2.1 - mm'.1); omega) (by show o'.2.2.1 ≤ mm'.2.1 + (o'.2.2.1 - mm'.2.1); omega) (fun f' mm2 hst => by
              obtain ⟨op, pc, a, bb, cx, hcd, hdo⟩ := j_step_E hst
              rw [j_pc_at hcd]
              exact jo_end C0 hl B.returns hcd (j_chks_at hchks hcd) (fun hh z hz => by
                rw [hh] at htab
                rw [ht, j_tab_nil htab] at hz
                cases hz) hdo (by omega) (by omega) (by show o'.2.1 ≤ mm'.1 + (o'.2.1 - mm'.1); omega) (by show o'.2.2.1 ≤ mm'.2.1 + (o'.2.2.1 - mm'.2.1); omega))
        have hz : j_pc mt2.1 0 = 0 := by
          unfold j_pc
          cases h0 : mt2.1[0]? with
          | none => rfl
          | some q => rw [h0] at hp0; simpa using hp0
        have hw := hG s.heap [] 0 0 _ ⟨hH, va_S.rf⟩ (by rw [← hml2] at hfitL ⊢; exact j_entry hcat (by rw [hlen]; exact hfitL)) (Nat.add_zero _) (Nat.add_zero _)
        simp only [hz, List.map_nil] at hw
        rw [← hml2]
        exact hw
      cases hnil : (j_d k').2.2.2.2.2.2.2 with
      | nil =>
        refine vx_ofW (cc := (j_d k').2.2.1) (maxL := (j_d k').2.2.2.1) (ret := (j_d k').2.2.2.2.1) (ws' := []) hplain (by rw [j_cw_nilk hnil]) ?_
        intro p e s m args below meth c s₁ B hml hnt hP
        refine body p e s m args below meth c s₁ B hml ?_ hP
        rw [hnil]
        cases hx : c.exceptionTable.toList with
        | nil => rfl
        | cons z zs => exact (hnt z (by rw [hx]; exact List.mem_cons_self)).elim
      | cons t ts =>
        have hcw : j_cw (j_d k') = .codeWith (j_y k') (j_d k').2.2.1 (j_d k').2.2.2.1 (j_d k').2.2.2.2.1 (t :: ts) := by unfold j_cw; rw [hnil]; rfl
        refine vx_ofWH (cc := (j_d k').2.2.1) (maxL := (j_d k').2.2.2.1) (ret := (j_d k').2.2.2.2.1) (hh := t :: ts) (ws' := []) hplain (by rw [hcw]) ?_
        intro p e s m args below meth c s₁ B hml hP
        refine body p e s m args below meth c s₁ B hml ?_ hP
        rw [hnil]
        exact vx_table (x := j_y k') B (by rw [← hcw]; exact atoms_spec (ws := [j_cw (j_d k')]) B.pre _ (List.mem_singleton_self _))
    intro d k f mm o h p e R s m args below meth c Q nL c0 s0 oo cc ini ret mt cps tab hmt hchks htab hct htl C0 hini hRd hRl hR1 hR2 hQ
    obtain ⟨i, L, S⟩ := f
    simp only [j_go, hmt] at h
    split at h
    · cases h
    · rename_i f' m' hst
      obtain ⟨i', L', S'⟩ := f'
      obtain ⟨op, pc, a, bb, cx, hcd, hdo⟩ := j_step_E hst
      have hmono := j_go_mono _ _ _ _ _ _ h
      have hG := ih d k (i', L', S') m' o h hmt hchks htab hct htl C0 hini hRd hRl hR1 hR2 hQ
      rw [j_pc_at hcd]
      exact j_step_ok C0 hcd (j_chks_at hchks hcd) hini hdo (Nat.le_trans hmono.1 hR1) (Nat.le_trans hmono.2 hR2) hG
    · rename_i o' hst
      cases h
      exact hQ _ _ hst
    · rename_i k' as rest m' hst
      obtain ⟨op, pc, a, bb, cx, hcd, hdo⟩ := j_step_E hst
      rw [j_pc_at hcd]
      have hchk := j_chks_at hchks hcd
      have hpcn := hchk
      simp only [j_chk, hcd] at hchk
      obtain ⟨hop, rfl, rfl, hb1, has, hrest, hsum, hcat⟩ := j_do_call hdo
      dsimp only at has hrest hsum hcat hb1
      have hcat' : ∀ v ∈ as, v.category = 1 := fun v hv => hcat v (by rw [has] at hv; exact List.mem_reverse.mp hv)
      have hlen : as.length = bb := by rw [has, List.length_reverse, List.length_take]; omega
      rw [← hrest] at hsum
      have hSS : S = as.reverse ++ rest := by rw [has, hrest]; exact j_split
      split at h
      · rename_i d' mt' hmt'
        have hRf : d' + 11 ≤ R.frames := by omega
        have hRl' : 100 * d' + 400 ≤ R.locals := by omega
        split at h
        · cases h
        · rename_i v m2 hgo
          have hmo1 := j_go_mono _ _ _ _ _ _ hgo
          have hmo2 := j_go_mono _ _ _ _ _ _ h
          dsimp only at hmo1 hmo2
          have hG := ih (d' + 1) k (i + 1, L, j_ret v rest) m2 o h hmt hchks htab hct htl C0 hini hRd hRl hR1 hR2 hQ
          dsimp only at hG
          rcases hop with (rfl | rfl | rfl) | ⟨rfl | rfl | rfl | rfl, hrc⟩
          · simp only [Bool.and_eq_true, j_dc, decide_eq_true_eq, beq_iff_eq, List.isEmpty_iff] at hchk
            obtain ⟨⟨⟨h1, h2⟩, h3⟩, h4⟩ := hchk
            obtain ⟨g1, g2, g3, g4, g5, g6⟩ := j_calE h3
            rw [hSS]
            refine jo_callS C0 g2 (hF _ g2) g3 h4 h1 (Or.inl (j_mlF g1)) hRf hRl' (by rw [hlen, g4]; rfl) hsum (met _ d' as _ _ mt' g2 hmt' hgo hcat' (by rw [hlen, g4, g3])) rfl (by dsimp only; omega) (by dsimp only; omega) (by dsimp only; omega) (by dsimp only; omega) ?_
            rw [← h2]; exact hG
          · simp only [Bool.and_eq_true, j_dc, decide_eq_true_eq, beq_iff_eq, List.isEmpty_iff] at hchk
            obtain ⟨⟨⟨h1, h2⟩, h3⟩, h4⟩ := hchk
            obtain ⟨g1, g2, g3, g4, g5, g6⟩ := j_calE h3
            rw [hSS]
            refine jo_callS C0 g2 (hF _ g2) g3 h4 h1 (Or.inr (j_mlT g1)) hRf hRl' (by rw [hlen, g4]; rfl) hsum (met _ d' as _ _ mt' g2 hmt' hgo hcat' (by rw [hlen, g4, g3])) rfl (by dsimp only; omega) (by dsimp only; omega) (by dsimp only; omega) (by dsimp only; omega) ?_
            rw [← h2]; exact hG
          · simp only [Bool.and_eq_true, j_dc, decide_eq_true_eq, beq_iff_eq, Bool.not_eq_true'] at hchk
            obtain ⟨⟨⟨h1, h2⟩, h3⟩, h4⟩ := hchk
            obtain ⟨g1, g2, g3, g4, g5, g6⟩ := j_calE h3
            rw [hSS]
            cases htb : (j_d k').2.2.2.2.2.2.2 with
            | nil => rw [htb] at h4; cases h4
            | cons t ts =>
              refine jo_callT C0 g2 (hF _ g2) g3 htb h1 (j_mlF g1) hRf hRl' (by rw [hlen, g4]; rfl) hsum (met _ d' as _ _ mt' g2 hmt' hgo hcat' (by rw [hlen, g4, g3])) rfl (by dsimp only; omega) (by dsimp only; omega) (by dsimp only; omega) (by dsimp only; omega) ?_
              rw [← h2]; exact hG
          · simp only [Bool.and_eq_true, j_dc, decide_eq_true_eq, beq_iff_eq, List.isEmpty_iff] at hchk
            obtain ⟨⟨⟨⟨h1, h2⟩, h3⟩, h4⟩, -⟩ := hchk
            obtain ⟨g1, g2, g3, g4, g5, g6⟩ := j_calE h3
            rw [← has] at hrc
            obtain ⟨q, as2, fs, rfl, hm⟩ := j_recvE hrc
            have g5' : (j_d k').1 = cx ∧ cx < 13 := by rcases g5 with g | g; exact absurd g (by decide); exact g
            have hSS' : S = as2.reverse ++ .ref (q + 1) :: rest := by rw [hSS, List.reverse_cons, List.append_assoc]; rfl
            rw [hSS']
            refine jo_callV C0 g2 (hF _ g2) g3 h4 h1 (Or.inl (j_mlF g1)) hRf hRl' (by rw [List.length_cons] at hlen; rw [g4] at hlen; exact Nat.succ.inj hlen) hsum g5'.2 g5'.1 hm (met _ d' _ _ _ mt' g2 hmt' hgo hcat' (by rw [hlen, g4, g3])) rfl (by dsimp only; omega) (by dsimp only; omega) (by dsimp only; omega) (by dsimp only; omega) ?_
            rw [← h2]; exact hG
          · simp only [Bool.and_eq_true, j_dc, decide_eq_true_eq, beq_iff_eq, List.isEmpty_iff] at hchk
            obtain ⟨⟨⟨h1, h2⟩, h3⟩, h4⟩ := hchk
            obtain ⟨g1, g2, g3, g4, g5, g6⟩ := j_calE h3
            rw [← has] at hrc
            obtain ⟨q, as2, fs, rfl, hm⟩ := j_recvE hrc
            have g5' : (j_d k').1 = cx ∧ cx < 13 := by rcases g5 with g | g; exact absurd g (by decide); exact g
            have hSS' : S = as2.reverse ++ .ref (q + 1) :: rest := by rw [hSS, List.reverse_cons, List.append_assoc]; rfl
            rw [hSS']
            refine jo_callV C0 g2 (hF _ g2) g3 h4 h1 (Or.inr (j_mlT g1)) hRf hRl' (by rw [List.length_cons] at hlen; rw [g4] at hlen; exact Nat.succ.inj hlen) hsum g5'.2 g5'.1 hm (met _ d' _ _ _ mt' g2 hmt' hgo hcat' (by rw [hlen, g4, g3])) rfl (by dsimp only; omega) (by dsimp only; omega) (by dsimp only; omega) (by dsimp only; omega) ?_
            rw [← h2]; exact hG
          · simp only [Bool.and_eq_true, j_dc, decide_eq_true_eq, beq_iff_eq, List.isEmpty_iff] at hchk
            obtain ⟨⟨⟨h1, h2⟩, h3⟩, h4⟩ := hchk
            obtain ⟨g1, g2, g3, g4, g5, g6⟩ := j_calE h3
            rw [← has] at hrc
            obtain ⟨q, as2, fs, rfl, hm⟩ := j_recvE hrc
            have hSS' : S = as2.reverse ++ .ref (q + 1) :: rest := by rw [hSS, List.reverse_cons, List.append_assoc]; rfl
            rw [hSS']
            refine jo_callI C0 g2 (hF _ g2) g3 h4 h1 (Or.inl (j_mlF g1)) hRf hRl' (by rw [List.length_cons] at hlen; rw [g4] at hlen; exact Nat.succ.inj hlen) hsum (met _ d' _ _ _ mt' g2 hmt' hgo hcat' (by rw [hlen, g4, g3])) rfl (by dsimp only; omega) (by dsimp only; omega) (by dsimp only; omega) (by dsimp only; omega) ?_
            rw [← h2]; exact hG
          · simp only [Bool.and_eq_true, j_dc, decide_eq_true_eq, beq_iff_eq, List.isEmpty_iff] at hchk
            obtain ⟨⟨⟨h1, h2⟩, h3⟩, h4⟩ := hchk
            obtain ⟨g1, g2, g3, g4, g5, g6⟩ := j_calE h3
            rw [← has] at hrc
            obtain ⟨q, as2, fs, rfl, hm⟩ := j_recvE hrc
            have hSS' : S = as2.reverse ++ .ref (q + 1) :: rest := by rw [hSS, List.reverse_cons, List.append_assoc]; rfl
            rw [hSS']
            refine jo_callI C0 g2 (hF _ g2) g3 h4 h1 (Or.inr (j_mlT g1)) hRf hRl' (by rw [List.length_cons] at hlen; rw [g4] at hlen; exact Nat.succ.inj hlen) hsum (met _ d' _ _ _ mt' g2 hmt' hgo hcat' (by rw [hlen, g4, g3])) rfl (by dsimp only; omega) (by dsimp only; omega) (by dsimp only; omega) (by dsimp only; omega) ?_
            rw [← h2]; exact hG
        · rename_i x m2 hgo
          have hmo1 := j_go_mono _ _ _ _ _ _ hgo
          dsimp only at hmo1
          split at h
          · cases h
          · rename_i h2' el hhand
            have hmo2 := j_go_mono _ _ _ _ _ _ h
            try dsimp only at hmo2
            try dsimp only at hhand
            have hne : mt.2.2.1 ≠ [] := by intro he; rw [he] at hhand; cases hhand
            have hG := ih (d' + 1) k (h2', L.set el (.retAddr 0), []) m2 o h hmt hchks htab hct htl C0 hini hRd hRl hR1 hR2 hQ
            dsimp only at hG
            rcases hop with (rfl | rfl | rfl) | ⟨rfl | rfl | rfl | rfl, hrc⟩
            · simp only [Bool.and_eq_true] at hchk
              obtain ⟨g1, g2, g3, g4, g5, g6⟩ := j_calE hchk.1.2
              rcases g6 with g | g
              · cases g
              · exact absurd g hne
            · simp only [Bool.and_eq_true] at hchk
              obtain ⟨g1, g2, g3, g4, g5, g6⟩ := j_calE hchk.1.2
              rcases g6 with g | g
              · cases g
              · exact absurd g hne
            · simp only [Bool.and_eq_true] at hchk
              obtain ⟨g1, g2, g3, g4, g5, g6⟩ := j_calE hchk.1.2
              rcases g6 with g | g
              · cases g
              · exact absurd g hne
            · simp only [Bool.and_eq_true, j_dc, decide_eq_true_eq, beq_iff_eq, List.isEmpty_iff, List.all_eq_true] at hchk
              obtain ⟨⟨⟨⟨h1, h2⟩, h3⟩, h4⟩, h5⟩ := hchk
              obtain ⟨g1, g2, g3, g4, g5, g6⟩ := j_calE h3
              rw [← has] at hrc
              obtain ⟨q, as2, fs, rfl, hm⟩ := j_recvE hrc
              have g5' : (j_d k').1 = cx ∧ cx < 13 := by rcases g5 with g | g; exact absurd g (by decide); exact g
              have hSS' : S = as2.reverse ++ .ref (q + 1) :: rest := by rw [hSS, List.reverse_cons, List.append_assoc]; rfl
              obtain ⟨pre, suf, z, len, t1, t2, t3, t4, t5, t6, t7⟩ := j_handE htab h5 hhand
              rw [hSS']
              intro H locs cells slots ls hI hL hc hs
              have hel : el < L.length := by
                obtain ⟨r, hr, he⟩ := j_hand_mem hhand
                rw [hL.2.1, ← he]; exact htl r hr
              exact jo_callX C0 g2 (hF _ g2) g3 h4 h1 (j_mlF g1) hRf hRl' (by rw [List.length_cons] at hlen; rw [g4] at hlen; exact Nat.succ.inj hlen) hsum g5'.2 g5'.1 hm (met _ d' _ _ _ mt' g2 hmt' hgo hcat' (by rw [hlen, g4, g3])) rfl (by dsimp only; omega) (by dsimp only; omega) (by dsimp only; omega) (by dsimp only; omega) ((hct hne).trans t1) t2 t3 t4 t5 t6 hel t7 hG H locs cells slots ls hI hL hc hs
            · simp only [Bool.and_eq_true] at hchk
              obtain ⟨g1, g2, g3, g4, g5, g6⟩ := j_calE hchk.1.2
              rcases g6 with g | g
              · cases g
              · exact absurd g hne
            · simp only [Bool.and_eq_true] at hchk
              obtain ⟨g1, g2, g3, g4, g5, g6⟩ := j_calE hchk.1.2
              rcases g6 with g | g
              · cases g
              · exact absurd g hne
            · simp only [Bool.and_eq_true] at hchk
              obtain ⟨g1, g2, g3, g4, g5, g6⟩ := j_calE hchk.1.2
              rcases g6 with g | g
              · cases g
              · exact absurd g hne
      · cases h
