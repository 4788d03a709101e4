/-! ===== THE RUN, IN THE MACHINE ===== -/
theorem j_lvargs {vs : List Value} (h : ∀ v ∈ vs, v.category = 1) : ∀ (n : Nat) (i : Nat) (v : Value), vs[i]? = some v → (n + i, v) ∈ lv_args n vs := by
  induction vs with
  | nil => intro n i v hv; simp at hv
  | cons u us ih =>
    intro n i v hv
    have hu : ¬ u.category = 2 := by rw [h u List.mem_cons_self]; decide
    simp only [lv_args, hu, if_false]
    cases i with
    | zero => simp only [List.getElem?_cons_zero, Option.some.injEq] at hv; subst hv; exact List.mem_cons_self
    | succ i =>
      rw [List.getElem?_cons_succ] at hv
      have := ih (fun v hv => h v (List.mem_cons_of_mem _ hv)) (n + 1) i v hv
      rw [show n + (i + 1) = n + 1 + i by omega]
      exact List.mem_cons_of_mem _ this
theorem j_sllen {vs : List Value} (h : ∀ v ∈ vs, v.category = 1) : (lg_sl vs).length = vs.length := by
  induction vs with
  | nil => rfl
  | cons u us ih =>
    have hu : ¬ u.category = 2 := by rw [h u List.mem_cons_self]; decide
    have := ih (fun v hv => h v (List.mem_cons_of_mem _ hv))
    simp only [lg_sl, List.flatMap_cons, hu, if_false, List.length_append, List.length_cons, List.length_nil] at this ⊢
    omega
theorem j_entry {b base maxL : Nat} {as : List Value} (h : ∀ v ∈ as, v.category = 1) (hl : as.length ≤ maxL) : j_L b base maxL ((lg_sl (as.map (j_rl b base)) ++ List.replicate (maxL - (lg_sl (as.map (j_rl b base))).length) Slot.unset).toArray) (j_ent maxL as) := by
  have h' : ∀ v ∈ as.map (j_rl b base), v.category = 1 := by
    intro v hv
    obtain ⟨u, hu, rfl⟩ := List.mem_map.mp hv
    rw [j_rl_cat]; exact h u hu
  have hlen : (lg_sl (as.map (j_rl b base))).length = as.length := by rw [j_sllen h', List.length_map]
  have h1 := lv_entry (as.map (j_rl b base)) (n := maxL) (by omega)
  refine ⟨⟨h1.1, h1.2.1, fun q hq => h1.2.2 q ?_⟩, by simp [j_ent]; omega, fun i v hv => ?_⟩
  · obtain ⟨hq1, v, hv, hr, hq2⟩ := j_lp_mem.mp hq
    have hi : q.1 < as.length := by
      by_cases hi : q.1 < as.length
      · exact hi
      · rw [j_ent, List.getElem?_append_right (by omega), List.getElem?_replicate] at hv
        split at hv
        · cases hv; exact absurd rfl hr
        · cases hv
    rw [j_ent, List.getElem?_append_left hi] at hv
    have := j_lvargs h' 0 q.1 (j_rl b base v) (by rw [List.getElem?_map, hv]; rfl)
    rw [Nat.zero_add, ← hq2] at this
    exact this
  · by_cases hi : i < as.length
    · rw [j_ent, List.getElem?_append_left hi] at hv
      exact h v (List.mem_of_getElem? hv)
    · rw [j_ent, List.getElem?_append_right (by omega), List.getElem?_replicate] at hv
      split at hv
      · cases hv; rfl
      · cases hv
theorem j_L_setU {b base nL i : Nat} {ls ls' : Array Slot} {L : List Value} {w : Value} (h : j_L b base nL ls L) (h' : lv_has ls' nL ((i, w) :: (j_lp b base nL L).filter (fun q => !(q.1 == i) && !(q.1 + 1 == i && q.2.category == 2)))) : j_L b base nL ls' (L.set i (.retAddr 0)) := by
  obtain ⟨h1, h2, h3⟩ := h
  refine ⟨⟨h'.1, h'.2.1, fun q hq => h'.2.2 q ?_⟩, by simp [h2], fun k u hu => ?_⟩
  · obtain ⟨hl, u, hu, hr, hq2⟩ := j_lp_mem.mp hq
    by_cases hk : i = q.1
    · subst hk
      rw [List.getElem?_set_self (by omega)] at hu
      cases hu
      exact absurd rfl hr
    · rw [List.getElem?_set_ne hk] at hu
      refine List.mem_cons.mpr (Or.inr (List.mem_filter.mpr ⟨j_lp_mem.mpr ⟨hl, u, hu, hr, hq2⟩, ?_⟩))
      have hcat : q.2.category = 1 := by rw [hq2, j_rl_cat]; exact h3 _ _ hu
      have : ¬ q.1 = i := fun e => hk e.symm
      simp [this, hcat]
  · by_cases hk : i = k
    · subst hk
      by_cases hl : i < L.length
      · rw [List.getElem?_set_self hl] at hu; cases hu; rfl
      · rw [List.getElem?_eq_none (by simp; omega)] at hu; cases hu
    · rw [List.getElem?_set_ne hk] at hu
      exact h3 _ _ hu
section J16
variable {p : Program} {l : Launch} {e : Env} {R : Room} {s : State} {m : MethodId} {args : Array Value} {below : List Frame} {meth : Method} {c : Code} {Q : State → Prop}
variable {D : va_G} {γ : Nat → ClassId} {b base nL c0 s0 : Nat} {X : List Int32} {o : Nat} {cc : ByteArray} {mm : jM} {L S : List Value}
variable {cd : List jI} {sw : List Nat} {hs : List (Nat × Nat × Nat × Nat × Nat)} {ini : Bool} {ret : Option FieldType} {i cp pc d : Nat}
/-- a static call of a method with a table -/
theorem jo_callT {k cp d mc ms : Nat} {as rest : List Value} {v : Option Value} {o' : jO} {t : Nat × Nat × Nat × Nat} {ts : List (Nat × Nat × Nat × Nat)} (C0 : j_C p l R s m meth c D γ b base X (j_own o) cc nL) (hk : k ∈ jCall) (F : j_F k) (hkind : (j_d k).2.2.2.2.2.1 = 0) (hnil : (j_d k).2.2.2.2.2.2.2 = t :: ts) (hdg : decode cc pc = .ok (.invokestatic cp, 3))
    (hw : Cond.methodLink (j_own o) cp (j_y k) ∈ lw_tbl) (hRf : d + 11 ≤ R.frames) (hRl : 100 * d + 400 ≤ R.locals) (hn : as.length = (j_d k).2.2.2.2.2.2.1) (hsum : (rest.map fun v => v.category).sum ≤ 8)
    (hM : vx_Met l (j_y k) [j_cw (j_d k)] (j_rm d mc ms) (j_Pc D γ b base X as mm) (j_Q D γ b base o') (j_X D γ b base o') mc ms (fun q => base ≤ q)) (hv : o'.1 = .inl v) (hmc : o'.2.1 = mm.1 + mc) (hms : o'.2.2.1 = mm.2.1 + ms) (hR1 : o'.2.1 ≤ c0 + R.cells) (hR2 : o'.2.2.1 ≤ s0 + R.slots)
    (kk : j_G p l e R s m args below meth c Q D γ b base nL c0 s0 o'.2 (pc + 3) L (j_ret v rest)) : j_G p l e R s m args below meth c Q D γ b base nL c0 s0 mm pc L (as.reverse ++ rest) := by
  intro H locs cells slots ls hI hL hc hs
  have hM2 := j_Met_of hM hv
  have hcw : j_cw (j_d k) = .codeWith (j_y k) (j_d k).2.2.1 (j_d k).2.2.2.1 (j_d k).2.2.2.2.1 (t :: ts) := by unfold j_cw; rw [hnil]; rfl
  have hsg := j_sig F
  have hst : (as.reverse ++ rest).map (j_rl b base) = (as.map (j_rl b base)).reverse ++ rest.map (j_rl b base) := by rw [List.map_append, List.map_reverse]
  rw [hst]
  obtain ⟨mt, cps, -, -, -, h3, -, h5, -, -, -, h9, -, h11, -⟩ := F
  refine j_after (a := (as.map (j_rl b base)).toArray) hv hmc hms kk hI hL hc hs ?_
  refine vx_runSW (hh := t :: ts) (j_fix C0) hM2 ⟨⟨rfl, rfl, j_ar2 hRf, j_ar1 h9 hRl, j_ws1 C0 hk, by rw [← hcw]; exact List.mem_singleton_self _⟩, by rw [← hcw]; exact j_word C0 (j_dw_ok k hk _ List.mem_cons_self) (j_cw_good _), ?_, h5, hsg, j_word C0 hw, j_word C0 (j_kw0 hk hkind)⟩ (j_PreS C0 hI) rfl (by rw [List.length_map]; exact hn) hL.1.1 rfl (lv_room (j_room8 hsum)) hdg ⟨by omega, by omega⟩
  show (Cond.initialized (j_d k).2.1.cls).before args s = true
  rw [h3]; exact j_word C0 (j_oini _ h11)
/-- a call of an object's method that throws, caught here -/
theorem jo_callX {k cp d mc ms q t x : Nat} {as2 rest fs : List Value} {o' : jO} {pre suf : List ExceptionTableEntry} {z : ExceptionTableEntry} (C0 : j_C p l R s m meth c D γ b base X (j_own o) cc nL) (hk : k ∈ jCall) (F : j_F k) (hkind : (j_d k).2.2.2.2.2.1 = 1) (hnil : (j_d k).2.2.2.2.2.2.2 = []) (hdg : decode cc pc = .ok (.invokevirtual cp, 3))
    (hw : Cond.methodLink (j_own o) cp (j_y k) ∈ lw_tbl) (hRf : d + 11 ≤ R.frames) (hRl : 100 * d + 400 ≤ R.locals) (hn : as2.length = (j_d k).2.2.2.2.2.2.1) (hsum : (rest.map fun v => v.category).sum ≤ 8) (ht : t < 13) (hdt : (j_d k).1 = t) (hm : j_at mm q = some (t, fs))
    (hM : vx_Met l (j_y k) [j_cw (j_d k)] (j_rm d mc ms) (j_Pc D γ b base X (.ref (q + 1) :: as2) mm) (j_Q D γ b base o') (j_X D γ b base o') mc ms (fun q => base ≤ q)) (hv : o'.1 = .inr x) (hmc : o'.2.1 = mm.1 + mc) (hms : o'.2.2.1 = mm.2.1 + ms) (hR1 : o'.2.1 ≤ c0 + R.cells) (hR2 : o'.2.2.1 ≤ s0 + R.slots)
    (hsplit : c.exceptionTable.toList = pre ++ z :: suf) (hpass : ∀ r ∈ pre, r.catchType ≠ 0 ∧ ∃ y : Nat, y < 3 ∧ y ≠ x ∧ Cond.classLink (j_own o) r.catchType (j_xn y) ∈ lw_tbl) (hcov : covers z pc = true) (hz0 : z.catchType ≠ 0) (hzl : Cond.classLink (j_own o) z.catchType (j_xn x) ∈ lw_tbl)
    {len el h2 : Nat} (hast : (decode cc z.handlerPc = .ok (.astore_n (Fin.ofNat 4 el), 1) ∧ el < 4 ∧ len = 1) ∨ (decode cc z.handlerPc = .ok (.astore el, 2) ∧ len = 2)) (hel : el < L.length) (hh : z.handlerPc + len = h2)
    (kk : j_G p l e R s m args below meth c Q D γ b base nL c0 s0 o'.2 h2 (L.set el (.retAddr 0)) []) : j_G p l e R s m args below meth c Q D γ b base nL c0 s0 mm pc L (as2.reverse ++ .ref (q + 1) :: rest) := by
  intro H locs cells slots ls hI hL hc hs
  have hcls : (j_y k).cls = j_R t := by
    obtain ⟨mt, cps, -, -, -, h3, -⟩ := F
    show (j_d k).2.1.cls = _
    rw [h3, hdt]; exact j_own_R ht
  have hst : (as2.reverse ++ .ref (q + 1) :: rest).map (j_rl b base) = (as2.map (j_rl b base)).reverse ++ .ref (base + q) :: rest.map (j_rl b base) := by rw [List.map_append, List.map_reverse]; rfl
  rw [hst]
  have hkw := j_kw hk hkind
  rw [hcls] at hkw
  have hr := vx_runV (args := args) (H := H) (cells := cells) (slots := slots) (locs := locs) (g := F0 m pc ls ((as2.map (j_rl b base)).reverse ++ .ref (base + q) :: rest.map (j_rl b base))) (rest := rest.map (j_rl b base)) (e := e) (below := below) (meth := meth) (j_fix C0) hM ⟨j_CallB C0 hk F hnil hw hRf hRl, j_word C0 hkw.1, j_word C0 hkw.2⟩ (j_PreV C0 hI ht hm) rfl (by rw [List.length_map]; exact hn) hL.1.1 rfl (lv_room (j_room8 hsum)) hdg ⟨by omega, by omega⟩
  intro T hT X0
  rcases hr T hT X0 with ⟨v, st₀, t1, T', L', h0, X', hL', e1, e2, ⟨w, hw1, -⟩, st⟩ | ⟨qx, st₀, t1, T', L', E, ce, h0, X', hL', e1, e2, ⟨y, hy1, hy3, hE, hH, hF⟩, hce, hcv, hcl, st⟩
  · rw [hv] at hw1; cases hw1
  · rw [hv] at hy1
    cases hy1
    subst hE
    obtain ⟨k1, k2, k3⟩ := vx_keep (A0 := fun q => base ≤ q) (A1 := fun q => base ≤ q) (free := fun q => base ≤ q) h0 e1 hI.2 (fun q _ h => h) (fun q h => h) hL' hF
    have hcw := vx_catch (pc := pc) (rest := rest.map (j_rl b base)) (ls := ls) (H := T'.heap) (locs := locs ++ L') (cells := cells + mc) (slots := slots + ms) (Q := Q) (p := p) (l := l) (e := e) (R := R) (args := args) (below := below) (meth := meth) C0.2.2.2.1 pre z suf hsplit (fun r hr => by
        obtain ⟨g1, y, g2, g3, g4⟩ := hpass r hr
        exact Or.inr ⟨g1, j_xn y, j_word C0 g4, C0.2.2.2.2.1.2.2.2.2.2.2.2.2 x y hy3 g2 (fun h => g3 h.symm)⟩) hcov hz0 (j_word C0 hzl) (j_word C0 (j_cast x hy3)) (by rw [e1]; exact hce) hcv hcl ?_
    · obtain ⟨t2, a1, b1⟩ := hcw T' rfl X'
      exact ⟨t2, st.trans a1, b1⟩
    · refine lv_astoreV C0.1 C0.2.1 rfl rfl hast hL.1 (by rw [← hL.2.1]; exact hel) fun ls' h' => ?_
      rw [hh]
      exact kk T'.heap (locs ++ L') (cells + mc) (slots + ms) ls' ⟨by rw [e1]; exact hH, k3⟩ (j_L_setU hL h') (by omega) (by omega)
end J16
