/-! ===== ONE STEP of the interpreter, out of its check ===== -/
theorem j_okE {i i' : Nat} {L L' S S' : List Value} {m m' : jM} (h : j_ok i L S m = some (.inl ((i', L', S'), m'))) : i = i' ∧ L = L' ∧ S = S' ∧ m = m' := by
  simp only [j_ok, Option.some.injEq, Sum.inl.injEq, Prod.mk.injEq] at h
  exact ⟨h.1.1, h.1.2.1, h.1.2.2, h.2⟩
theorem j_callE {a b i i' : Nat} {L L' S S' : List Value} {m m' : jM} (h : j_call a b i L S m = some (.inl ((i', L', S'), m'))) : False := by
  unfold j_call at h
  split at h <;> cases h
section J13
variable {p : Program} {l : Launch} {e : Env} {R : Room} {s : State} {m : MethodId} {args : Array Value} {below : List Frame} {meth : Method} {c : Code} {Q : State → Prop}
variable {D : va_G} {γ : Nat → ClassId} {b base nL c0 s0 : Nat} {X : List Int32} {o : Nat} {cc : ByteArray} {mm mm' : jM} {L S L' S' : List Value}
variable {cd : List jI} {sw : List Nat} {hs : List (Nat × Nat × Nat × Nat × Nat)} {ini : Bool} {ret : Option FieldType} {i i' cp op pc a bb cx : Nat}
theorem j_offs {x y : Nat} : (x : Int) + ((y : Int) - (x : Int)) = (y : Int) := by omega
theorem j_flE {o cp a k : Nat} (h : ((j_fl o).elem (cp, a, k, false) || (j_fl o).elem (cp, a, k, true)) = true) : Cond.fieldLink (j_own o) cp (j_T a k).1 (j_T a k).2.1 (j_T a k).2.2.1 ∈ lw_tbl ∨ Cond.fieldLinkNest (j_own o) cp (j_T a k).1 (j_T a k).2.1 (j_T a k).2.2.1 "NotebookWeir" ∈ lw_tbl := by
  rcases Bool.or_eq_true _ _ |>.mp h with h | h
  · exact Or.inl (j_fl_ok o _ (List.elem_iff.mp h))
  · exact Or.inr (j_fl_ok o _ (List.elem_iff.mp h))
set_option maxHeartbeats 4000000 in
theorem j_step_ok (C0 : j_C p l R s m meth c D γ b base X (j_own o) cc nL) (hcd : cd[i]? = some (op, pc, a, bb, cx)) (hchk : j_chk o cc cd sw hs ini ret i cp = true) (hini : ini = true → meth.name = "<init>")
    (hdo : j_do sw X op a bb cx i L S mm = some (.inl ((i', L', S'), mm'))) (hR1 : mm'.1 ≤ c0 + R.cells) (hR2 : mm'.2.1 ≤ s0 + R.slots)
    (k : j_G p l e R s m args below meth c Q D γ b base nL c0 s0 mm' (j_pc cd i') L' S') : j_G p l e R s m args below meth c Q D γ b base nL c0 s0 mm pc L S := by
  simp only [j_chk, hcd] at hchk
  clear hcd
  revert hchk hdo
  match op with
  | 0 =>
    intro hdo hc2
    try dsimp only at hc2
    obtain ⟨rfl, rfl, rfl, rfl⟩ := j_okE hdo
    match cx, hc2 with
    | 0, hc2 =>
      simp only [Bool.and_eq_true, j_dc, decide_eq_true_eq, beq_iff_eq] at hc2
      exact jo_iconst C0 hc2.1 (Int32.ofInt_toInt _) (by rw [← hc2.2]; exact k)
    | 1, hc2 =>
      simp only [Bool.and_eq_true, j_dc, decide_eq_true_eq, beq_iff_eq] at hc2
      exact jo_bipush C0 hc2.1.1 hc2.1.2 (by rw [← hc2.2]; exact k)
    | 2, hc2 =>
      simp only [Bool.and_eq_true, j_dc, decide_eq_true_eq, beq_iff_eq] at hc2
      exact jo_sipush C0 hc2.1.1 hc2.1.2 (by rw [← hc2.2]; exact k)
    | 3, hc2 =>
      simp only [Bool.and_eq_true, j_dc, decide_eq_true_eq, beq_iff_eq] at hc2
      exact jo_ldc C0 hc2.1.1 (j_cst_ok o _ (List.elem_iff.mp hc2.1.2)) (by rw [← hc2.2]; exact k)
    | z + 4, hc2 =>
      simp only [Bool.and_eq_true, j_dc, decide_eq_true_eq, beq_iff_eq] at hc2
      exact jo_ldcw C0 hc2.1.1 (j_cst_ok o _ (List.elem_iff.mp hc2.1.2)) (by rw [← hc2.2]; exact k)
  | 1 =>
    intro hdo hc2
    try dsimp only at hc2
    simp only [j_do] at hdo
    split at hdo
    · rename_i x hx
      obtain ⟨rfl, rfl, rfl, rfl⟩ := j_okE hdo
      by_cases hcx : cx = 0
      · simp only [hcx, if_true, Bool.and_eq_true, j_dc, decide_eq_true_eq, beq_iff_eq] at hc2
        exact jo_iload C0 (Or.inl ⟨hc2.1.1, hc2.1.2, rfl⟩) hx (by rw [← hc2.2]; exact k)
      · simp only [hcx, if_false, Bool.and_eq_true, j_dc, decide_eq_true_eq, beq_iff_eq] at hc2
        exact jo_iload C0 (Or.inr ⟨hc2.1, rfl⟩) hx (by rw [← hc2.2]; exact k)
    · cases hdo
  | 2 =>
    intro hdo hc2
    try dsimp only at hc2
    simp only [j_do] at hdo
    split at hdo
    · rename_i x hx
      obtain ⟨rfl, rfl, rfl, rfl⟩ := j_okE hdo
      by_cases hcx : cx = 0
      · simp only [hcx, if_true, Bool.and_eq_true, j_dc, decide_eq_true_eq, beq_iff_eq] at hc2
        exact jo_aload C0 (Or.inl ⟨hc2.1.1, hc2.1.2, rfl⟩) hx (Or.inr ⟨_, rfl⟩) (by rw [← hc2.2]; exact k)
      · simp only [hcx, if_false, Bool.and_eq_true, j_dc, decide_eq_true_eq, beq_iff_eq] at hc2
        exact jo_aload C0 (Or.inr ⟨hc2.1, rfl⟩) hx (Or.inr ⟨_, rfl⟩) (by rw [← hc2.2]; exact k)
    · rename_i hx
      obtain ⟨rfl, rfl, rfl, rfl⟩ := j_okE hdo
      by_cases hcx : cx = 0
      · simp only [hcx, if_true, Bool.and_eq_true, j_dc, decide_eq_true_eq, beq_iff_eq] at hc2
        exact jo_aload C0 (Or.inl ⟨hc2.1.1, hc2.1.2, rfl⟩) hx (Or.inl rfl) (by rw [← hc2.2]; exact k)
      · simp only [hcx, if_false, Bool.and_eq_true, j_dc, decide_eq_true_eq, beq_iff_eq] at hc2
        exact jo_aload C0 (Or.inr ⟨hc2.1, rfl⟩) hx (Or.inl rfl) (by rw [← hc2.2]; exact k)
    · cases hdo
  | 3 =>
    intro hdo hc2
    try dsimp only at hc2
    simp only [j_do] at hdo
    split at hdo
    · split at hdo
      · rename_i ha
        obtain ⟨rfl, rfl, rfl, rfl⟩ := j_okE hdo
        by_cases hcx : cx = 0
        · simp only [hcx, if_true, Bool.and_eq_true, j_dc, decide_eq_true_eq, beq_iff_eq] at hc2
          exact jo_istore C0 (Or.inl ⟨hc2.1.1, hc2.1.2, rfl⟩) ha (by rw [← hc2.2]; exact k)
        · simp only [hcx, if_false, Bool.and_eq_true, j_dc, decide_eq_true_eq, beq_iff_eq] at hc2
          exact jo_istore C0 (Or.inr ⟨hc2.1, rfl⟩) ha (by rw [← hc2.2]; exact k)
      · cases hdo
    · cases hdo
  | 4 =>
    intro hdo hc2
    try dsimp only at hc2
    simp only [j_do] at hdo
    split at hdo
    · split at hdo
      · rename_i ha
        obtain ⟨rfl, rfl, rfl, rfl⟩ := j_okE hdo
        by_cases hcx : cx = 0
        · simp only [hcx, if_true, Bool.and_eq_true, j_dc, decide_eq_true_eq, beq_iff_eq] at hc2
          exact jo_astore C0 (Or.inr ⟨_, rfl⟩) (Or.inl ⟨hc2.1.1, hc2.1.2, rfl⟩) ha (by rw [← hc2.2]; exact k)
        · simp only [hcx, if_false, Bool.and_eq_true, j_dc, decide_eq_true_eq, beq_iff_eq] at hc2
          exact jo_astore C0 (Or.inr ⟨_, rfl⟩) (Or.inr ⟨hc2.1, rfl⟩) ha (by rw [← hc2.2]; exact k)
      · cases hdo
    · split at hdo
      · rename_i ha
        obtain ⟨rfl, rfl, rfl, rfl⟩ := j_okE hdo
        by_cases hcx : cx = 0
        · simp only [hcx, if_true, Bool.and_eq_true, j_dc, decide_eq_true_eq, beq_iff_eq] at hc2
          exact jo_astore C0 (Or.inl rfl) (Or.inl ⟨hc2.1.1, hc2.1.2, rfl⟩) ha (by rw [← hc2.2]; exact k)
        · simp only [hcx, if_false, Bool.and_eq_true, j_dc, decide_eq_true_eq, beq_iff_eq] at hc2
          exact jo_astore C0 (Or.inl rfl) (Or.inr ⟨hc2.1, rfl⟩) ha (by rw [← hc2.2]; exact k)
      · cases hdo
    · cases hdo
  | 5 =>
    intro hdo hc2
    try dsimp only at hc2
    simp only [j_do] at hdo
    split at hdo
    · rename_i x hx
      obtain ⟨rfl, rfl, rfl, rfl⟩ := j_okE hdo
      simp only [Bool.and_eq_true, j_dc, decide_eq_true_eq, beq_iff_eq] at hc2
      exact jo_iinc C0 hc2.1 hx (by rw [Int32.ofInt_toInt]) (by rw [← hc2.2]; exact k)
    · cases hdo
  | 6 =>
    intro hdo hc2
    try dsimp only at hc2
    simp only [j_do] at hdo
    split at hdo
    · split at hdo
      · rename_i z hz
        obtain ⟨rfl, rfl, rfl, rfl⟩ := j_okE hdo
        simp only [Bool.and_eq_true, j_dc, decide_eq_true_eq, beq_iff_eq] at hc2
        exact jo_bin C0 hc2.1 hz (by rw [← hc2.2]; exact k)
      · cases hdo
    · cases hdo
  | 7 =>
    intro hdo hc2
    try dsimp only at hc2
    simp only [j_do] at hdo
    split at hdo
    · obtain ⟨rfl, rfl, rfl, rfl⟩ := j_okE hdo
      by_cases ha : a = 0
      · subst ha
        simp only [Bool.and_eq_true, j_dc, decide_eq_true_eq, beq_iff_eq, if_true] at hc2
        exact jo_ineg C0 hc2.1 (by rw [← hc2.2]; simpa using k)
      · simp only [Bool.and_eq_true, j_dc, decide_eq_true_eq, beq_iff_eq, if_neg ha] at hc2
        exact jo_i2c C0 hc2.1 (by rw [← hc2.2]; simpa [ha] using k)
    · cases hdo
  | 8 =>
    intro hdo hc2
    try dsimp only at hc2
    simp only [j_do] at hdo
    split at hdo
    · obtain ⟨rfl, rfl, rfl, rfl⟩ := j_okE hdo
      simp only [Bool.and_eq_true, j_dc, decide_eq_true_eq, beq_iff_eq] at hc2
      refine jo_if C0 hc2.1 j_offs (fun h => ?_) (fun h => ?_)
      · rw [if_pos h] at k; exact k
      · rw [if_neg (by rw [h]; decide)] at k; rw [← hc2.2]; exact k
    · cases hdo
  | 9 =>
    intro hdo hc2
    try dsimp only at hc2
    simp only [j_do] at hdo
    split at hdo
    · obtain ⟨rfl, rfl, rfl, rfl⟩ := j_okE hdo
      simp only [Bool.and_eq_true, j_dc, decide_eq_true_eq, beq_iff_eq] at hc2
      refine jo_icmp C0 hc2.1 j_offs (fun h => ?_) (fun h => ?_)
      · rw [if_pos h] at k; exact k
      · rw [if_neg (by rw [h]; decide)] at k; rw [← hc2.2]; exact k
    · cases hdo
  | 10 =>
    intro hdo hc2
    try dsimp only at hc2
    obtain ⟨rfl, rfl, rfl, rfl⟩ := j_okE hdo
    simp only [j_dc, decide_eq_true_eq] at hc2
    exact jo_goto C0 hc2 j_offs k
  | 11 =>
    intro hdo hc2
    try dsimp only at hc2
    simp only [j_do] at hdo
    simp only [Bool.and_eq_true, j_dc, decide_eq_true_eq, beq_iff_eq] at hc2
    split at hdo
    · obtain ⟨rfl, rfl, rfl, rfl⟩ := j_okE hdo
      exact jo_ifnull C0 hc2.1 j_offs (Or.inl rfl) (fun _ => k) (fun h => absurd rfl h)
    · obtain ⟨rfl, rfl, rfl, rfl⟩ := j_okE hdo
      exact jo_ifnull C0 hc2.1 j_offs (Or.inr ⟨_, rfl⟩) (fun h => by cases h) (fun _ => by rw [← hc2.2]; exact k)
    · cases hdo
  | 12 =>
    intro hdo hc2
    try dsimp only at hc2
    simp only [j_do] at hdo
    simp only [Bool.and_eq_true, j_dc, decide_eq_true_eq, beq_iff_eq] at hc2
    split at hdo
    · obtain ⟨rfl, rfl, rfl, rfl⟩ := j_okE hdo
      exact jo_ifnonnull C0 hc2.1 j_offs (Or.inl rfl) (fun h => absurd rfl h) (fun _ => by rw [← hc2.2]; exact k)
    · obtain ⟨rfl, rfl, rfl, rfl⟩ := j_okE hdo
      exact jo_ifnonnull C0 hc2.1 j_offs (Or.inr ⟨_, rfl⟩) (fun _ => k) (fun h => by cases h)
    · cases hdo
  | 13 =>
    intro hdo hc2
    try dsimp only at hc2
    simp only [j_do] at hdo
    simp only [Bool.and_eq_true, j_dc, decide_eq_true_eq, beq_iff_eq] at hc2
    split at hdo
    · split at hdo
      · rename_i hv
        obtain ⟨rfl, rfl, rfl, rfl⟩ := j_okE hdo
        exact jo_dup C0 hc2.1 hv (by rw [← hc2.2]; exact k)
      · cases hdo
    · cases hdo
  | 14 =>
    intro hdo hc2
    try dsimp only at hc2
    simp only [j_do] at hdo
    simp only [Bool.and_eq_true, j_dc, decide_eq_true_eq, beq_iff_eq] at hc2
    split at hdo
    · split at hdo
      · rename_i hv
        obtain ⟨rfl, rfl, rfl, rfl⟩ := j_okE hdo
        exact jo_pop C0 hc2.1 hv (by rw [← hc2.2]; exact k)
      · cases hdo
    · cases hdo
  | 15 =>
    intro hdo hc2
    try dsimp only at hc2
    simp only [j_do] at hdo
    simp only [Bool.and_eq_true, j_dc, decide_eq_true_eq, beq_iff_eq] at hc2
    split at hdo
    · split at hdo
      · rename_i hv
        obtain ⟨rfl, rfl, rfl, rfl⟩ := j_okE hdo
        exact jo_dup2 C0 hc2.1 hv.1 hv.2 (by rw [← hc2.2]; exact k)
      · cases hdo
    · cases hdo
  | 16 =>
    intro hdo hc2
    try dsimp only at hc2
    simp only [j_do] at hdo
    simp only [Bool.and_eq_true, j_dc, decide_eq_true_eq, beq_iff_eq] at hc2
    obtain ⟨⟨⟨⟨h1, h2⟩, h3⟩, h4⟩, h5⟩ := hc2
    split at hdo
    · split at hdo
      · rename_i t fs hm
        split at hdo
        · rename_i ht
          subst ht
          split at hdo
          · rename_i v hv
            obtain ⟨rfl, rfl, rfl, rfl⟩ := j_okE hdo
            exact jo_get C0 h3 h4 h1 (j_flE h5) hm hv (by rw [← h2]; exact k)
          · cases hdo
        · cases hdo
      · cases hdo
    · cases hdo
  | 17 =>
    intro hdo hc2
    try dsimp only at hc2
    simp only [j_do] at hdo
    simp only [Bool.and_eq_true, j_dc, decide_eq_true_eq, beq_iff_eq, Bool.not_eq_true'] at hc2
    obtain ⟨⟨⟨⟨⟨h1, h2⟩, h3⟩, h4⟩, h5⟩, h6⟩ := hc2
    split at hdo
    · split at hdo
      · rename_i t fs hm
        split at hdo
        · rename_i ht
          obtain ⟨ht, hl, hf⟩ := ht
          subst ht
          obtain ⟨rfl, rfl, rfl, rfl⟩ := j_okE hdo
          exact jo_put C0 h3 h4 h1 (j_flE h5) h6 hm hl hf (by rw [← h2]; exact k)
        · cases hdo
      · cases hdo
    · cases hdo
  | 18 =>
    intro hdo hc2
    try dsimp only at hc2
    simp only [j_do] at hdo
    simp only [Bool.and_eq_true, j_dc, decide_eq_true_eq, beq_iff_eq] at hc2
    obtain ⟨⟨⟨⟨⟨⟨⟨⟨h1, h2⟩, h3⟩, h4⟩, h5⟩, h6⟩, h7⟩, h8⟩, h9⟩ := hc2
    split at hdo
    · split at hdo
      · rename_i t fs hm
        split at hdo
        · rename_i ht
          obtain ⟨ht, hl, hf⟩ := ht
          subst ht
          obtain ⟨rfl, rfl, rfl, rfl⟩ := j_okE hdo
          exact jo_putF C0 h3 h4 h1 (j_fl_ok o _ (List.elem_iff.mp h5)) h6 (hini h7) h9 hm hl hf (by rw [← h2]; exact k)
        · cases hdo
      · cases hdo
    · cases hdo
  | 19 =>
    intro hdo hc2
    try dsimp only at hc2
    simp only [j_do] at hdo
    simp only [Bool.and_eq_true, j_dc, decide_eq_true_eq, beq_iff_eq] at hc2
    obtain ⟨⟨⟨h1, h2⟩, h3⟩, h4⟩ := hc2
    split at hdo
    · rename_i hx
      obtain ⟨rfl, rfl, rfl, rfl⟩ := j_okE hdo
      exact jo_new C0 h3 h1 (j_clk_ok o _ (List.elem_iff.mp h4)) hx hR1 hR2 (by rw [← h2]; exact k)
    · cases hdo
  | 20 =>
    intro hdo hc2
    try dsimp only at hc2
    simp only [j_do] at hdo
    simp only [Bool.and_eq_true, j_dc, decide_eq_true_eq, beq_iff_eq] at hc2
    obtain ⟨⟨h1, h2⟩, h3⟩ := hc2
    split at hdo
    · split at hdo
      · cases hdo
      · rename_i hn
        split at hdo
        · rename_i hx
          obtain ⟨rfl, rfl, rfl, rfl⟩ := j_okE hdo
          exact jo_newa C0 h3 h1 hn hx hR1 hR2 (by rw [← h2]; exact k)
        · cases hdo
    · cases hdo
  | 21 =>
    intro hdo hc2
    try dsimp only at hc2
    simp only [j_do] at hdo
    simp only [Bool.and_eq_true, j_dc, decide_eq_true_eq, beq_iff_eq] at hc2
    obtain ⟨⟨⟨h1, h2⟩, h3⟩, h4⟩ := hc2
    split at hdo
    · split at hdo
      · cases hdo
      · rename_i hn
        split at hdo
        · rename_i hx
          obtain ⟨rfl, rfl, rfl, rfl⟩ := j_okE hdo
          have h5 : Cond.classLink (j_own o) cp (j_an a) ∈ lw_tbl := by
            have := j_clk_ok o _ (List.elem_iff.mp h4)
            rcases h3 with rfl | rfl | rfl <;> exact this
          exact jo_anew C0 h3 h1 h5 hn hx hR1 hR2 (by rw [← h2]; exact k)
        · cases hdo
    · cases hdo
  | 22 =>
    intro hdo hc2
    try dsimp only at hc2
    simp only [j_do] at hdo
    simp only [Bool.and_eq_true, j_dc, decide_eq_true_eq, beq_iff_eq] at hc2
    obtain ⟨⟨h1, h2⟩, h3⟩ := hc2
    split at hdo
    · split at hdo
      · rename_i t vs hm
        split at hdo
        · rename_i ht
          subst ht
          split at hdo
          · cases hdo
          · rename_i hj
            obtain ⟨rfl, rfl, rfl, rfl⟩ := j_okE hdo
            exact jo_ald C0 h3 h1 hm hj (by rw [← h2]; exact k)
        · cases hdo
      · cases hdo
    · cases hdo
  | 23 =>
    intro hdo hc2
    try dsimp only at hc2
    simp only [j_do] at hdo
    simp only [Bool.and_eq_true, j_dc, decide_eq_true_eq, beq_iff_eq] at hc2
    obtain ⟨⟨h1, h2⟩, h3⟩ := hc2
    split at hdo
    · split at hdo
      · rename_i t vs hm
        split at hdo
        · rename_i ht
          subst ht
          split at hdo
          · cases hdo
          · rename_i hj
            obtain ⟨rfl, rfl, rfl, rfl⟩ := j_okE hdo
            exact jo_ast C0 h3 h1 hm hj (by rw [← h2]; exact k)
        · cases hdo
      · cases hdo
    · cases hdo
  | 24 =>
    intro hdo hc2
    try dsimp only at hc2
    simp only [j_do] at hdo
    simp only [Bool.and_eq_true, j_dc, decide_eq_true_eq, beq_iff_eq] at hc2
    obtain ⟨⟨h1, h2⟩, h3⟩ := hc2
    split at hdo
    · split at hdo
      · rename_i t vs hm
        split at hdo
        · rename_i ht
          subst ht
          split at hdo
          · cases hdo
          · rename_i hj
            split at hdo
            · rename_i x hx
              obtain ⟨rfl, rfl, rfl, rfl⟩ := j_okE hdo
              exact jo_aald C0 h3 h1 hm hj hx (Or.inr ⟨_, rfl⟩) (by rw [← h2]; exact k)
            · rename_i hx
              obtain ⟨rfl, rfl, rfl, rfl⟩ := j_okE hdo
              exact jo_aald C0 h3 h1 hm hj hx (Or.inl rfl) (by rw [← h2]; exact k)
            · cases hdo
        · cases hdo
      · cases hdo
    · cases hdo
  | 25 =>
    intro hdo hc2
    try dsimp only at hc2
    simp only [j_do] at hdo
    simp only [Bool.and_eq_true, j_dc, decide_eq_true_eq, beq_iff_eq] at hc2
    obtain ⟨⟨h1, h2⟩, h3⟩ := hc2
    split at hdo
    · split at hdo
      · rename_i t vs u us hm hz
        split at hdo
        · rename_i ht
          obtain ⟨ht, hu⟩ := ht
          subst ht; subst hu
          split at hdo
          · cases hdo
          · rename_i hj
            obtain ⟨rfl, rfl, rfl, rfl⟩ := j_okE hdo
            exact jo_aast C0 h3 h1 hm hz hj (by rw [← h2]; exact k)
        · cases hdo
      · cases hdo
    · cases hdo
  | 26 =>
    intro hdo hc2
    try dsimp only at hc2
    simp only [j_do] at hdo
    simp only [Bool.and_eq_true, j_dc, decide_eq_true_eq, beq_iff_eq] at hc2
    split at hdo
    · obtain ⟨rfl, rfl, rfl, rfl⟩ := j_okE hdo
      exact jo_slen C0 hc2.1 (by rw [← hc2.2]; exact k)
    · cases hdo
  | 27 => intro hdo hc2; simp only [j_do] at hdo; split at hdo <;> first | cases hdo; done | exact (j_callE (i := i) (L := L) hdo).elim
  | 28 => intro hdo hc2; simp only [j_do] at hdo; split at hdo <;> first | cases hdo; done | exact (j_callE (i := i) (L := L) hdo).elim
  | 29 => intro hdo hc2; exact (j_callE (i := i) (L := L) hdo).elim
  | 30 => intro hdo hc2; exact (j_callE (i := i) (L := L) hdo).elim
  | 31 => intro hdo hc2; simp only [j_do] at hdo; split at hdo <;> first | cases hdo; done | exact (j_callE (i := i) (L := L) hdo).elim
  | 32 => intro hdo hc2; simp only [j_do] at hdo; split at hdo <;> first | cases hdo; done | exact (j_callE (i := i) (L := L) hdo).elim
  | 33 => intro hdo hc2; simp only [j_do] at hdo; split at hdo <;> cases hdo
  | 34 => intro hdo hc2; simp only [j_do] at hdo; split at hdo <;> first | cases hdo; done | (split at hdo <;> cases hdo)
  | 35 => intro hdo hc2; simp only [j_do] at hdo; split at hdo <;> cases hdo
  | 36 => intro hdo hc2; simp only [j_do] at hdo; split at hdo <;> cases hdo
  | 37 =>
    intro hdo hc2
    try dsimp only at hc2
    simp only [j_do] at hdo
    simp only [j_swok] at hc2
    split at hc2
    · rename_i d hi offs len hdg
      simp only [Bool.and_eq_true, decide_eq_true_eq] at hc2
      obtain ⟨⟨h1, h2⟩, h3⟩ := hc2
      have hsz : offs.size = sw.length := by rw [← Array.length_toList, h3, List.length_map]
      split at hdo
      · rename_i x S2
        refine jo_sw C0 hdg h1 (fun hx t ht => ?_) (fun hx off ho => ?_) ⟨_, h2⟩
        · have ht' : t = j_pc cd bb := by omega
          subst ht'
          split at hdo
          · obtain ⟨rfl, rfl, rfl, rfl⟩ := j_okE hdo; exact k
          · rename_i hx0
            have hge : sw.length ≤ x.toNatClampNeg := by rcases hx with h | h; exact absurd h hx0; rw [← hsz]; exact h
            rw [List.getD_eq_getElem?_getD, List.getElem?_eq_none hge] at hdo
            obtain ⟨rfl, rfl, rfl, rfl⟩ := j_okE hdo; exact k
        · rw [if_neg hx] at hdo
          have ho2 : (sw.map (fun t => (j_pc cd t : Int) - (pc : Int)))[x.toNatClampNeg]? = some off := by rw [← h3, Array.getElem?_toList]; exact ho
          rw [List.getElem?_map, Option.map_eq_some_iff] at ho2
          obtain ⟨t, ht1, ht2⟩ := ho2
          rw [List.getD_eq_getElem?_getD, ht1] at hdo
          obtain ⟨rfl, rfl, rfl, rfl⟩ := j_okE hdo
          exact ⟨j_pc cd t, by rw [← ht2]; omega, k⟩
      · cases hdo
    · cases hc2
  | 38 =>
    intro hdo hc2
    try dsimp only at hc2
    obtain ⟨rfl, rfl, rfl, rfl⟩ := j_okE hdo
    simp only [Bool.and_eq_true, j_dc, decide_eq_true_eq, beq_iff_eq] at hc2
    obtain ⟨⟨h1, h2⟩, h3⟩ := hc2
    exact jo_lconst C0 h1 (v := Int64.ofNat a) (by simp [Fin.ofNat, Nat.mod_eq_of_lt h2]) (by rw [← h3]; exact k)
  | 39 =>
    intro hdo hc2
    try dsimp only at hc2
    simp only [j_do] at hdo
    simp only [Bool.and_eq_true, j_dc, decide_eq_true_eq, beq_iff_eq] at hc2
    split at hdo
    · obtain ⟨rfl, rfl, rfl, rfl⟩ := j_okE hdo
      exact jo_i2l C0 hc2.1 (by rw [← hc2.2]; exact k)
    · cases hdo
  | 40 =>
    intro hdo hc2
    try dsimp only at hc2
    simp only [j_do] at hdo
    simp only [Bool.and_eq_true, j_dc, decide_eq_true_eq, beq_iff_eq] at hc2
    split at hdo
    · split at hdo
      · rename_i t vs hm
        split at hdo
        · rename_i ht
          subst ht
          split at hdo
          · cases hdo
          · rename_i hj
            obtain ⟨rfl, rfl, rfl, rfl⟩ := j_okE hdo
            exact jo_lald C0 hc2.1 hm hj (by rw [← hc2.2]; exact k)
        · cases hdo
      · cases hdo
    · cases hdo
  | 41 =>
    intro hdo hc2
    try dsimp only at hc2
    simp only [j_do] at hdo
    simp only [Bool.and_eq_true, j_dc, decide_eq_true_eq, beq_iff_eq] at hc2
    split at hdo
    · split at hdo
      · rename_i t vs hm
        split at hdo
        · rename_i ht
          subst ht
          split at hdo
          · cases hdo
          · rename_i hj
            obtain ⟨rfl, rfl, rfl, rfl⟩ := j_okE hdo
            exact jo_last C0 hc2.1 hm hj (by rw [← hc2.2]; exact k)
        · cases hdo
      · cases hdo
    · cases hdo
  | 42 =>
    intro hdo hc2
    try dsimp only at hc2
    simp only [j_do] at hdo
    simp only [Bool.and_eq_true, j_dc, decide_eq_true_eq, beq_iff_eq] at hc2
    split at hdo
    · obtain ⟨rfl, rfl, rfl, rfl⟩ := j_okE hdo
      exact jo_lcmp C0 hc2.1 (by rw [← hc2.2]; exact k)
    · cases hdo
  | 43 =>
    intro hdo hc2
    try dsimp only at hc2
    obtain ⟨rfl, rfl, rfl, rfl⟩ := j_okE hdo
    simp only [Bool.and_eq_true, j_dc, decide_eq_true_eq, beq_iff_eq] at hc2
    exact jo_null C0 hc2.1 (by rw [← hc2.2]; exact k)
  | 44 =>
    intro hdo hc2
    try dsimp only at hc2
    simp only [j_do] at hdo
    simp only [Bool.and_eq_true, j_dc, decide_eq_true_eq, beq_iff_eq] at hc2
    obtain ⟨⟨h1, h2⟩, h3⟩ := hc2
    split at hdo
    · split at hdo
      · cases hdo
      · rename_i hS
        obtain ⟨rfl, rfl, rfl, rfl⟩ := j_okE hdo
        exact jo_obj C0 h1 (j_ol_ok o _ (List.elem_iff.mp h3)) hS (by rw [← h2]; exact k)
    · cases hdo
  | 45 =>
    intro hdo hc2
    try dsimp only at hc2
    simp only [j_do] at hdo
    simp only [Bool.and_eq_true, j_dc, decide_eq_true_eq, beq_iff_eq] at hc2
    obtain ⟨⟨h1, h2⟩, h3⟩ := hc2
    split at hdo
    · split at hdo
      · cases hdo
      · rename_i hS
        obtain ⟨rfl, rfl, rfl, rfl⟩ := j_okE hdo
        exact jo_max C0 h1 (j_ol_ok o _ (List.elem_iff.mp h3)) hS hR1 hR2 (by rw [← h2]; exact k)
    · cases hdo
  | 46 =>
    intro hdo hc2
    try dsimp only at hc2
    simp only [j_do] at hdo
    simp only [Bool.and_eq_true, j_dc, decide_eq_true_eq, beq_iff_eq] at hc2
    obtain ⟨⟨h1, h2⟩, h3⟩ := hc2
    split at hdo
    · split at hdo
      · cases hdo
      · rename_i hS
        obtain ⟨rfl, rfl, rfl, rfl⟩ := j_okE hdo
        exact jo_min C0 h1 (j_ol_ok o _ (List.elem_iff.mp h3)) hS hR1 hR2 (by rw [← h2]; exact k)
    · cases hdo
  | 47 =>
    intro hdo hc2
    try dsimp only at hc2
    simp only [j_do] at hdo
    simp only [Bool.and_eq_true, j_dc, decide_eq_true_eq, beq_iff_eq] at hc2
    obtain ⟨⟨h1, h2⟩, h3⟩ := hc2
    split at hdo
    · split at hdo
      · rename_i t vs u us hq hz
        split at hdo
        · rename_i hh
          obtain ⟨rfl, rfl, g1, g2, g3, g4, g5, g6⟩ := hh
          obtain ⟨rfl, rfl, rfl, rfl⟩ := j_okE hdo
          exact jo_acopy C0 h1 (j_ol_ok o _ (List.elem_iff.mp h3)) hq hz g1 g2 g3 g4 g5 g6 (by rw [← h2]; exact k)
        · cases hdo
      · cases hdo
    · cases hdo
  | 48 =>
    intro hdo hc2
    try dsimp only at hc2
    simp only [j_do] at hdo
    simp only [Bool.and_eq_true, j_dc, decide_eq_true_eq, beq_iff_eq] at hc2
    split at hdo
    · split at hdo
      · cases hdo
      · rename_i hj
        obtain ⟨rfl, rfl, rfl, rfl⟩ := j_okE hdo
        exact jo_sld C0 hc2.1 hj (by rw [← hc2.2]; exact k)
    · cases hdo
  | 49 => intro hdo hc2; exact (j_callE (i := i) (L := L) hdo).elim
  | z + 50 => intro hdo hc2; cases hdo
end J13
