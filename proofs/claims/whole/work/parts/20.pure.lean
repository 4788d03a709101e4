/-! ===== THE INTERPRETER ALONE: what follows is plain mathematics of j_go ===== -/
theorem j_go_up {P : List jMt} {X : List Int32} : ∀ (n d k : Nat) (f : jF) (m : jM) (o : jO), j_go P X n d k f m = some o → ∀ n' d' : Nat, n ≤ n' → d ≤ d' → j_go P X n' d' k f m = some o := by
  intro n
  induction n with
  | zero => intro d k f m o h; cases h
  | succ n ih =>
    intro d k f m o h n' d' hn hd
    obtain ⟨n1, rfl⟩ : ∃ n1, n' = n1 + 1 := ⟨n' - 1, by omega⟩
    simp only [j_go] at h ⊢
    split at h
    · cases h
    · rename_i mt hmt
      split at h
      · cases h
      · rename_i f' m' hst
        try rw [hst]
        exact ih _ _ _ _ _ h _ _ (by omega) hd
      · rename_i o' hst
        try rw [hst]
        exact h
      · rename_i k' as rest m' hst
        try rw [hst]
        split at h
        · rename_i d1 mt' hmt'
          obtain ⟨d2, rfl⟩ : ∃ d2, d' = d2 + 1 := ⟨d' - 1, by omega⟩
          simp only [hmt']
          split at h
          · cases h
          · rename_i v m'' hc
            rw [ih _ _ _ _ _ hc n1 d2 (by omega) (by omega)]
            exact ih _ _ _ _ _ h _ _ (by omega) (by omega)
          · rename_i x m'' hc
            rw [ih _ _ _ _ _ hc n1 d2 (by omega) (by omega)]
            dsimp only
            split at h
            · cases h
            · rename_i h2 z hh
              try rw [hh]
              exact ih _ _ _ _ _ h _ _ (by omega) (by omega)
        · cases h
def j_Go (X : List Int32) (d k : Nat) (f : jF) (m : jM) (o : jO) : Prop := ∃ n, j_go jP X n d k f m = some o
def j_Ev (X : List Int32) (d k : Nat) (as : List Value) (m : jM) (o : jO) : Prop := ∃ mt, jP[k]? = some mt ∧ j_Go X d k (0, j_ent mt.2.1 as, []) m o
section J20
variable {X : List Int32} {d d' k k' : Nat} {f f' : jF} {m m' m'' : jM} {o : jO} {mt : jMt} {as rest : List Value} {v : Option Value}
theorem g_step (hk : jP[k]? = some mt) (hs : j_step mt X f m = some (.inl (f', m'))) (h : j_Go X d k f' m' o) : j_Go X d k f m o := by
  obtain ⟨n, h⟩ := h
  exact ⟨n + 1, by simp only [j_go, hk, hs]; exact h⟩
theorem g_end (hk : jP[k]? = some mt) (hs : j_step mt X f m = some (.inr (.inr o))) : j_Go X d k f m o := ⟨1, by simp only [j_go, hk, hs]⟩
theorem g_up (h : j_Go X d k f m o) (hd : d ≤ d') : j_Go X d' k f m o := by
  obtain ⟨n, h⟩ := h
  exact ⟨n, j_go_up _ _ _ _ _ _ h _ _ (Nat.le_refl _) hd⟩
theorem e_up (h : j_Ev X d k as m o) (hd : d ≤ d') : j_Ev X d' k as m o := by
  obtain ⟨mt, h1, h2⟩ := h
  exact ⟨mt, h1, g_up h2 hd⟩
theorem g_call (hk : jP[k]? = some mt) (hs : j_step mt X f m = some (.inr (.inl (k', as, rest, m')))) (hc : j_Ev X d k' as m' (.inl v, m'')) (h : j_Go X (d + 1) k (f.1 + 1, f.2.1, j_ret v rest) m'' o) : j_Go X (d + 1) k f m o := by
  obtain ⟨mt', hk', n1, h1⟩ := hc
  obtain ⟨n2, h2⟩ := h
  refine ⟨n1 + n2 + 1, ?_⟩
  simp only [j_go, hk, hs, hk']
  rw [j_go_up _ _ _ _ _ _ h1 (n1 + n2) d (by omega) (Nat.le_refl _)]
  exact j_go_up _ _ _ _ _ _ h2 _ _ (by omega) (Nat.le_refl _)
theorem g_catch {x h2 z : Nat} (hk : jP[k]? = some mt) (hs : j_step mt X f m = some (.inr (.inl (k', as, rest, m')))) (hc : j_Ev X d k' as m' (.inr x, m'')) (hh : j_hand mt.2.2.1 f.1 x = some (h2, z)) (h : j_Go X (d + 1) k (h2, f.2.1.set z (.retAddr 0), []) m'' o) : j_Go X (d + 1) k f m o := by
  obtain ⟨mt', hk', n1, h1⟩ := hc
  obtain ⟨n2, h2⟩ := h
  refine ⟨n1 + n2 + 1, ?_⟩
  simp only [j_go, hk, hs, hk']
  rw [j_go_up _ _ _ _ _ _ h1 (n1 + n2) d (by omega) (Nat.le_refl _)]
  simp only [hh]
  exact j_go_up _ _ _ _ _ _ h2 _ _ (by omega) (Nat.le_refl _)
theorem e_of (hk : jP[k]? = some mt) (h : j_Go X d k (0, j_ent mt.2.1 as, []) m o) : j_Ev X d k as m o := ⟨mt, hk, h⟩
end J20
/-! the script matters to the law alone -/
def j_nox : Bool := (List.range jP.length).all (fun k => k == j_law || match jP[k]? with
  | none => true
  | some mt => mt.1.all (fun q => q.1 != 26 && q.1 != 48 && (!(q.1 == 27 || q.1 == 28 || q.1 == 29 || q.1 == 30 || q.1 == 31 || q.1 == 32 || q.1 == 49) || q.2.2.1 != j_law)))
set_option maxRecDepth 100000 in
theorem j_nox_ok : j_nox = true := by decide +kernel
theorem j_do_X {sw : List Nat} {X Y : List Int32} {op a b c i : Nat} {L S : List Value} {m : jM} (h1 : op ≠ 26) (h2 : op ≠ 48) : j_do sw X op a b c i L S m = j_do sw Y op a b c i L S m := by
  unfold j_do
  split <;> first | rfl | exact absurd rfl h1 | exact absurd rfl h2
theorem j_go_X {X Y : List Int32} : ∀ (n d k : Nat) (f : jF) (m : jM), k ≠ j_law → j_go jP X n d k f m = j_go jP Y n d k f m := by
  intro n
  induction n with
  | zero => intro d k f m _; rfl
  | succ n ih =>
    intro d k f m hk
    simp only [j_go]
    cases hmt : jP[k]? with
    | none => rfl
    | some mt =>
      dsimp only
      have hkl : k < jP.length := (List.getElem?_eq_some_iff.mp hmt).1
      have hall := List.all_eq_true.mp j_nox_ok k (List.mem_range.mpr hkl)
      rw [hmt] at hall
      have hk2 : (k == j_law) = false := by simpa using hk
      rw [hk2, Bool.false_or] at hall
      have hst : j_step mt X f m = j_step mt Y f m ∧ ∀ k' as rest m', j_step mt Y f m = some (.inr (.inl (k', as, rest, m'))) → k' ≠ j_law := by
        unfold j_step
        cases hq : mt.1[f.1]? with
        | none => exact ⟨rfl, fun _ _ _ _ h => by cases h⟩
        | some q =>
          obtain ⟨op, pc, a, b, c⟩ := q
          have := List.all_eq_true.mp hall _ (List.mem_of_getElem? hq)
          simp only [Bool.and_eq_true, bne_iff_ne, ne_eq, Bool.or_eq_true, Bool.not_eq_true', Bool.or_eq_false_iff, beq_eq_false_iff_ne] at this
          obtain ⟨⟨g1, g2⟩, g3⟩ := this
          refine ⟨j_do_X g1 g2, fun k' as rest m' h => ?_⟩
          obtain ⟨hop, rfl, -⟩ := j_do_call h
          rcases g3 with g3 | g3
          · rcases hop with hop | ⟨hop, -⟩ <;> omega
          · exact g3
      rw [hst.1]
      cases hs : j_step mt Y f m with
      | none => rfl
      | some r =>
        match r, hs with
        | .inl (f', m'), hs => exact ih _ _ _ _ hk
        | .inr (.inr o), hs => rfl
        | .inr (.inl (k', as, rest, m')), hs =>
          have hk' := hst.2 _ _ _ _ hs
          dsimp only
          cases d with
          | zero => rfl
          | succ d1 =>
            cases hmt' : jP[k']? with
            | none => rfl
            | some mt' =>
              dsimp only
              rw [ih d1 k' _ _ hk']
              cases hc : j_go jP Y n d1 k' (0, j_ent mt'.2.1 as, []) m' with
              | none => rfl
              | some o1 =>
                obtain ⟨r1, m1⟩ := o1
                cases r1 with
                | inl v => exact ih _ _ _ _ hk
                | inr x =>
                  dsimp only
                  cases hh : j_hand mt.2.2.1 f.1 x with
                  | none => rfl
                  | some q => exact ih _ _ _ _ hk
theorem e_closed {X : List Int32} {n d k : Nat} {as : List Value} {m : jM} {o : jO} {mt : jMt} (hk : k ≠ j_law) (hmt : jP[k]? = some mt) (h : j_go jP [] n d k (0, j_ent mt.2.1 as, []) m = some o) : j_Ev X d k as m o := ⟨mt, hmt, n, by rw [j_go_X n d k _ _ hk (Y := [])]; exact h⟩
