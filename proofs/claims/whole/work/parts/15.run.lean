/-! ===== A WHOLE RUN ===== -/
theorem j_do_mono {sw : List Nat} {X : List Int32} {op a b c i : Nat} {L S : List Value} {m m' : jM} {f' : jF} (h : j_do sw X op a b c i L S m = some (.inl (f', m'))) : m.1 ≤ m'.1 ∧ m.2.1 ≤ m'.2.1 := by
  unfold j_do at h
  split at h
  all_goals (repeat' split at h)
  all_goals first
    | (cases h; done)
    | (simp only [j_ok, Option.some.injEq, Sum.inl.injEq, Prod.mk.injEq] at h; obtain ⟨-, h2⟩ := h; rw [← h2]; exact ⟨Nat.le_refl _, Nat.le_refl _⟩)
    | (simp only [j_ok, Option.some.injEq, Sum.inl.injEq, Prod.mk.injEq] at h; obtain ⟨-, h2⟩ := h; rw [← h2]; simp only [j_up, j_push]; exact ⟨by omega, by omega⟩)
    | (unfold j_call at h; split at h <;> cases h)
theorem j_do_call {sw : List Nat} {X : List Int32} {op a b c i k : Nat} {L S as rest : List Value} {m m' : jM} (h : j_do sw X op a b c i L S m = some (.inr (.inl (k, as, rest, m')))) :
    ((op = 29 ∨ op = 30 ∨ op = 49) ∨ ((op = 27 ∨ op = 28 ∨ op = 31 ∨ op = 32) ∧ j_recv m c (S.take b).reverse = true)) ∧ k = a ∧ m' = m ∧ b ≤ S.length ∧ as = (S.take b).reverse ∧ rest = S.drop b ∧ ((S.drop b).map fun v => v.category).sum ≤ 8 ∧ ∀ v ∈ S.take b, v.category = 1 := by
  have key : j_call a b i L S m = some (.inr (.inl (k, as, rest, m'))) → k = a ∧ m' = m ∧ b ≤ S.length ∧ as = (S.take b).reverse ∧ rest = S.drop b ∧ ((S.drop b).map fun v => v.category).sum ≤ 8 ∧ ∀ v ∈ S.take b, v.category = 1 := by
    intro h
    unfold j_call at h
    split at h
    · cases h
    · rename_i hn
      simp only [Option.some.injEq, Sum.inr.injEq, Sum.inl.injEq, Prod.mk.injEq] at h
      obtain ⟨rfl, rfl, rfl, rfl⟩ := h
      refine ⟨rfl, rfl, by omega, rfl, rfl, by omega, ?_⟩
      have hall : (S.take b).all (fun v => decide (v.category = 1)) = true := by
        cases hb : (S.take b).all (fun v => decide (v.category = 1)) with
        | true => rfl
        | false => exact absurd (Or.inr (Or.inr hb)) hn
      intro v hv
      exact of_decide_eq_true (List.all_eq_true.mp hall v hv)
  unfold j_do at h
  split at h
  all_goals first
    | (simp only [j_ok] at h; cases h; done)
    | (exact ⟨Or.inl (by omega), key h⟩)
    | (split at h
       · rename_i hr; exact ⟨Or.inr ⟨by omega, hr⟩, key h⟩
       · cases h)
    | (cases h; done)
    | (exfalso; (try simp only [j_ok] at h); (repeat' split at h) <;> cases h)
theorem j_do_end {sw : List Nat} {X : List Int32} {op a b c i : Nat} {L S : List Value} {m : jM} {o : jO} (h : j_do sw X op a b c i L S m = some (.inr (.inr o))) :
    (op = 33 ∧ S = [] ∧ o = (.inl none, m)) ∨ (op = 34 ∧ ∃ v, S = [.int v] ∧ (a = 0 ∨ v &&& 1 = v) ∧ o = (.inl (some (.int v)), m)) ∨ (op = 35 ∧ ∃ v, S = [v] ∧ (v = .null ∨ ∃ x, v = .ref x) ∧ o = (.inl (some v), m)) ∨ (op = 36 ∧ ¬ 40 < (S.map fun v => v.category).sum ∧ o = (.inr a, (m.1 + 1, m.2.1 + 6, false, m.2.2.2))) := by
  have key : ¬ j_call a b i L S m = some (.inr (.inr o)) := by
    intro h
    unfold j_call at h
    split at h <;> cases h
  unfold j_do at h
  split at h
  all_goals first
    | (simp only [j_ok] at h; cases h; done)
    | (exact (key h).elim)
    | (split at h
       · exact (key h).elim
       · cases h)
    | (cases h; done)
    | (exfalso; (try simp only [j_ok] at h); (repeat' split at h) <;> cases h; done)
    | skip
  · split at h
    · cases h; exact Or.inl ⟨rfl, rfl, rfl⟩
    · cases h
  · split at h
    · split at h
      · rename_i hv; cases h; exact Or.inr (Or.inl ⟨rfl, _, rfl, hv, rfl⟩)
      · cases h
    · cases h
  · split at h
    · cases h; exact Or.inr (Or.inr (Or.inl ⟨rfl, _, rfl, Or.inr ⟨_, rfl⟩, rfl⟩))
    · cases h; exact Or.inr (Or.inr (Or.inl ⟨rfl, _, rfl, Or.inl rfl, rfl⟩))
    · cases h
  · split at h
    · cases h
    · rename_i hv; cases h; exact Or.inr (Or.inr (Or.inr ⟨rfl, hv, rfl⟩))
theorem j_step_E {mt : jMt} {X : List Int32} {f : jF} {m : jM} {r : jR} (h : j_step mt X f m = some r) : ∃ op pc a b c, mt.1[f.1]? = some (op, pc, a, b, c) ∧ j_do mt.2.2.2 X op a b c f.1 f.2.1 f.2.2 m = some r := by
  unfold j_step at h
  split at h
  · cases h
  · rename_i op pc a b c hq
    exact ⟨op, pc, a, b, c, hq, h⟩
theorem j_go_mono {P : List jMt} {X : List Int32} : ∀ (n d k : Nat) (f : jF) (m : jM) (o : jO), j_go P X n d k f m = some o → m.1 ≤ o.2.1 ∧ m.2.1 ≤ o.2.2.1 := by
  intro n
  induction n with
  | zero => intro d k f m o h; cases h
  | succ n ih =>
    intro d k f m o h
    simp only [j_go] at h
    split at h
    · cases h
    · rename_i mt hmt
      split at h
      · cases h
      · rename_i f' m' hst
        obtain ⟨op, pc, a, b, c, -, hdo⟩ := j_step_E hst
        have h1 := j_do_mono hdo
        have h2 := ih _ _ _ _ _ h
        exact ⟨Nat.le_trans h1.1 h2.1, Nat.le_trans h1.2 h2.2⟩
      · rename_i o' hst
        cases h
        obtain ⟨op, pc, a, b, c, -, hdo⟩ := j_step_E hst
        rcases j_do_end hdo with ⟨-, -, rfl⟩ | ⟨-, v, -, -, rfl⟩ | ⟨-, v, -, -, rfl⟩ | ⟨-, -, rfl⟩
        · exact ⟨Nat.le_refl _, Nat.le_refl _⟩
        · exact ⟨Nat.le_refl _, Nat.le_refl _⟩
        · exact ⟨Nat.le_refl _, Nat.le_refl _⟩
        · exact ⟨Nat.le_succ _, Nat.le_add_right _ _⟩
      · rename_i k' args rest m' hst
        obtain ⟨op, pc, a, b, c, -, hdo⟩ := j_step_E hst
        obtain ⟨-, -, rfl, -⟩ := j_do_call hdo
        split at h
        · split at h
          · cases h
          · rename_i v m'' hc
            have h1 := ih _ _ _ _ _ hc
            have h2 := ih _ _ _ _ _ h
            exact ⟨Nat.le_trans h1.1 h2.1, Nat.le_trans h1.2 h2.2⟩
          · rename_i x m'' hc
            have h1 := ih _ _ _ _ _ hc
            split at h
            · cases h
            · have h2 := ih _ _ _ _ _ h
              exact ⟨Nat.le_trans h1.1 h2.1, Nat.le_trans h1.2 h2.2⟩
        · cases h
