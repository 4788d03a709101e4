/-! ===== reading: the class's recursive descent is rR ===== -/
theorem bb_some {r : Option (Bool × RS)} {k : RS → Option (Bool × RS)} {b : Bool} {s' : RS} (h : bb r k = some (b, s')) : (∃ s1, r = some (true, s1) ∧ k s1 = some (b, s')) ∨ (b = false ∧ r = some (false, s')) := by
  unfold bb at h
  split at h
  · rename_i s1; exact Or.inl ⟨s1, rfl, h⟩
  · rename_i s1; cases h; exact Or.inr ⟨rfl, rfl⟩
  · cases h
theorem cat_ne {T : List Int32} {p : Nat} (h : ¬ cat T p = -1) : p < T.length := by
  unfold cat at h
  by_cases h1 : p < T.length
  · exact h1
  · rw [if_neg h1] at h; exact absurd rfl h
theorem cat_eq {T : List Int32} {p : Nat} {x : Int32} (h : cat T p = x) (hx : ¬ x = -1) : p < T.length := cat_ne (by rw [h]; exact hx)
theorem isD_lt {T : List Int32} {p : Nat} (h : isD (cat T p) = true) : p < T.length := cat_ne (by intro e; rw [e] at h; exact absurd h (by decide))
theorem isL_lt {T : List Int32} {p : Nat} (h : isL (cat T p) = true) : p < T.length := cat_ne (by intro e; rw [e] at h; exact absurd h (by decide))
theorem rsp_mono {T : List Int32} {s : RS} : s.1 ≤ (rsp T s).2.1 ∧ (s.1 ≤ T.length → (rsp T s).2.1 ≤ T.length) ∧ ((rsp T s).1 = true → s.1 < (rsp T s).2.1) := by
  unfold rsp
  by_cases c1 : isD (cat T s.1) = true
  · rw [if_pos c1]
    have := dgs_le (T := T) 6 s.1 (-1)
    refine ⟨this.1, this.2, fun _ => ?_⟩
    show s.1 < (dgs T 6 s.1 (-1)).2
    simp only [dgs, c1, if_true]
    have := dgs_le (T := T) 5 (s.1 + 1) (((if (-1 : Int32) < 0 then 0 else -1) * 10 + cat T s.1) - 48)
    simp only [dgs] at this
    omega
  rw [if_neg c1]
  by_cases c2 : cat T s.1 = 63
  · rw [if_pos c2]; have := cat_eq c2 (by decide); exact ⟨Nat.le_succ _, fun _ => this, fun _ => Nat.lt_succ_self _⟩
  rw [if_neg c2]
  by_cases c3 : cat T s.1 = 64
  · rw [if_pos c3]; have := cat_eq c3 (by decide); exact ⟨Nat.le_succ _, fun _ => this, fun _ => Nat.lt_succ_self _⟩
  rw [if_neg c3]
  by_cases c4 : isL (cat T s.1) = true
  · rw [if_pos c4]; have := isL_lt c4; exact ⟨Nat.le_succ _, fun _ => this, fun _ => Nat.lt_succ_self _⟩
  rw [if_neg c4]
  exact ⟨Nat.le_refl _, fun h => h, fun h => by cases h⟩
/-- reading goes on, and not behind the end -/
theorem rR_mono {T : List Int32} : ∀ f w s b s', rR T f w s = some (b, s') → s.1 ≤ s'.1 ∧ (s.1 ≤ T.length → s'.1 ≤ T.length) ∧ (b = true → w ≠ 5 → w ≠ 6 → w ≠ 7 → s.1 < s'.1) := by
  intro f
  induction f with
  | zero => intro w s b s' h; cases h
  | succ f ih =>
    intro w s b s' h
    have two : ∀ w1 w2 s0, bb (rR T f w1 s0) (rR T f w2) = some (b, s') → w1 ≠ 5 → w1 ≠ 6 → w1 ≠ 7 → s0.1 ≤ s'.1 ∧ (s0.1 ≤ T.length → s'.1 ≤ T.length) ∧ (b = true → s0.1 < s'.1) := by
      intro w1 w2 s0 h h5 h6 h7
      rcases bb_some h with ⟨s1, a1, a2⟩ | ⟨rfl, a1⟩
      · obtain ⟨x1, x2, x3⟩ := ih _ _ _ _ a1
        obtain ⟨y1, y2, -⟩ := ih _ _ _ _ a2
        have := x3 rfl h5 h6 h7
        exact ⟨by omega, fun hh => y2 (x2 hh), fun _ => by omega⟩
      · obtain ⟨x1, x2, -⟩ := ih _ _ _ _ a1
        exact ⟨x1, x2, fun hh => by cases hh⟩
    have op : ∀ w1 w2 k, bb (rR T f w1 (ra s)) (fun s' => rR T f w2 (re s' k 0)) = some (b, s') → s.1 < T.length → s.1 ≤ s'.1 ∧ (s.1 ≤ T.length → s'.1 ≤ T.length) := by
      intro w1 w2 k h hlt
      rcases bb_some h with ⟨s1, a1, a2⟩ | ⟨rfl, a1⟩
      · obtain ⟨x1, x2, x3⟩ := ih _ _ _ _ a1
        obtain ⟨y1, y2, -⟩ := ih _ _ _ _ a2
        have z1 : s.1 + 1 ≤ s1.1 := x1
        have z2 : s1.1 ≤ s'.1 := y1
        exact ⟨by omega, fun _ => y2 (x2 hlt)⟩
      · obtain ⟨x1, x2, -⟩ := ih _ _ _ _ a1
        have z1 : s.1 + 1 ≤ s'.1 := x1
        exact ⟨by omega, fun _ => x2 hlt⟩
    rw [rR] at h
    by_cases w0 : w = 0
    · rw [if_pos w0] at h
      obtain ⟨a, b2, c⟩ := two _ _ _ h (by decide) (by decide) (by decide)
      exact ⟨a, b2, fun hb _ _ _ => c hb⟩
    rw [if_neg w0] at h
    by_cases w1 : w = 1
    · rw [if_pos w1] at h
      obtain ⟨a, b2, c⟩ := two _ _ _ h (by decide) (by decide) (by decide)
      exact ⟨a, b2, fun hb _ _ _ => c hb⟩
    rw [if_neg w1] at h
    by_cases w2 : w = 2
    · rw [if_pos w2] at h
      obtain ⟨a, b2, c⟩ := two _ _ _ h (by decide) (by decide) (by decide)
      exact ⟨a, b2, fun hb _ _ _ => c hb⟩
    rw [if_neg w2] at h
    by_cases w3 : w = 3
    · rw [if_pos w3] at h
      by_cases c1 : cat T s.1 = 35
      · rw [if_pos c1] at h
        have hlt := cat_eq c1 (by decide)
        split at h
        · rename_i b1 s1 hs1
          cases h
          obtain ⟨x1, x2, -⟩ := ih _ _ _ _ hs1
          have z1 : s.1 + 1 ≤ s1.1 := x1
          refine ⟨by show s.1 ≤ s1.1; omega, fun _ => x2 hlt, fun _ _ _ _ => by show s.1 < s1.1; omega⟩
        · cases h
      rw [if_neg c1] at h
      by_cases c2 : cat T s.1 = 40
      · rw [if_pos c2] at h
        have hlt := cat_eq c2 (by decide)
        rcases bb_some h with ⟨s1, a1, a2⟩ | ⟨rfl, a1⟩
        · obtain ⟨x1, x2, -⟩ := ih _ _ _ _ a1
          have z1 : s.1 + 1 ≤ s1.1 := x1
          split at a2
          · rename_i c3
            cases a2
            have := cat_eq c3 (by decide)
            exact ⟨by show s.1 ≤ s1.1 + 1; omega, fun _ => this, fun _ _ _ _ => by show s.1 < s1.1 + 1; omega⟩
          · cases a2
            exact ⟨by omega, fun _ => x2 hlt, fun _ _ _ _ => by omega⟩
        · obtain ⟨x1, x2, -⟩ := ih _ _ _ _ a1
          have z1 : s.1 + 1 ≤ s'.1 := x1
          exact ⟨by omega, fun _ => x2 hlt, fun _ _ _ _ => by omega⟩
      rw [if_neg c2] at h
      by_cases c3 : cat T s.1 = 91
      · rw [if_pos c3] at h
        have hlt := cat_eq c3 (by decide)
        obtain ⟨x1, x2, -⟩ := ih _ _ _ _ h
        have z1 : s.1 + 1 ≤ s'.1 := x1
        exact ⟨by omega, fun _ => x2 hlt, fun _ _ _ _ => by omega⟩
      rw [if_neg c3] at h
      have := rsp_mono (T := T) (s := s)
      have e : rsp T s = (b, s') := Option.some.inj h
      rw [e] at this
      exact ⟨this.1, this.2.1, fun hb _ _ _ => this.2.2 hb⟩
    rw [if_neg w3] at h
    by_cases w5 : w = 5
    · rw [if_pos w5] at h
      split at h
      · rename_i c
        obtain ⟨a, b2⟩ := op _ _ _ h (cat_eq c (by decide))
        exact ⟨a, b2, fun _ h5 => absurd w5 h5⟩
      · split at h
        · rename_i c
          obtain ⟨a, b2⟩ := op _ _ _ h (cat_eq c (by decide))
          exact ⟨a, b2, fun _ h5 => absurd w5 h5⟩
        · cases h
          exact ⟨Nat.le_refl _, fun h => h, fun _ h5 => absurd w5 h5⟩
    rw [if_neg w5] at h
    by_cases w6 : w = 6
    · rw [if_pos w6] at h
      split at h
      · rename_i c
        obtain ⟨a, b2⟩ := op _ _ _ h (cat_eq c (by decide))
        exact ⟨a, b2, fun _ _ h5 => absurd w6 h5⟩
      · cases h
        exact ⟨Nat.le_refl _, fun h => h, fun _ _ h5 => absurd w6 h5⟩
    rw [if_neg w6] at h
    by_cases w7 : w = 7
    · rw [if_pos w7] at h
      split at h
      · rename_i c
        have hlt := cat_eq c (by decide)
        split at h
        · rename_i c2
          have hlt2 := isD_lt c2
          obtain ⟨x1, x2, -⟩ := ih _ _ _ _ h
          have z1 : s.1 + 1 + 1 ≤ s'.1 := x1
          exact ⟨by omega, fun _ => x2 hlt2, fun _ _ _ h5 => absurd w7 h5⟩
        · cases h
          exact ⟨Nat.le_succ _, fun _ => hlt, fun _ _ _ h5 => absurd w7 h5⟩
      · cases h
        exact ⟨Nat.le_refl _, fun h => h, fun _ _ _ h5 => absurd w7 h5⟩
    rw [if_neg w7] at h
    rcases bb_some h with ⟨s1, a1, a2⟩ | ⟨rfl, a1⟩
    · obtain ⟨x1, x2, x3⟩ := ih _ _ _ _ a1
      have := x3 rfl (by decide) (by decide) (by decide)
      split at a2
      · rename_i c
        have hlt := cat_eq c (by decide)
        cases a2
        exact ⟨by show s.1 ≤ s1.1 + 1; omega, fun _ => hlt, fun _ _ _ _ => by show s.1 < s1.1 + 1; omega⟩
      · split at a2
        · cases a2
          exact ⟨x1, x2, fun hb => by cases hb⟩
        · split at a2
          · rename_i c
            have hlt := cat_eq c (by decide)
            obtain ⟨y1, y2, -⟩ := ih _ _ _ _ a2
            have z1 : s1.1 + 1 ≤ s'.1 := y1
            exact ⟨by omega, fun _ => y2 hlt, fun _ _ _ _ => by omega⟩
          · cases a2
            exact ⟨x1, x2, fun hb => by cases hb⟩
    · obtain ⟨x1, x2, -⟩ := ih _ _ _ _ a1
      exact ⟨x1, x2, fun hh => by cases hh⟩
