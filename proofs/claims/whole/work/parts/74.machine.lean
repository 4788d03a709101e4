/-! ===== the class's machine: a run ===== -/
/-- a step that statements may have -/
def okS (k d : Int32) : Prop := k = 0 ∨ ((k = 1 ∨ k = 11 ∨ k = 12 ∨ k = 13) ∧ ∃ j, j < 26 ∧ d = Int32.ofNat j) ∨ (k = 2 ∨ k = 3) ∨ (k = 4 ∨ k = 5 ∨ k = 6) ∨ (k = 7 ∧ ∃ j, j < 10 ∧ d = Int32.ofNat j) ∨ k = 8 ∨ k = 9 ∨ (k = 10 ∧ ∃ j, j < 40 ∧ d = Int32.ofNat j) ∨ k = 14
/-- the pure run: error, its place, the state -/
def xr (p : DP) : List ST → PM → Option (Int32 × Int32 × PM)
  | [], P => some (0, 0, P)
  | a :: C, P => match xs p a.1 a.2.1 P with
    | none => none
    | some r => if r.1 = 0 then xr p C r.2 else some (r.1, a.2.2, r.2)
section S74
variable {h h' : Hp} {P : PM} {p : DP} {R : Nat}
theorem xs_dr {k d : Int32} {r : Int32 × PM} (hk : ¬ (k = 2 ∨ k = 3)) (hx : xs p k d P = some r) : r.2.2.2 = P.2.2 := by
  unfold xs at hx
  by_cases c0 : k = 0
  · rw [if_pos c0] at hx
    revert hx
    repeat' split
    all_goals (intro hx; cases hx)
    all_goals rfl
  rw [if_neg c0] at hx
  by_cases c1 : k = 1
  · rw [if_pos c1] at hx
    revert hx
    repeat' split
    all_goals (intro hx; cases hx)
    all_goals rfl
  rw [if_neg c1] at hx
  rw [if_neg hk] at hx
  by_cases c3 : k = 4 ∨ k = 5 ∨ k = 6
  · rw [if_pos c3] at hx
    revert hx
    repeat' split
    all_goals (intro hx; cases hx)
    all_goals rfl
  rw [if_neg c3] at hx
  by_cases c4 : k = 7
  · rw [if_pos c4] at hx
    revert hx
    repeat' split
    all_goals (intro hx; cases hx)
    all_goals rfl
  rw [if_neg c4] at hx
  by_cases c5 : k = 8
  · rw [if_pos c5] at hx
    revert hx
    repeat' split
    all_goals (intro hx; cases hx)
    all_goals rfl
  rw [if_neg c5] at hx
  by_cases c6 : k = 9
  · rw [if_pos c6] at hx
    revert hx
    repeat' split
    all_goals (intro hx; cases hx)
    all_goals rfl
  rw [if_neg c6] at hx
  by_cases c7 : k = 10
  · rw [if_pos c7] at hx
    revert hx
    repeat' split
    all_goals (intro hx; cases hx)
    all_goals rfl
  rw [if_neg c7] at hx
  by_cases c8 : k = 11
  · rw [if_pos c8] at hx
    revert hx
    repeat' split
    all_goals (intro hx; cases hx)
    all_goals rfl
  rw [if_neg c8] at hx
  by_cases c9 : k = 12
  · rw [if_pos c9] at hx
    revert hx
    repeat' split
    all_goals (intro hx; cases hx)
    all_goals rfl
  rw [if_neg c9] at hx
  by_cases c10 : k = 13
  · rw [if_pos c10] at hx
    revert hx
    repeat' split
    all_goals (intro hx; cases hx)
    all_goals rfl
  rw [if_neg c10] at hx
  by_cases c11 : k = 14
  · rw [if_pos c11] at hx
    revert hx
    repeat' split
    all_goals (intro hx; cases hx)
    all_goals rfl
  rw [if_neg c11] at hx
  cases hx
theorem x_18 {k d : Int32} (hk : okS k d) (H : pm h P) (D : dc h R p P.2.2) {r : Int32 × PM} (hx : xs p k d P = some r) : ∃ h', p_18 h k d = some (r.1, h') ∧ pm h' r.2 ∧ dc h' R p r.2.2.2 ∧ rfx R h h' := by
  have hR := D.1
  have fin : ∀ h', ¬ (k = 2 ∨ k = 3) → p_18 h k d = some (r.1, h') → pm h' r.2 → xfr h h' → ∃ h', p_18 h k d = some (r.1, h') ∧ pm h' r.2 ∧ dc h' R p r.2.2.2 ∧ rfx R h h' := by
    intro h' hn a b f
    refine ⟨h', a, b, ?_, rfx_x hR f⟩
    rw [xs_dr hn hx]
    exact dc_x D f
  rcases hk with rfl | ⟨h1, j, hj, rfl⟩ | h1 | h1 | ⟨rfl, j, hj, rfl⟩ | rfl | rfl | ⟨rfl, j, hj, rfl⟩ | rfl
  · have hx2 : (if P.2.1.length < 27 then some ((0 : Int32), P.1, .inl d :: P.2.1, P.2.2) else none : Option (Int32 × PM)) = some r := hx
    by_cases c : P.2.1.length < 27
    · rw [if_pos c] at hx2
      cases hx2
      obtain ⟨h1, a1, a2, a3⟩ := x_19 (n := d) H c (dr := P.2.2)
      refine fin h1 (by decide) ?_ a2 a3
      unfold p_18; rw [if_pos rfl, a1]; rfl
    · rw [if_neg c] at hx2; cases hx2
  · rcases h1 with rfl | rfl | rfl | rfl
    · obtain ⟨h1, a1, a2, a3⟩ := x_20 hj H hx
      refine fin h1 (by decide) ?_ a2 a3
      show (p_20 h (Int32.ofNat j)).bind _ = _
      rw [a1]; rfl
    · obtain ⟨a1, a2, a3⟩ := x_11 hj H hx
      refine fin h (by decide) ?_ (by rw [a3]; exact H) xfr_refl
      show w_gd (g_63 29 (Int32.ofNat j)) _ = _
      rw [a1]
      simp only [w_gd]
      rw [a2]
    · have hx2 : (match P.2.1 with
        | v :: st => some ((0 : Int32), eup P.1 (Int32.ofNat j).toNatClampNeg (some v), st, P.2.2)
        | [] => none : Option (Int32 × PM)) = some r := hx
      rw [u_cl (by omega)] at hx2
      cases es : P.2.1 with
      | nil => rw [es] at hx2; cases hx2
      | cons v st =>
        rw [es] at hx2
        cases hx2
        obtain ⟨h1, a1, a2, a3⟩ := x_21 (show j < 27 by omega) H es
        refine fin h1 (by decide) ?_ a2 a3
        show (p_21 h (Int32.ofNat j)).bind _ = _
        rw [a1]; rfl
    · obtain ⟨h1, a1, a2, a3⟩ := x_23 hj H hx
      refine fin h1 (by decide) ?_ a2 a3
      show (p_23 h (Int32.ofNat j)).bind _ = _
      rw [a1]; rfl
  · have hx2 : (if P.2.1.length < 27 ∧ P.2.2.1 < 40 then some ((0 : Int32), P.1, .inl (drw p (k - 2) P.2.2).1 :: P.2.1, (drw p (k - 2) P.2.2).2) else none : Option (Int32 × PM)) = some r := by
      rw [← hx]; rcases h1 with rfl | rfl <;> rfl
    by_cases c : P.2.1.length < 27 ∧ P.2.2.1 < 40
    · rw [if_pos c] at hx2
      cases hx2
      have hk2 : k - 2 = 0 ∨ k - 2 = 1 := by rcases h1 with rfl | rfl <;> decide
      obtain ⟨g, a1, a2, a3, a4⟩ := x_54 hk2 D c.2
      have Hg : pm g P := by
        obtain ⟨b1, b2, b3, b4, b5⟩ := H
        refine ⟨fun i hi => cv_fr (b1 i hi) (a4 _ (by decide)) (a4 _ (by decide)), stk_fr b2 (a4 _ (by decide)) (a4 _ (by decide)), ?_, b4, ?_⟩
        · rw [a4 28 (by decide)]; exact b3
        · rw [a4 28 (by decide)]; exact b5
      obtain ⟨h1', c1, c2, c3⟩ := x_19 (n := (drw p (k - 2) P.2.2).1) Hg c.1 (dr := (drw p (k - 2) P.2.2).2)
      refine ⟨h1', ?_, c2, dc_x a2 c3, rfx_trans a3 (rfx_x hR c3)⟩
      have gd : (h 28 4 == 40) = true := by rw [H.2.2.2.2]; rfl
      rcases h1 with rfl | rfl
      · show w_gd (h 28 4 == 40) ((p_54 h 0).bind _) = _
        have a1' : p_54 h 0 = some ((drw p (2 - 2) P.2.2).1, g) := a1
        rw [gd, a1']
        simp only [w_gd, Option.bind_some]
        rw [c1]
        rfl
      · show w_gd (h 28 4 == 40) ((p_54 h 1).bind _) = _
        have a1' : p_54 h 1 = some ((drw p (3 - 2) P.2.2).1, g) := a1
        rw [gd, a1']
        simp only [w_gd, Option.bind_some]
        rw [c1]
        rfl
    · rw [if_neg c] at hx2; cases hx2
  · obtain ⟨h1', a1, a2, a3⟩ := x_22 h1 H hx
    refine fin h1' (by rcases h1 with rfl | rfl | rfl <;> decide) ?_ a2 a3
    rcases h1 with rfl | rfl | rfl
    · show (p_22 h 4).bind _ = _
      rw [a1]; rfl
    · show (p_22 h 5).bind _ = _
      rw [a1]; rfl
    · show (p_22 h 6).bind _ = _
      rw [a1]; rfl
  · obtain ⟨h1, a1, a2, a3⟩ := x_24 hj H hx
    refine fin h1 (by decide) ?_ a2 a3
    show (p_24 h (Int32.ofNat j)).bind _ = _
    rw [a1]; rfl
  · obtain ⟨h1, a1, a2, a3⟩ := x_25 H hx
    refine fin h1 (by decide) ?_ a2 a3
    show (p_25 h).bind _ = _
    rw [a1]; rfl
  · obtain ⟨a1, a2, a3⟩ := x_9 H hx
    refine fin h (by decide) ?_ (by rw [a3]; exact H) xfr_refl
    show w_gd (g_64 32 (h 28 2 - 1)) _ = _
    rw [a1]
    simp only [w_gd]
    rw [a2]
  · obtain ⟨h1, a1, a2, a3⟩ := x_26 hj H hx
    refine fin h1 (by decide) ?_ a2 a3
    show (p_26 h (Int32.ofNat j)).bind _ = _
    rw [a1]; rfl
  · have hx2 : (match P.2.1 with
      | v :: st => some ((0 : Int32), eup P.1 26 (some v), st, P.2.2)
      | [] => none : Option (Int32 × PM)) = some r := hx
    cases es : P.2.1 with
    | nil => rw [es] at hx2; cases hx2
    | cons v st =>
      rw [es] at hx2
      cases hx2
      obtain ⟨h1, a1, a2, a3⟩ := x_21 (show 26 < 27 by omega) H es
      refine fin h1 (by decide) ?_ a2 a3
      have a1' : p_21 h 26 = some (0, h1) := a1
      show (p_21 h 26).bind _ = _
      rw [a1']; rfl
end S74
