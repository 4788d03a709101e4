/-! ===== the faults of texts of statements: the same on both sides ===== -/
section S52
variable {T : List Int32}
/-- areExpressions, from the place p on: whether, and where it stands -/
def arE (T : List Int32) : Nat → Nat → Bool × Nat
  | 0, p => (false, p)
  | f + 1, p =>
    let p1 := if sgn T p = 61 ∨ sgn T p = 33 then p + 2 else p
    if (scF T 50 (p1, [], true)).1 = true then (if (scF T 50 (p1, [], true)).2 < T.length then arE T f ((scF T 50 (p1, [], true)).2 + 1) else (true, (scF T 50 (p1, [], true)).2)) else (false, (scF T 50 (p1, [], true)).2)
/-- an expression alone, as the scanner ends it -/
theorem ex_scan (hT : T.length ≤ 40) {s : RS} (hp : s.1 ≤ T.length) : scF T 50 (s.1, [], true) = (if (rex T s).1 = true then (if ¬ (rex T s).2.1 < T.length ∨ cat T (rex T s).2.1 = 59 then (true, (rex T s).2.1) else (false, (rex T s).2.1)) else (false, (rex T s).2.1)) := by
  have e := rex_E hT hp
  have hm := rR_mono 400 0 s (rex T s).1 (rex T s).2 e
  have hq := hm.2.1 hp
  have S := (s_scan hT 400 0 s (rex T s).1 (rex T s).2 e [] hp).1 (by decide)
  cases hb : (rex T s).1 with
  | false =>
    rw [if_neg (by decide)]
    exact S.2 hb 50 (by show 41 ≤ 50 + s.1; omega)
  | true =>
    rw [if_pos rfl]
    obtain ⟨i1, i2, i3, i4⟩ := S.1 hb
    have k1 := i2 (by decide); have k2 := i3 (by decide); have k3 := i4 rfl
    rcases i1 with i1 | ⟨i1, i5⟩
    · obtain ⟨K', hK, hE⟩ := i1 50 (by show 41 ≤ 50 + s.1; omega)
      rw [hE]
      refine (Ex_1 (by show (rex T s).2.1 ≤ 40; omega) ?_ : Ex T _ _) K' hK
      unfold scS
      dsimp only
      by_cases c : ¬ (rex T s).2.1 < T.length ∨ cat T (rex T s).2.1 = 59
      · rw [if_pos ⟨rfl, rfl, c⟩, if_pos c]
      · rw [if_neg (fun hh => c hh.2.2), if_neg c, if_neg (by decide), if_neg k1, if_neg (fun hh => hh.elim k3.1 (fun hh => hh.elim k3.2 k2))]
    · have d := D_ne i1
      have hlt := isD_lt i1
      rw [if_neg (fun hh => hh.elim (fun h => h hlt) d.2.2.2.2.2.2.2)]
      exact i5 50 (by show 41 ≤ 50 + s.1; omega)
theorem rst2_pl {sg x : Int32} {s : RS} : (rst2 T sg x s).1 = (rex T s).1 ∧ (rst2 T sg x s).2.1 = (rex T s).2.1 := by
  unfold rst2
  cases hb : (rex T s).1 with
  | false => exact ⟨rfl, rfl⟩
  | true =>
    rw [if_pos rfl]
    dsimp only
    by_cases c : sg = 61
    · rw [if_pos c]; exact ⟨rfl, rfl⟩
    · rw [if_neg c]
      split <;> exact ⟨rfl, rfl⟩
theorem sgn_lt {p : Nat} (h : sgn T p = 61 ∨ sgn T p = 33) : p + 2 ≤ T.length := by
  unfold sgn at h
  by_cases hl : isL (cat T p) = true
  · rw [if_pos hl] at h
    have : p + 1 < T.length := by
      rcases h with h | h
      · exact cat_eq h (by decide)
      · exact cat_eq h (by decide)
    omega
  · rw [if_neg hl] at h
    rcases h with h | h <;> exact absurd h (by decide)
theorem rst_scan (hT : T.length ≤ 40) {s : RS} (hp : s.1 ≤ T.length) : (rst T s).2.1 ≤ T.length ∧ s.1 ≤ (rst T s).2.1 ∧ ((rst T s).1 = true → s.1 < (rst T s).2.1) ∧ scF T 50 (if sgn T s.1 = 61 ∨ sgn T s.1 = 33 then s.1 + 2 else s.1, [], true) = (if (rst T s).1 = true then (if ¬ (rst T s).2.1 < T.length ∨ cat T (rst T s).2.1 = 59 then (true, (rst T s).2.1) else (false, (rst T s).2.1)) else (false, (rst T s).2.1)) := by
  have one : ∀ s0 : RS, s0.1 ≤ T.length → s.1 ≤ s0.1 → ∀ r : Bool × RS, r.1 = (rex T s0).1 → r.2.1 = (rex T s0).2.1 → r.2.1 ≤ T.length ∧ s.1 ≤ r.2.1 ∧ (r.1 = true → s.1 < r.2.1) ∧ scF T 50 (s0.1, [], true) = (if r.1 = true then (if ¬ r.2.1 < T.length ∨ cat T r.2.1 = 59 then (true, r.2.1) else (false, r.2.1)) else (false, r.2.1)) := by
    intro s0 h0 h1 r e1 e2
    have hm := rR_mono 400 0 s0 (rex T s0).1 (rex T s0).2 (rex_E hT h0)
    rw [e1, e2]
    refine ⟨hm.2.1 h0, by have := hm.1; omega, fun hb => ?_, ex_scan hT h0⟩
    have := hm.2.2 hb (by decide) (by decide) (by decide)
    omega
  unfold rst
  by_cases c1 : sgn T s.1 = 61
  · have hlt := sgn_lt (Or.inl c1)
    rw [if_pos c1, if_pos (Or.inl c1)]
    have := rst2_pl (T := T) (sg := 61) (x := cat T s.1 - 97) (s := ra (ra (rstart s)))
    exact one (ra (ra (rstart s))) hlt (by show s.1 ≤ s.1 + 1 + 1; omega) _ this.1 this.2
  · rw [if_neg c1]
    by_cases c2 : sgn T s.1 = 33
    · have hlt := sgn_lt (Or.inr c2)
      rw [if_pos c2, if_pos (Or.inr c2)]
      have := rst2_pl (T := T) (sg := 33) (x := cat T s.1 - 97) (s := re (ra (ra (rstart s))) 11 (cat T s.1 - 97))
      exact one (re (ra (ra (rstart s))) 11 (cat T s.1 - 97)) hlt (by show s.1 ≤ s.1 + 1 + 1; omega) _ this.1 this.2
    · rw [if_neg c2, if_neg (fun hh => hh.elim c1 c2)]
      exact one (rstart s) hp (Nat.le_refl _) ((rex T (rstart s)).1, re (rex T (rstart s)).2 14 0) rfl rfl
theorem rss_scan (hT : T.length ≤ 40) : ∀ (f F : Nat) (s : RS), s.1 ≤ T.length → 41 ≤ 2 * f + s.1 → 41 ≤ 2 * F + s.1 → arE T F s.1 = (if (rss T f s).1 = true ∧ ¬ (rss T f s).2.1 < T.length then (true, (rss T f s).2.1) else (false, (rss T f s).2.1)) ∧ (rss T f s).2.1 ≤ T.length := by
  intro f
  induction f with
  | zero => intro F s hp hf; omega
  | succ f ih =>
    intro F s hp hf hF
    obtain ⟨F, rfl⟩ : ∃ k, F = k + 1 := ⟨F - 1, by omega⟩
    obtain ⟨h1, h0, h2, h3⟩ := rst_scan hT hp
    simp only [arE, rss]
    rw [h3]
    by_cases hb : (rst T s).1 = true
    · have h2' := h2 hb
      simp only [hb, if_true]
      by_cases c : cat T (rst T s).2.1 = 59
      · have hlt := cat_eq c (by decide)
        have := ih F (ra (rst T s).2) hlt (by show 41 ≤ 2 * f + ((rst T s).2.1 + 1); omega) (by show 41 ≤ 2 * F + ((rst T s).2.1 + 1); omega)
        simp only [c, or_true, if_true, hlt]
        exact this
      · by_cases c2 : (rst T s).2.1 < T.length
        · simp [c, c2, h1]
        · simp [c, c2, h1]
    · have hb' : (rst T s).1 = false := by simpa using hb
      simp only [hb', Bool.false_eq_true, if_false]
      simp [h1]
theorem fault0 (hT : T.length ≤ 40) : rdF T 0 = if (arE T 40 0).1 = true then -1 else Int32.ofNat (arE T 40 0).2 := by
  have h := rss_scan hT 40 40 (0, [], 0, 0, 0, 0, 0) (Nat.zero_le _) (by decide) (by decide)
  have e : rdA T 0 = rss T 40 (0, [], 0, 0, 0, 0, 0) := by
    unfold rdA; rw [if_neg (by decide : ¬ (0 : Int32) = 1), if_neg (by decide : ¬ (0 : Int32) = 2)]
  unfold rdF
  rw [e, h.1]
  generalize rss T 40 (0, [], 0, 0, 0, 0, 0) = r at *
  obtain ⟨b, s'⟩ := r
  cases b with
  | false => simp
  | true => by_cases c : s'.1 < T.length <;> simp [c]
end S52
