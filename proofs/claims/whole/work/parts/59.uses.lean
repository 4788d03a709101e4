/-! ===== no ; stands in an expression ===== -/
def NS (T : List Int32) (s s' : RS) : Prop := s.1 ≤ s'.1 ∧ ∀ i, s.1 ≤ i → i < s'.1 → ¬ cat T i = 59
section U59
variable {T : List Int32}
theorem NS_refl {s : RS} : NS T s s := ⟨Nat.le_refl _, fun i h1 h2 => by omega⟩
theorem NS_trans {a b c : RS} (x : NS T a b) (y : NS T b c) : NS T a c := by
  refine ⟨Nat.le_trans x.1 y.1, fun i h1 h2 => ?_⟩
  by_cases h : i < b.1
  · exact x.2 i h1 h
  · exact y.2 i (by omega) h2
theorem NS_ra {s : RS} (h : ¬ cat T s.1 = 59) : NS T s (ra s) := by
  refine ⟨Nat.le_succ _, fun i h1 h2 => ?_⟩
  have h3 : i < s.1 + 1 := h2
  have : i = s.1 := by omega
  rw [this]; exact h
theorem NS_re {s : RS} {k d : Int32} : NS T s (re s k d) := ⟨Nat.le_refl _, fun i h1 h2 => by
  have h3 : i < s.1 := h2
  omega⟩
theorem n59 {x c : Int32} (h : x = c) (hc : decide (c = 59) = false) : ¬ x = 59 := by
  rw [h]; simpa using hc
theorem rsp_NS {s : RS} (h : (rsp T s).1 = true) : NS T s (rsp T s).2 := by
  unfold rsp at h ⊢
  by_cases c1 : isD (cat T s.1) = true
  · rw [if_pos c1]
    have hd := dgs_le (T := T) 6 s.1 (-1)
    refine ⟨hd.1, fun i h1 h2 => ?_⟩
    exact (D_ne (dgs_D 6 s.1 (-1) i h1 h2)).2.2.2.2.2.2.2
  rw [if_neg c1] at h ⊢
  by_cases c2 : cat T s.1 = 63
  · rw [if_pos c2]; exact NS_trans (NS_ra (n59 c2 (by decide))) NS_re
  rw [if_neg c2] at h ⊢
  by_cases c3 : cat T s.1 = 64
  · rw [if_pos c3]; exact NS_trans (NS_ra (n59 c3 (by decide))) NS_re
  rw [if_neg c3] at h ⊢
  by_cases c4 : isL (cat T s.1) = true
  · rw [if_pos c4]
    have hn : ¬ cat T s.1 = 59 := by intro e; rw [e] at c4; exact absurd c4 (by decide)
    exact NS_ra (s := s) hn
  · rw [if_neg c4] at h; cases h
theorem rR_NS : ∀ (f w : Nat) (s s' : RS), rR T f w s = some (true, s') → NS T s s' := by
  intro f
  induction f with
  | zero => intro w s s' h; cases h
  | succ f ih =>
    intro w s s' h
    have two : ∀ w1 w2, bb (rR T f w1 s) (rR T f w2) = some (true, s') → NS T s s' := by
      intro w1 w2 h
      rcases bb_some h with ⟨s1, a1, a2⟩ | ⟨h1, -⟩
      · exact NS_trans (ih _ _ _ a1) (ih _ _ _ a2)
      · cases h1
    have op : ∀ w1 w2 k, ¬ cat T s.1 = 59 → bb (rR T f w1 (ra s)) (fun s' => rR T f w2 (re s' k 0)) = some (true, s') → NS T s s' := by
      intro w1 w2 k hn h
      rcases bb_some h with ⟨s1, a1, a2⟩ | ⟨h1, -⟩
      · exact NS_trans (NS_ra hn) (NS_trans (ih _ _ _ a1) (NS_trans NS_re (ih _ _ _ a2)))
      · cases h1
    rw [rR] at h
    by_cases w0 : w = 0
    · rw [if_pos w0] at h; exact two _ _ h
    rw [if_neg w0] at h
    by_cases w1 : w = 1
    · rw [if_pos w1] at h; exact two _ _ h
    rw [if_neg w1] at h
    by_cases w2 : w = 2
    · rw [if_pos w2] at h; exact two _ _ h
    rw [if_neg w2] at h
    by_cases w3 : w = 3
    · rw [if_pos w3] at h
      by_cases c1 : cat T s.1 = 35
      · rw [if_pos c1] at h
        split at h
        · rename_i b1 s1 hs1
          have e1 : b1 = true := by cases h; rfl
          have e2 : s' = re s1 8 0 := by cases h; rfl
          rw [e1] at hs1
          rw [e2]
          exact NS_trans (NS_ra (n59 c1 (by decide))) (NS_trans (ih _ _ _ hs1) NS_re)
        · cases h
      rw [if_neg c1] at h
      by_cases c2 : cat T s.1 = 40
      · rw [if_pos c2] at h
        rcases bb_some h with ⟨s1, a1, a2⟩ | ⟨h1, -⟩
        · split at a2
          · rename_i c3
            have e2 : s' = ra s1 := by cases a2; rfl
            rw [e2]
            exact NS_trans (NS_ra (n59 c2 (by decide))) (NS_trans (ih _ _ _ a1) (NS_ra (n59 c3 (by decide))))
          · cases a2
        · cases h1
      rw [if_neg c2] at h
      by_cases c3 : cat T s.1 = 91
      · rw [if_pos c3] at h
        exact NS_trans (NS_ra (n59 c3 (by decide))) (ih _ _ _ h)
      rw [if_neg c3] at h
      have e : rsp T s = (true, s') := Option.some.inj h
      have := rsp_NS (T := T) (s := s) (by rw [e])
      rw [e] at this; exact this
    rw [if_neg w3] at h
    by_cases w5 : w = 5
    · rw [if_pos w5] at h
      by_cases c1 : cat T s.1 = 43
      · rw [if_pos c1] at h; exact op _ _ _ (n59 c1 (by decide)) h
      rw [if_neg c1] at h
      by_cases c2 : cat T s.1 = 45
      · rw [if_pos c2] at h; exact op _ _ _ (n59 c2 (by decide)) h
      rw [if_neg c2] at h
      have e2 : s' = s := by cases h; rfl
      rw [e2]; exact NS_refl
    rw [if_neg w5] at h
    by_cases w6 : w = 6
    · rw [if_pos w6] at h
      by_cases c1 : cat T s.1 = 42
      · rw [if_pos c1] at h; exact op _ _ _ (n59 c1 (by decide)) h
      rw [if_neg c1] at h
      have e2 : s' = s := by cases h; rfl
      rw [e2]; exact NS_refl
    rw [if_neg w6] at h
    by_cases w7 : w = 7
    · rw [if_pos w7] at h
      by_cases c1 : cat T s.1 = 46
      · rw [if_pos c1] at h
        by_cases c2 : isD (cat T (s.1 + 1)) = true
        · rw [if_pos c2] at h
          have hn : ¬ cat T (s.1 + 1) = 59 := (D_ne c2).2.2.2.2.2.2.2
          exact NS_trans (NS_ra (n59 c1 (by decide))) (NS_trans NS_re (NS_trans (NS_ra (s := re (ra s) 7 (cat T (s.1 + 1) - 48)) hn) (ih _ _ _ h)))
        · rw [if_neg c2] at h; cases h
      rw [if_neg c1] at h
      have e2 : s' = s := by cases h; rfl
      rw [e2]; exact NS_refl
    rw [if_neg w7] at h
    rcases bb_some h with ⟨s1, a1, a2⟩ | ⟨h1, -⟩
    · have u1 := ih _ _ _ a1
      by_cases c1 : cat T s1.1 = 93
      · rw [if_pos c1] at a2
        have e2 : s' = re (ra (re s1 9 0)) 10 (Int32.ofNat (w - 7)) := by cases a2; rfl
        rw [e2]
        exact NS_trans u1 (NS_trans NS_re (NS_trans (NS_ra (s := re s1 9 0) (n59 c1 (by decide))) NS_re))
      rw [if_neg c1] at a2
      by_cases w15 : w = 15
      · rw [if_pos w15] at a2; cases a2
      rw [if_neg w15] at a2
      by_cases c2 : cat T s1.1 = 44
      · rw [if_pos c2] at a2
        exact NS_trans u1 (NS_trans NS_re (NS_trans (NS_ra (s := re s1 9 0) (n59 c2 (by decide))) (ih _ _ _ a2)))
      · rw [if_neg c2] at a2; cases a2
    · cases h1
end U59
